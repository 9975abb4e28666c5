/-! ===== deepCopy by hand: the NET is marked, its words are counted ===== -/
section CpA
variable {B : WB} {l : Launch} {S : Sh} {D D0 Ds D1 M N : Mem} {c : SC} {i p : Nat} {x1 : Int}
theorem bor_r0 {a : Int} (h : a = 0 ∨ a = 1) : bor a 0 = a := by
  rcases h with rfl | rfl <;> decide +kernel
def PkN (N Ds : Mem) (c : SC) (k : Nat) : Prop := ∀ a : Nat, a < k → (a : Int) < N 80 0 → BS Ds c 8 a → ∀ i q : Nat, (i : Int) < lnkR N 80 a → Ed N 80 a i q → N 82 q ≤ 2 → Tm N Ds c 8 q
def FkN (N Ds : Mem) (c : SC) (k i : Nat) : Prop := ∀ j q : Nat, j < i → (j : Int) < lnkR N 80 k → Ed N 80 k j q → N 82 q ≤ 2 → Tm N Ds c 8 q
section CpA1
variable {G : GT} {Q : Int → Sh → Mem → Prop} {K n9 kk nn t2 : Nat}
theorem cp_net (hG : CtU G md_X12_copied [] S (uS kI M Q) B l K n9) (hS : SOK S D0) (hI : Inv i N) (hR : SR N S D0 c) (hbk : kk ≤ K ∧ nn ≤ n9) (hp : (p : Int) < N 80 0) (hB0 : ∀ q : Nat, (q : Int) < N 80 0 → (BS D0 c 8 q ↔ q = p)) (nx : ∀ D1, AddM N S D0 D1 c 8 (Nt N p) → L_X12_copied_151 G S D1 M kk nn (s_m c) x1 t2 0 0) : L_X12_copied_30 G S D0 M kk nn (s_m c) x1 t2 1 := by
  have hL := hR.l
  have hO := hR.o
  have hob := obI_of hI.ob
  have h208 := hob.1
  have hCs : ∀ q : Nat, (q : Int) < N 80 0 → BS D0 c 8 q → Nt N p q := fun q hq hB => by rw [(hB0 q hq).mp hB]; exact nt_self
  have main : ∀ (m : Nat) (Ds : Mem), IvS N S D0 Ds c 8 (Nt N p) → (N 80 0).toNat - kc (BS Ds c 8) (N 80 0).toNat ≤ m → L_X12_copied_39 G S Ds M kk nn (s_m c) x1 t2 0 0 := by
    intro m
    induction m using Nat.strongRecOn with
    | _ m ihm =>
    intro Ds hDs hm
    have k39 : ∀ r k : Nat, (k : Int) + r = N 80 0 → ∀ D1 x4, Jn N S D0 Ds D1 c 8 (Nt N p) x4 (PkN N Ds c k) → L_X12_copied_39 G S D1 M kk nn (s_m c) x1 t2 x4 k := by
      intro r
      induction r with
      | zero =>
        intro k hk D1 x4 hJ
        have hL1 := srl_nm hJ.1.1 hL
        have hO1 := sro_nm hJ.1.1 hL hO
        refine go_X12_copied_39 hG Xs.rf (smC hL1) (fun z => ⟨⟨by omega, by omega⟩, z, fun _ => go_X12_copied_30 hG Xs.rf (smC hL1) ⟨inR_b (jn_01 hJ), fun h0 => ?_, fun h0 => ?_⟩, fun z2 => by rw [hO1.1] at z2; omega⟩)
        · rcases hJ.2 with ⟨-, rfl, hP⟩ | ⟨h1, -⟩
          · refine nx D1 ⟨hDs.1, hDs.2.1, fun q hqc d hd => ?_⟩
            by_cases hdb : d = 8
            · subst hdb
              constructor
              · exact fun hB => Or.inr ⟨rfl, hDs.2.2.2.2 q hqc hB⟩
              · rintro (hB | ⟨-, hB⟩)
                · exact hDs.2.2.2.1 q hqc hB
                · refine (hB (Tm N D1 c 8) ⟨hp, hDs.2.2.2.1 p hp ((hB0 p hp).mpr rfl)⟩ (fun a k2 q2 ha hTa hk2 he h2 => ?_)).2
                  exact hP a (by omega) ha hTa.2 k2 q2 hk2 he h2
            · rw [hDs.2.2.1 q hqc d hd hdb]
              exact ⟨Or.inl, fun z => z.elim id (fun y => absurd y.1 hdb)⟩
          · omega
        · rcases hJ.2 with ⟨h1, -⟩ | ⟨-, hG1, q, q1, q2, q3⟩
          · exact absurd h1 h0
          · have hlt := kc_grow (P := BS Ds c 8) (Q := BS D1 c 8) (n := (N 80 0).toNat) (fun p hp => hG1 p (by omega)) (q := q) (by omega) q2 q3
            have hle := kc_le (K := BS D1 c 8) (p := (N 80 0).toNat)
            exact ihm ((N 80 0).toNat - kc (BS D1 c 8) (N 80 0).toNat) (by omega) D1 hJ.1 (Nat.le_refl _)
      | succ r ih =>
        intro k hk D1 x4 hJ
        have hpk : (k : Int) < N 80 0 := by omega
        have ht := hO.2.2 k hpk
        have hL1 := srl_nm hJ.1.1 hL
        have hO1 := sro_nm hJ.1.1 hL hO
        have nxt : ∀ D1 x4, Jn N S D0 Ds D1 c 8 (Nt N p) x4 (PkN N Ds c (k + 1)) → L_X12_copied_39 G S D1 M kk nn (s_m c) x1 t2 x4 (k + 1) := ih (k + 1) (by push_cast at hk ⊢; omega)
        have al : ∀ u : Nat, u = (D1 (s_m c) 0).toNat → u = s_al c := fun u hu => hu.trans hL1.2.1.1
        have ix : ∃ L : Nat, IsA S (s_al c) 102 L ∧ 0 ≤ (k : Int) ∧ (k : Int) < L := ⟨256, ia_al hL1, by omega, by omega⟩
        have ht1 := hO1.2.2 k hpk
        have etg := nm_tg hL hJ.1.1 k
        refine go_X12_copied_39 hG Xs.rf (smC hL1) (fun z => ⟨⟨by omega, by omega⟩, z, fun z2 => by rw [hO1.1] at z2; omega, fun z2 u hu => ?_⟩)
        rw [al u hu]
        refine ⟨ix, fun u2 hu2 => ?_⟩
        have hu2 : u2 = tg c D1 k := hu2
        rw [hu2]
        refine ⟨thC ht1, hbk, w_is (CtU_fl hG) hO1 hJ.1.2.1 hpk (fun y => fun z1 => ⟨inR_b z1, n10, fun _ u3 hu3 => ?_⟩) (fun y => fun z1 => ⟨inR_b z1, fun _ => nxt D1 x4 (jn_p hJ (fun eD hP a hak ha hB => ?_)), n00⟩)⟩
        rotate_left
        · by_cases hak2 : a = k
          · subst hak2
            rw [eD] at y
            exact absurd hB y
          · exact hP a (by omega) ha hB
        rw [al u3 hu3]
        refine ⟨ix, fun u4 hu4 => ?_⟩
        have hu4 : u4 = tg c D1 k := hu4
        rw [hu4, etg]
        have hNk : Nt N p k := hJ.1.2.2.2.2 k hpk y
        have hC : IsC S (tg c D0 k) 13 := thC ht
        have h4 := ht.2.2.1.1
        have f4 : (D1 (tg c D0 k) 4).toNat = (D0 (tg c D0 k) 4).toNat := by rw [hJ.1.1 _ _ _ _ ht.1 4 rfl]
        obtain ⟨hlk, -, -⟩ := lnk_bd hI hpk
        have N1 : Num N 80 := ob_num hI.ob
        have k83 : ∀ r j : Nat, (j : Int) + r = lnkR N 80 k → ∀ D2 x4, Jn N S D0 Ds D2 c 8 (Nt N p) x4 (PkN N Ds c k ∧ FkN N Ds c k j) → L_X12_copied_83 G S D2 M kk nn (s_m c) x1 t2 x4 k (D0 (tg c D0 k) 4).toNat (lnkR N 80 k) j := by
          intro r
          induction r with
          | zero =>
            intro j hj D2 x4 hJ2
            refine go_X12_copied_83 hG Xs.rf (smC (srl_nm hJ2.1.1 hL)) ⟨⟨by omega, by omega⟩, ⟨by omega, by omega⟩, fun _ => nxt D2 x4 (jn_p hJ2 (fun eD hP a hak ha hB i2 q2 hi2 he h2 => ?_)), fun z => absurd z (by omega)⟩
            by_cases hak2 : a = k
            · subst hak2
              exact hP.2 i2 q2 (by omega) hi2 he h2
            · exact hP.1 a (by omega) ha hB i2 q2 hi2 he h2
          | succ r ih2 =>
            intro j hj D2 x4 hJ2
            have hL2 := srl_nm hJ2.1.1 hL
            have hO2 := sro_nm hJ2.1.1 hL hO
            have x01 := jn_01 hJ2
            have hcn := ht.2.2.2.2.1 j (by omega)
            have ev : D2 (D0 (tg c D0 k) 4).toNat j = D0 (D0 (tg c D0 k) 4).toNat j := hJ2.1.1 _ _ _ _ h4 j rfl
            have nxt2 := ih2 (j + 1) (by push_cast at hj ⊢; omega)
            have skip : (∀ q : Nat, Ed N 80 k j q → N 82 q ≤ 2 → False) → (inR (bor x4 0) → L_X12_copied_83 G S D2 M kk nn (s_m c) x1 t2 (bor x4 0) k (D0 (tg c D0 k) 4).toNat (lnkR N 80 k) ((j : Int) + 1)) := fun hno _ => by
              rw [bor_r0 x01]
              refine nxt2 D2 x4 (jn_p hJ2 (fun _ hP => ⟨hP.1, fun j2 q2 hj2 hl2 he h2 => ?_⟩))
              by_cases hjj : j2 = j
              · subst hjj
                exact (hno q2 he h2).elim
              · exact hP.2 j2 q2 (by omega) hl2 he h2
            refine go_X12_copied_83 hG Xs.rf (smC hL2) ⟨⟨by omega, by omega⟩, ⟨by omega, by omega⟩, fun z => absurd z (by omega), fun _ => ⟨⟨_, ⟨7, _, h4, rfl⟩, by omega, by omega⟩, fun u5 hu5 => ?_⟩⟩
            have hu5 : u5 = (D0 (D0 (tg c D0 k) 4).toNat j).toNat := hu5.trans (by show (D2 _ j).toNat = _; rw [ev])
            rw [hu5]
            rcases hcn with ⟨y1, y2⟩ | ⟨q, y1, y2, y3⟩
            · rw [y1]
              refine ⟨fun _ => skip (fun q he _ => ?_), fun z => absurd rfl z⟩
              have := hob.2.2 q he.1
              have h9 : N 81 q = N 87 ((N 84 k).toNat + j) := he.2
              omega
            · rw [y2]
              have htq := hO.2.2 q y1
              have hne := tg_ne hS hO y1
              have hfm : D2 (tg c D0 q) 1 = N 82 q := (hJ2.1.1 _ _ _ _ htq.1 1 rfl).trans htq.2.1.2.1
              have hfb := frm_b hI y1
              have heq : ∀ q2 : Nat, Ed N 80 k j q2 → q2 = q := fun q2 he => nu_inj hob he.1 y1 (by have h9 : N 81 q2 = N 87 ((N 84 k).toNat + j) := he.2; rw [h9, y3])
              refine ⟨fun z => absurd z hne, fun _ => ⟨thC htq, fun z3 => ?_⟩⟩
              rw [hfm]
              refine ⟨⟨by omega, by omega⟩, ⟨by decide, by decide⟩, fun h3 => skip (fun q2 he h2 => ?_), fun h3 => ⟨hbk, ?_⟩⟩
              · have := heq q2 he
                subst this
                omega
              · have hnr : Nr N D2 c (tg c D0 q) (N 81 q) := Or.inr ⟨q, y1, (nm_tg hL hJ2.1.1 q).symm, rfl⟩
                have hed : Ed N 80 k j q := ⟨y1, y3.symm⟩
                refine jn_put (CtU_fl hG) hL hob hO bit8 hJ2 hnr (fun q2 hq2 he2 => ?_) (fun r3 D3 hr3 hJ3 z5 => ?_)
                · have := nu_inj hob hq2 y1 he2
                  rw [this]
                  exact nt_step hp hNk (by omega) hed (by omega)
                · have fin : Jn N S D0 Ds D3 c 8 (Nt N p) (bor x4 r3) (PkN N Ds c k ∧ FkN N Ds c k (j + 1)) := jn_p hJ3 (fun _ hP => ⟨hP.1.1, fun j2 q2 hj2 hl2 he h2 => by
                    by_cases hjj : j2 = j
                    · subst hjj
                      have := heq q2 he
                      subst this
                      exact ⟨y1, hP.2 q2 y1 rfl⟩
                    · exact hP.1.2 j2 q2 (by omega) hl2 he h2⟩)
                  refine ⟨inR_b z5, fun h0 => fun _ => ?_, fun h0 => fun _ => ?_⟩
                  · rw [h0] at fin
                    exact nxt2 D3 _ fin
                  · rw [z5.resolve_left h0] at fin
                    exact nxt2 D3 _ fin
        refine ⟨hC, fun u5 hu5 => ?_⟩
        rw [hu5.trans f4]
        refine ⟨⟨102, _, ⟨7, _, h4, rfl⟩, by decide⟩, fun w hw => ?_⟩
        rw [hw, lnS_of h4]
        have ew : (((lnkR N 80 k).toNat : Nat) : Int) = lnkR N 80 k := by omega
        rw [ew]
        exact k83 (lnkR N 80 k).toNat 0 (by omega) D1 x4 (jn_p hJ (fun _ hP => ⟨hP, fun j2 q2 hj2 => absurd hj2 (Nat.not_lt_zero _)⟩))
    exact k39 (N 80 0).toNat 0 (by omega) Ds 0 ⟨hDs, Or.inl ⟨rfl, rfl, fun a ha => absurd ha (Nat.not_lt_zero _)⟩⟩
  exact go_X12_copied_30 hG Xs.rf (smC hL) ⟨⟨by decide, by decide⟩, fun z => absurd z (by decide), fun _ => main _ D0 ⟨agd_rf, hR.b, fun q _ d _ _ => Iff.rfl, fun q _ h => h, hCs⟩ (Nat.le_refl _)⟩
theorem wt_bd (hI : Inv i N) : ∀ n : Nat, (n : Int) ≤ N 80 0 → 0 ≤ sumF (fun s => cnd (Nt N p s ∧ N 16 (N 19 s).toNat = 0) (wrdR N 80 s) 0) n ∧ sumF (fun s => cnd (Nt N p s ∧ N 16 (N 19 s).toNat = 0) (wrdR N 80 s) 0) n ≤ 1000 * n := by
  intro n
  induction n with
  | zero =>
    intro _
    show (0 : Int) ≤ 0 ∧ (0 : Int) ≤ _
    omega
  | succ n ih =>
    intro h
    have h9 := ih (by push_cast at h; omega)
    have hw := (wd_ok hI).2 n (by push_cast at h; omega)
    have e : sumF (fun s => cnd (Nt N p s ∧ N 16 (N 19 s).toNat = 0) (wrdR N 80 s) 0) (n + 1) = sumF (fun s => cnd (Nt N p s ∧ N 16 (N 19 s).toNat = 0) (wrdR N 80 s) 0) n + cnd (Nt N p n ∧ N 16 (N 19 n).toNat = 0) (wrdR N 80 n) 0 := rfl
    rw [e]
    by_cases hc : Nt N p n ∧ N 16 (N 19 n).toNat = 0
    · rw [cnd_t hc]
      push_cast
      omega
    · rw [cnd_f hc]
      push_cast
      omega
/-- its words are counted -/
theorem cp_words (hG : CtU G md_X12_copied [] S (uS kI M Q) B l K n9) (hI : Inv i N) (hR : SR N S D c) (hbk : kk ≤ K ∧ nn ≤ n9) (hB : ∀ q : Nat, (q : Int) < N 80 0 → (BS D c 8 q ↔ Nt N p q)) (nx : OkU (gB G) (gl G) md_X12_room [] 0 0 [rv (s_m c), .int (I (wtN N p))] S D M (uD kZ S M (fun (r216 : Int) D1 => (r216 = 0 ∨ r216 = 1) → (inR r216 ∧ (r216 ≠ 0 → (inR (D1 (s_m c) 1) → L_X12_copied_233 G S D1 M kk nn (s_m c) x1 t2 (wtN N p) (D1 (s_m c) 1) 0)) ∧ (r216 = 0 → ((kk ≤ K ∧ nn ≤ n9) ∧ inR (-1 : Int) ∧ Q (-1 : Int) S D1)))))) : L_X12_copied_151 G S D M kk nn (s_m c) x1 t2 0 0 := by
  have hL := hR.l
  have hO := hR.o
  have h208 := hI.ob.1.2
  have e1 : D (s_m c) 1 = N 80 0 := hO.1
  have al : ∀ u : Nat, u = (D (s_m c) 0).toNat → u = s_al c := fun u hu => hu.trans hL.2.1.1
  have key : ∀ r k : Nat, (k : Int) + r = N 80 0 → L_X12_copied_151 G S D M kk nn (s_m c) x1 t2 (sumF (fun s => cnd (Nt N p s ∧ N 16 (N 19 s).toNat = 0) (wrdR N 80 s) 0) k) k := by
    intro r
    induction r with
    | zero =>
      intro k hk
      have ek : k = (N 80 0).toNat := by omega
      subst ek
      exact go_X12_copied_151 hG Xs.rf (smC hL) (fun z => ⟨⟨by omega, by omega⟩, z, fun _ => ⟨hbk, nx⟩, fun z2 => by omega⟩)
    | succ r ih =>
      intro k hk
      have hpk : (k : Int) < N 80 0 := by omega
      have ht := hO.2.2 k hpk
      have hC := thC ht
      have nxt := ih (k + 1) (by push_cast at hk ⊢; omega)
      have es : sumF (fun s => cnd (Nt N p s ∧ N 16 (N 19 s).toNat = 0) (wrdR N 80 s) 0) (k + 1) = sumF (fun s => cnd (Nt N p s ∧ N 16 (N 19 s).toNat = 0) (wrdR N 80 s) 0) k + cnd (Nt N p k ∧ N 16 (N 19 k).toNat = 0) (wrdR N 80 k) 0 := rfl
      rw [es] at nxt
      have ix : ∃ L : Nat, IsA S (s_al c) 102 L ∧ 0 ≤ (k : Int) ∧ (k : Int) < L := ⟨256, ia_al hL, by omega, by omega⟩
      have e14 : D (tg c D k) 14 = N 16 (N 19 k).toNat := ht.2.2.2.1.2.2.2.2.2
      have e3 : D (tg c D k) 3 = wrdR N 80 k := ht.2.1.2.2.2
      have no : ¬ (Nt N p k ∧ N 16 (N 19 k).toNat = 0) → L_X12_copied_151 G S D M kk nn (s_m c) x1 t2 (sumF (fun s => cnd (Nt N p s ∧ N 16 (N 19 s).toNat = 0) (wrdR N 80 s) 0) k + 0) ((k : Int) + 1) := fun h => by
        rw [cnd_f h] at nxt
        exact nxt
      refine go_X12_copied_151 hG Xs.rf (smC hL) (fun z => ⟨⟨by omega, by omega⟩, z, fun z2 => by omega, fun z2 u hu => ?_⟩)
      rw [al u hu]
      refine ⟨ix, fun u2 hu2 => ?_⟩
      have hu2 : u2 = tg c D k := hu2
      rw [hu2]
      refine ⟨hC, hbk, w_is (CtU_fl hG) hO hR.b hpk (fun y => fun z1 => ⟨inR_b z1, n10, fun _ u3 hu3 => ?_⟩) (fun y => fun z1 => ⟨inR_b z1, fun _ => no (fun z => y ((hB k hpk).mpr z.1)), n00⟩)⟩
      rw [al u3 hu3]
      refine ⟨ix, fun u4 hu4 => ?_⟩
      have hu4 : u4 = tg c D k := hu4
      rw [hu4]
      refine ⟨hC, fun z3 => ⟨z3, fun h0 => no (fun z => h0 (e14.trans z.2)), fun h0 u5 hu5 => ?_⟩⟩
      rw [al u5 hu5]
      refine ⟨ix, fun u6 hu6 => ?_⟩
      have hu6 : u6 = tg c D k := hu6
      rw [hu6]
      refine ⟨hC, fun z4 => ?_⟩
      rw [e3]
      rw [cnd_t (show Nt N p k ∧ N 16 (N 19 k).toNat = 0 from ⟨(hB k hpk).mp y, e14.symm.trans h0⟩)] at nxt
      exact nxt
  exact key (N 80 0).toNat 0 (by omega)
end CpA1
end CpA
