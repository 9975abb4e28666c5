section Spread2
variable {B : WB} {l : Launch} {S : Sh} {D D0 Ds D1 D2 M N : Mem} {c : SC} {b pr x3 : Int} {h j4 j6 j7 j8 : Nat}
def Tm (N Ds : Mem) (c : SC) (b : Int) (q : Nat) : Prop := (q : Int) < N 80 0 ∧ BS Ds c b q
def F1 (N Ds : Mem) (c : SC) (b : Int) (h : Nat) (pr : Int) (p : Nat) : Prop := N 82 p = 4 → pr = 0 → ∀ q : Nat, Ed N h p 0 q → Tm N Ds c b q
def F2 (N Ds : Mem) (c : SC) (b : Int) (h : Nat) (p i : Nat) : Prop := ∀ j q : Nat, j < i → (j : Int) < lnkR N 80 p → Ed N h p j q → Tm N Ds c b q
def F3 (N Ds : Mem) (c : SC) (b : Int) (h : Nat) (p e : Nat) : Prop := ∀ i k q : Nat, i < e → (i : Int) < capR N p → Ed N h p (2 * i) k → Tm N Ds c b k → Ed N h p (2 * i + 1) q → Tm N Ds c b q
def Pks (N Ds : Mem) (c : SC) (b : Int) (h : Nat) (pr : Int) (k : Nat) : Prop := ∀ p : Nat, p < k → (p : Int) < N h 0 → BS Ds c b p → ClP N h pr (Tm N Ds c b) p
/-- rows are short -/
def ShOk (N : Mem) : Prop := ∀ p : Nat, (p : Int) < N 80 0 → (0 ≤ lnkR N 80 p ∧ lnkR N 80 p ≤ 1000) ∧ (0 ≤ capR N p ∧ capR N p ≤ 1000)
theorem ed_n (gr : GrH N S D c h j4 j6 j7 j8) {p q i : Nat} (hp : (p : Int) < N h 0) : Ed N h p i q ↔ (q : Int) < N h 0 ∧ N 81 q = N (h + 7) ((N 84 p).toNat + i) := by
  unfold Ed
  constructor
  · rintro ⟨a1, a2⟩
    rw [(gr.2.1 q a1).1, (gr.2.1 p hp).2.2.2] at a2
    exact ⟨a1, a2⟩
  · rintro ⟨a1, a2⟩
    rw [(gr.2.1 q a1).1, (gr.2.1 p hp).2.2.2]
    exact ⟨a1, a2⟩
theorem clp_of (gr : GrH N S D c h j4 j6 j7 j8) {p : Nat} (hp : (p : Int) < N h 0) (f1 : F1 N Ds c b h pr p) (f2 : F2 N Ds c b h p (lnkR N 80 p).toNat) (f3 : F3 N Ds c b h p (capR N p).toNat) : ClP N h pr (Tm N Ds c b) p := by
  obtain ⟨e1, e2, e3, e4⟩ := gr.2.1 p hp
  have el : lnkR N h p = lnkR N 80 p := by
    show (if N (h + 2) p = 0 then N 74 (N (h + 3) p).toNat else if N (h + 2) p = 1 then N (h + 3) p else 0) = (if N 82 p = 0 then N 74 (N 83 p).toNat else if N 82 p = 1 then N 83 p else 0)
    rw [e2, e3]
  refine ⟨fun i q hi he => ?_, fun h6 i k q hi hk hT he => ?_⟩
  · unfold cntR at hi
    rw [e2, el] at hi
    by_cases hs : N 82 p = 4 ∧ pr = 0
    · rw [if_pos hs] at hi
      have : i = 0 := by omega
      subst this
      exact f1 hs.1 hs.2 q he
    · rw [if_neg hs] at hi
      exact f2 i q (by omega) hi he
  · rw [e2] at h6
    rw [e3] at hi
    have ec : capR N p = N 83 p := if_pos h6
    exact f3 i k q (by omega) (by omega) hk hT he
theorem w_spread (hl : l.stackTraces = false) (hL : SrL S D0 c) (hI : ObI N) (hO : SrO N S D0 c) (hb : SrB N D0 c) (hbit : isBit b) (hj : Jf x3 j4 j6 j7 j8) (gr : GrH N S D0 c h j4 j6 j7 j8) (hsh : ShOk N) (hT0 : ∀ q : Nat, (q : Int) < N 80 0 → BS D0 c b q → (q : Int) < N h 0) (hpr : inR pr) {Q : Unit → Mem → Prop} (hq : ∀ D1, AddM N S D0 D1 c b (Cl N h pr (-1) (fun q => (q : Int) < N h 0 ∧ BS D0 c b q)) → Q () D1) : OkU B l md_X12_spread [] 0 0 [rv (s_m c), .int (I b), .int (I pr), .int (I x3)] S D0 M (uD kV S M Q) := by
  refine ok_X12_spread hl (fun G hG hS => go_X12_spread_0 hG (smC hL) ?_ hS)
  have h208 := hI.1
  have hbR : inR b := by rcases hbit with rfl | rfl | rfl | rfl | rfl <;> exact ⟨by decide, by decide⟩
  have hx3 : inR x3 := by rcases hj with z | z <;> (rw [z.1]; exact ⟨by decide, by decide⟩)
  generalize hC0 : Cl N h pr (-1) (fun q => (q : Int) < N h 0 ∧ BS D0 c b q) = C at hq
  have hCl : ∀ q, C q → (q : Int) < N h 0 := fun q hq => by rw [← hC0] at hq; exact cl_lt (fun q hq => hq.1) hq
  have hCc : Cls N h pr (-1) C := by rw [← hC0]; exact cl_cls
  have hCs : ∀ q : Nat, (q : Int) < N 80 0 → BS D0 c b q → C q := fun q hq hB => by rw [← hC0]; exact cl_sub ⟨hT0 q hq hB, hB⟩
  have hpn : ∀ p q : Nat, (p : Int) < N h 0 → (q : Int) < N 80 0 → N 81 q = N 81 p → q = p := fun p q hp hq he => nu_inj hI hq (by have := gr.1; omega) he
  -- targets of what is reached are reached
  have tgt : ∀ (k i : Nat) (u : Nat) (D1 : Mem), (k : Int) < N h 0 → C k → (i : Int) < cntR N h pr k → Nh N D1 c h u (N (h + 7) ((N 84 k).toNat + i)) → ∀ q : Nat, (q : Int) < N 80 0 → N 81 q = N (h + 7) ((N 84 k).toNat + i) → C q := by
    intro k i u D1 hk hCk hi hn q hq he
    rcases hn with ⟨-, hn⟩ | ⟨p, p1, -, p3⟩
    · have := hI.2.2 q hq
      omega
    · have hqp := hpn p q p1 hq (he.trans p3)
      rw [hqp]
      exact hCc.1 k i p hk hCk hi ((ed_n gr hk).mpr ⟨p1, p3.symm⟩) (by omega)
  -- a pass
  have main : ∀ (m : Nat) (Ds : Mem), IvS N S D0 Ds c b C → (N 80 0).toNat - kc (BS Ds c b) (N 80 0).toNat ≤ m → L_X12_spread_14 G S Ds M (s_m c) b pr x3 0 0 := by
    intro m
    induction m using Nat.strongRecOn with
    | _ m ihm =>
    intro Ds hDs hm
    have k14 : ∀ r k : Nat, (k : Int) + r = N 80 0 → ∀ D1 x4, Jn N S D0 Ds D1 c b C x4 (Pks N Ds c b h pr k) → L_X12_spread_14 G S D1 M (s_m c) b pr x3 x4 k := by
      intro r
      induction r with
      | zero =>
        intro k hk D1 x4 hJ
        have hL1 := srl_nm hJ.1.1 hL
        have hO1 := sro_nm hJ.1.1 hL hO
        refine go_X12_spread_14 hG (smC hL1) (fun z => ⟨⟨by omega, by omega⟩, z, fun _ => go_X12_spread_3 hG (smC hL1) ⟨inR_b (jn_01 hJ), fun h0 => ?_, fun h0 => ?_⟩, fun z2 => by rw [hO1.1] at z2; omega⟩)
        · rcases hJ.2 with ⟨-, rfl, hP⟩ | ⟨h1, -⟩
          · refine hq D1 ⟨hDs.1, hDs.2.1, fun q hqc d hd => ?_⟩
            by_cases hdb : d = b
            · subst hdb
              constructor
              · exact fun hB => Or.inr ⟨rfl, hDs.2.2.2.2 q hqc hB⟩
              · rintro (hB | ⟨-, hB⟩)
                · exact hDs.2.2.2.1 q hqc hB
                · rw [← hC0] at hB
                  have hcl : Cls N h pr (-1) (Tm N D1 c d) := cls_of (fun p hp hT => hP p (by have := gr.1; omega) hp hT.2)
                  exact (hB _ hcl (fun q hq => ⟨by have := gr.1; omega, hDs.2.2.2.1 q (by have := gr.1; omega) hq.2⟩)).2
            · rw [hDs.2.2.1 q hqc d hd hdb]
              exact ⟨Or.inl, fun z => z.elim id (fun y => absurd y.1 hdb)⟩
          · omega
        · rcases hJ.2 with ⟨h1, -⟩ | ⟨-, hG1, q, q1, q2, q3⟩
          · exact absurd h1 h0
          · have hlt := kc_grow (P := BS Ds c b) (Q := BS D1 c b) (n := (N 80 0).toNat) (fun p hp => hG1 p (by omega)) (q := q) (by omega) q2 q3
            have hle := kc_le (K := BS D1 c b) (p := (N 80 0).toNat)
            exact ihm ((N 80 0).toNat - kc (BS D1 c b) (N 80 0).toNat) (by omega) D1 hJ.1 (Nat.le_refl _)
      | succ r ih =>
        intro k hk D1 x4 hJ
        have hp : (k : Int) < N 80 0 := by omega
        have ht := hO.2.2 k hp
        have hL1 := srl_nm hJ.1.1 hL
        have hO1 := sro_nm hJ.1.1 hL hO
        have etg := nm_tg hL hJ.1.1
        have nx : ∀ D1 x4, Jn N S D0 Ds D1 c b C x4 (Pks N Ds c b h pr (k + 1)) → L_X12_spread_14 G S D1 M (s_m c) b pr x3 x4 (k + 1) := ih (k + 1) (by push_cast at hk ⊢; omega)
        refine go_X12_spread_14 hG (smC hL1) (fun z => ⟨⟨by omega, by omega⟩, z, fun z2 => by rw [hO1.1] at z2; omega, fun z2 u hu => ?_⟩)
        have hu : u = s_al c := hu.trans hL1.2.1.1
        subst hu
        refine ⟨⟨256, ia_al hL1, by omega, by omega⟩, fun u hu => ?_⟩
        have hu : u = tg c D1 k := hu
        subst hu
        have ht1 := hO1.2.2 k hp
        refine ⟨thC ht1, w_is (CtU_fl hG) hO1 hJ.1.2.1 hp (fun y => fun z1 => ⟨inR_b z1, fun _ => ⟨thC ht1, fun z3 => ?_⟩, fun h => absurd h (by decide)⟩) (fun y => fun z1 => ⟨inR_b z1, fun h => absurd rfl h, fun _ => ?_⟩)⟩
        · -- a marked one
          have hkh : (k : Int) < N h 0 := hCl k (hJ.1.2.2.2.2 k hp y)
          have hCk := hJ.1.2.2.2.2 k hp y
          obtain ⟨⟨s1, s2⟩, s3, s4⟩ := hsh k hp
          obtain ⟨e1, e2, e3, e4⟩ := gr.2.1 k hkh
          have efm : D1 (tg c D1 k) 1 = N 82 k := ht1.2.1.2.1
          have el : lnkR N h k = lnkR N 80 k := by
            show (if N (h + 2) k = 0 then N 74 (N (h + 3) k).toNat else if N (h + 2) k = 1 then N (h + 3) k else 0) = (if N 82 k = 0 then N 74 (N 83 k).toNat else if N 82 k = 1 then N 83 k else 0)
            rw [e2, e3]
          generalize htt : tg c D1 k = t at *
          have ht0 : tg c D0 k = t := by rw [← etg, htt]
          have hIC : ∀ D2, AgD S D0 D2 kNm → IsC S t 13 := fun D2 _ => thC ht1
          have gq : ∀ D2, AgD S D0 D2 kNm → GrP N S D2 c h j4 j6 j7 j8 k t := fun D2 g => by
            have := (gr_nm hj hL hO g gr).2.2 k hkh
            rw [nm_tg hL g, ht0] at this
            exact this
          -- keys and values
          have k165 : ∀ r e : Nat, e + r = (capR N k).toNat → ∀ D2 x4 v, Jn N S D0 Ds D2 c b C x4 (((Pks N Ds c b h pr k ∧ F1 N Ds c b h pr k) ∧ F2 N Ds c b h k (lnkR N 80 k).toNat) ∧ F3 N Ds c b h k e) → v = (D2 t j6).toNat → L_X12_spread_165 G S D2 M (s_m c) b pr x3 x4 k t v e := by
            intro r
            induction r with
            | zero =>
              intro e he D2 x4 v hJ2 hv
              obtain ⟨⟨g1, g2, g3⟩, -⟩ := gq D2 hJ2.1.1
              rw [← hv] at g2
              refine go_X12_spread_165 hG (smC (srl_nm hJ2.1.1 hL)) ⟨⟨102, _, g2, by decide⟩, fun w hw => ?_⟩
              have hw : w = (capR N k).toNat := by
                obtain ⟨r9, o9, h9, -⟩ := g2
                exact hw.trans (lnS_of h9)
              subst hw
              refine ⟨⟨by omega, by omega⟩, ⟨by omega, by omega⟩, fun _ => nx D2 x4 (jn_p hJ2 (fun eD hP p hpk hph hB => ?_)), fun z2 => by omega⟩
              by_cases hpk2 : p = k
              · subst hpk2
                obtain ⟨⟨⟨p1, p2⟩, p3⟩, p4⟩ := hP
                exact clp_of gr hph p2 p3 (by have : e = (capR N p).toNat := by omega
                                              rw [← this]; exact p4)
              · exact hP.1.1.1 p (by omega) hph hB
            | succ r ih2 =>
              intro e he D2 x4 v hJ2 hv
              obtain ⟨⟨g1, g2, g3⟩, g4, g5, g6⟩ := gq D2 hJ2.1.1
              rw [← hv] at g2 g5
              have hL2 := srl_nm hJ2.1.1 hL
              have hO2 := sro_nm hJ2.1.1 hL hO
              have hec : (e : Int) < capR N k := by omega
              obtain ⟨g5k, g5v⟩ := g5 e hec
              have ec : capR N k = N 83 k ∧ N 82 k = 6 := by
                unfold capR at hec ⊢
                by_cases h6 : N 82 k = 6
                · rw [if_pos h6]; exact ⟨rfl, h6⟩
                · rw [if_neg h6] at hec; omega
              refine go_X12_spread_165 hG (smC hL2) ⟨⟨102, _, g2, by decide⟩, fun w hw => ?_⟩
              have hw : w = (capR N k).toNat := by
                obtain ⟨r9, o9, h9, -⟩ := g2
                exact hw.trans (lnS_of h9)
              subst hw
              have nx2 : ∀ D3 x4, Jn N S D0 Ds D3 c b C x4 (((Pks N Ds c b h pr k ∧ F1 N Ds c b h pr k) ∧ F2 N Ds c b h k (lnkR N 80 k).toNat) ∧ F3 N Ds c b h k (e + 1)) → v = (D3 t j6).toNat → L_X12_spread_165 G S D3 M (s_m c) b pr x3 x4 k t v (e + 1) := fun D3 x4 => ih2 (e + 1) (by omega) D3 x4 v
              refine ⟨⟨by omega, by omega⟩, ⟨by omega, by omega⟩, fun z2 => by omega, fun z2 => ⟨⟨_, g2, by omega, by omega⟩, fun u hu => ⟨fun hu0 => ?_, fun hu0 => ?_⟩⟩⟩
              · have hu : u = (D2 v e).toNat := hu
                refine nx2 D2 x4 (jn_p hJ2 (fun _ hP => ⟨hP.1, fun i k9 q hi hic hk9 hT hq => ?_⟩)) hv
                by_cases hie : i = e
                · subst hie
                  rcases g5k with ⟨-, hn⟩ | ⟨p, p1, p2, -⟩
                  · have h9 := ((ed_n gr hkh).mp hk9).2
                    have h8 := hI.2.2 k9 hT.1
                    omega
                  · exact absurd (p2.symm.trans (hu.symm.trans hu0)) (sok_ne hS (hO2.2.2 p (by have := gr.1; omega)).1)
                · exact hP.2 i k9 q (by omega) hic hk9 hT hq
              · have hu : u = (D2 v e).toNat := hu
                rcases g5k with ⟨hn, -⟩ | ⟨p, p1, p2, p3⟩
                · exact absurd (hu.trans hn) hu0
                · have hpc : (p : Int) < N 80 0 := by have := gr.1; omega
                  refine ⟨⟨_, g2, by omega, by omega⟩, fun u2 hu2 => ?_⟩
                  have hu2 : u2 = tg c D2 p := (show u2 = (D2 v e).toNat from hu2).trans p2
                  subst hu2
                  refine ⟨thC (hO2.2.2 p hpc), w_is (CtU_fl hG) hO2 hJ2.1.2.1 hpc (fun y2 => fun z1 => ⟨inR_b z1, n10, fun _ => ⟨hx3, fun h3 => ⟨hIC D2 hJ2.1.1, fun u3 hu3 => ?_⟩, fun h3 => ⟨hIC D2 hJ2.1.1, fun u3 hu3 => ?_⟩⟩⟩) (fun y2 => fun z1 => ⟨inR_b z1, fun _ => ?_, n00⟩)⟩
                  · have hu3 : u3 = (D2 t j7).toNat := by rcases hj with z | z; (rw [z.2.2.2.1]; exact hu3); (have := z.1; omega)
                    subst hu3
                    refine ⟨⟨_, g3, by omega, by omega⟩, fun u4 hu4 => ?_⟩
                    have hn4 : Nh N D2 c h u4 (N (h + 7) ((N 84 k).toNat + (2 * e + 1))) := by rw [hu4]; exact g5v
                    have hCp : C p := hJ2.1.2.2.2.2 p hpc y2
                    have hC4 : ∀ q : Nat, (q : Int) < N 80 0 → N 81 q = N (h + 7) ((N 84 k).toNat + (2 * e + 1)) → C q := by
                      intro q hq he4
                      rcases hn4 with ⟨-, hn⟩ | ⟨p4, a1, -, a3⟩
                      · have := hI.2.2 q hq
                        omega
                      · have hqp := hpn p4 q a1 hq (he4.trans a3)
                        rw [hqp]
                        exact hCc.2 k e p p4 hkh hCk (by rw [e2]; exact ec.2) (by rw [e3, ← ec.1]; exact hec) ((ed_n gr hkh).mpr ⟨p1, p3.symm⟩) hCp ((ed_n gr hkh).mpr ⟨a1, a3.symm⟩) (by omega)
                    refine jn_put (CtU_fl hG) hL hI hO hbit hJ2 (nh_nr gr.1.2 hn4) hC4 (fun r3 D3 hr3 hJ3 z5 z6 => nx2 D3 _ (jn_p hJ3 (fun _ hP => ⟨hP.1.1, fun i k9 q hi hic hk9 hT hq => ?_⟩)) ?_)
                    · by_cases hie : i = e
                      · subst hie
                        exact ⟨by have h8 := ((ed_n gr hkh).mp hq).1; have := gr.1; omega, hP.2 q (by have h8 := ((ed_n gr hkh).mp hq).1; have := gr.1; omega) ((ed_n gr hkh).mp hq).2⟩
                      · exact hP.1.2 i k9 q (by omega) hic hk9 hT hq
                    · rw [hv]
                      have a1 := hJ2.1.1 t 1 0 24 (by rw [← ht0]; exact ht.1) j6 (by rcases hj with z | z <;> rw [z.2.2.1] <;> rfl)
                      have a2 := hJ3.1.1 t 1 0 24 (by rw [← ht0]; exact ht.1) j6 (by rcases hj with z | z <;> rw [z.2.2.1] <;> rfl)
                      rw [a1, a2]
                  · have hu3 : u3 = (D2 t j7).toNat := by rcases hj with z | z; (exact absurd z.1 h3); (rw [z.2.2.2.1]; exact hu3)
                    subst hu3
                    refine ⟨⟨_, g3, by omega, by omega⟩, fun u4 hu4 => ?_⟩
                    have hn4 : Nh N D2 c h u4 (N (h + 7) ((N 84 k).toNat + (2 * e + 1))) := by rw [hu4]; exact g5v
                    have hCp : C p := hJ2.1.2.2.2.2 p hpc y2
                    have hC4 : ∀ q : Nat, (q : Int) < N 80 0 → N 81 q = N (h + 7) ((N 84 k).toNat + (2 * e + 1)) → C q := by
                      intro q hq he4
                      rcases hn4 with ⟨-, hn⟩ | ⟨p4, a1, -, a3⟩
                      · have := hI.2.2 q hq
                        omega
                      · have hqp := hpn p4 q a1 hq (he4.trans a3)
                        rw [hqp]
                        exact hCc.2 k e p p4 hkh hCk (by rw [e2]; exact ec.2) (by rw [e3, ← ec.1]; exact hec) ((ed_n gr hkh).mpr ⟨p1, p3.symm⟩) hCp ((ed_n gr hkh).mpr ⟨a1, a3.symm⟩) (by omega)
                    refine jn_put (CtU_fl hG) hL hI hO hbit hJ2 (nh_nr gr.1.2 hn4) hC4 (fun r3 D3 hr3 hJ3 z5 z6 => nx2 D3 _ (jn_p hJ3 (fun _ hP => ⟨hP.1.1, fun i k9 q hi hic hk9 hT hq => ?_⟩)) ?_)
                    · by_cases hie : i = e
                      · subst hie
                        exact ⟨by have h8 := ((ed_n gr hkh).mp hq).1; have := gr.1; omega, hP.2 q (by have h8 := ((ed_n gr hkh).mp hq).1; have := gr.1; omega) ((ed_n gr hkh).mp hq).2⟩
                      · exact hP.1.2 i k9 q (by omega) hic hk9 hT hq
                    · rw [hv]
                      have a1 := hJ2.1.1 t 1 0 24 (by rw [← ht0]; exact ht.1) j6 (by rcases hj with z | z <;> rw [z.2.2.1] <;> rfl)
                      have a2 := hJ3.1.1 t 1 0 24 (by rw [← ht0]; exact ht.1) j6 (by rcases hj with z | z <;> rw [z.2.2.1] <;> rfl)
                      rw [a1, a2]
                  · refine nx2 D2 x4 (jn_p hJ2 (fun eD hP => ⟨hP.1, fun i k9 q hi hic hk9 hT hq => ?_⟩)) hv
                    by_cases hie : i = e
                    · subst hie
                      have h9 := ((ed_n gr hkh).mp hk9)
                      have hkp := nu_inj hI hT.1 hpc (h9.2.trans p3)
                      subst hkp
                      rw [eD] at y2
                      exact absurd hT.2 y2
                    · exact hP.2 i k9 q (by omega) hic hk9 hT hq
          -- fields and places
          have k111 : ∀ r i : Nat, i + r = (lnkR N 80 k).toNat → ∀ D2 x4 v, Jn N S D0 Ds D2 c b C x4 ((Pks N Ds c b h pr k ∧ F1 N Ds c b h pr k) ∧ F2 N Ds c b h k i) → v = (D2 t j4).toNat → L_X12_spread_111 G S D2 M (s_m c) b pr x3 x4 k t v (lnkR N 80 k).toNat i := by
            intro r
            induction r with
            | zero =>
              intro i hi D2 x4 v hJ2 hv
              have ei : i = (lnkR N 80 k).toNat := by omega
              subst ei
              refine go_X12_spread_111 hG (smC (srl_nm hJ2.1.1 hL)) ⟨⟨by omega, by omega⟩, ⟨by omega, by omega⟩, fun _ => ⟨hx3, fun h3 => ⟨hIC D2 hJ2.1.1, fun u hu => ?_⟩, fun h3 => ⟨hIC D2 hJ2.1.1, fun u hu => ?_⟩⟩, fun z2 => by omega⟩
              · exact k165 (capR N k).toNat 0 (by omega) D2 x4 u (jn_p hJ2 (fun _ hP => ⟨hP, fun i k9 q hi => absurd hi (Nat.not_lt_zero _)⟩)) (by rcases hj with z | z; (rw [z.2.2.1]; exact hu); (have := z.1; omega))
              · exact k165 (capR N k).toNat 0 (by omega) D2 x4 u (jn_p hJ2 (fun _ hP => ⟨hP, fun i k9 q hi => absurd hi (Nat.not_lt_zero _)⟩)) (by rcases hj with z | z; (exact absurd z.1 h3); (rw [z.2.2.1]; exact hu))
            | succ r ih2 =>
              intro i hi D2 x4 v hJ2 hv
              obtain ⟨⟨g1, g2, g3⟩, g4, g5, g6⟩ := gq D2 hJ2.1.1
              rw [← hv] at g1 g4
              have hil : (i : Int) < lnkR N 80 k := by omega
              refine go_X12_spread_111 hG (smC (srl_nm hJ2.1.1 hL)) ⟨⟨by omega, by omega⟩, ⟨by omega, by omega⟩, fun z2 => by omega, fun z2 => ⟨⟨_, g1, by omega, by omega⟩, fun u hu => ?_⟩⟩
              have hn4 : Nh N D2 c h u (N (h + 7) ((N 84 k).toNat + i)) := by rw [hu]; exact g4 i hil
              have hcn : (i : Int) < cntR N h pr k := by
                have hl0 := lnk_cnt (M := N) (p := k) (by omega)
                unfold cntR
                rw [if_neg (fun z => by have := z.1; rw [e2] at this; rcases hl0.2 with h9 | h9 <;> omega), el]
                exact hil
              refine jn_put (CtU_fl hG) hL hI hO hbit hJ2 (nh_nr gr.1.2 hn4) (tgt k i u D2 hkh hCk hcn hn4) (fun r3 D3 hr3 hJ3 z5 z6 => ih2 (i + 1) (by omega) D3 _ v (jn_p hJ3 (fun _ hP => ⟨hP.1.1, fun j q hji hjl he => ?_⟩)) ?_)
              · by_cases hje : j = i
                · subst hje
                  have h8 := (ed_n gr hkh).mp he
                  exact ⟨by have := gr.1; omega, hP.2 q (by have := gr.1; omega) h8.2⟩
                · exact hP.1.2 j q (by omega) hjl he
              · rw [hv]
                have a1 := hJ2.1.1 t 1 0 24 (by rw [← ht0]; exact ht.1) j4 (by rcases hj with z | z <;> rw [z.2.1] <;> rfl)
                have a2 := hJ3.1.1 t 1 0 24 (by rw [← ht0]; exact ht.1) j4 (by rcases hj with z | z <;> rw [z.2.1] <;> rfl)
                rw [a1, a2]
          -- .. entered
          have k111e : ∀ D2 x4 u, Jn N S D0 Ds D2 c b C x4 (Pks N Ds c b h pr k ∧ F1 N Ds c b h pr k) → u = (D2 t j4).toNat → ((∃ c L : Nat, IsA S u c L ∧ 100 ≤ c) ∧ ∀ w : Nat, w = lnS S u → L_X12_spread_111 G S D2 M (s_m c) b pr x3 x4 k t u w 0) := by
            intro D2 x4 u hJ2 hu
            obtain ⟨⟨g1, -, -⟩, -⟩ := gq D2 hJ2.1.1
            rw [← hu] at g1
            refine ⟨⟨102, _, g1, by decide⟩, fun w hw => ?_⟩
            have hw : w = (lnkR N 80 k).toNat := by
              obtain ⟨r9, o9, h9, -⟩ := g1
              exact hw.trans (lnS_of h9)
            subst hw
            exact k111 (lnkR N 80 k).toNat 0 (by omega) D2 x4 u (jn_p hJ2 (fun _ hP => ⟨hP, fun j q hj => absurd hj (Nat.not_lt_zero _)⟩)) hu
          have k3 : ∀ D2 x4, Jn N S D0 Ds D2 c b C x4 (Pks N Ds c b h pr k ∧ F1 N Ds c b h pr k) → (inR x3 ∧ (x3 = 0 → IsC S t 13 ∧ ∀ u : Nat, u = (D2 t 4).toNat → ((∃ c L : Nat, IsA S u c L ∧ 100 ≤ c) ∧ ∀ w : Nat, w = lnS S u → L_X12_spread_111 G S D2 M (s_m c) b pr x3 x4 k t u w 0)) ∧ (x3 ≠ 0 → IsC S t 13 ∧ ∀ u : Nat, u = (D2 t 15).toNat → ((∃ c L : Nat, IsA S u c L ∧ 100 ≤ c) ∧ ∀ w : Nat, w = lnS S u → L_X12_spread_111 G S D2 M (s_m c) b pr x3 x4 k t u w 0))) := by
            intro D2 x4 hJ2
            refine ⟨hx3, fun h3 => ⟨hIC D2 hJ2.1.1, fun u hu => k111e D2 x4 u hJ2 ?_⟩, fun h3 => ⟨hIC D2 hJ2.1.1, fun u hu => k111e D2 x4 u hJ2 ?_⟩⟩
            · rcases hj with z | z
              · rw [z.2.1]; exact hu
              · have := z.1; omega
            · rcases hj with z | z
              · exact absurd z.1 h3
              · rw [z.2.1]; exact hu
          refine ⟨z3, ⟨by decide, by decide⟩, fun h4 => ?_, fun h4 => ⟨hpr, fun hp0 => ?_, fun hp0 => ⟨hx3, fun h3 => ⟨hIC D1 hJ.1.1, fun u hu => ?_⟩, fun h3 => ⟨hIC D1 hJ.1.1, fun u hu => ?_⟩⟩⟩⟩
          · exact k3 D1 x4 (jn_p hJ (fun _ hP => ⟨hP, fun h9 => absurd (efm.trans h9) h4⟩))
          · exact k3 D1 x4 (jn_p hJ (fun _ hP => ⟨hP, fun _ h9 => absurd h9 hp0⟩))
          · obtain ⟨-, -, -, g6⟩ := gq D1 hJ.1.1
            rw [if_pos (by omega)] at g6
            have hn4 : Nh N D1 c h u (N (h + 7) ((N 84 k).toNat + 0)) := by
              rw [hu, Nat.add_zero]
              rcases hj with z | z
              · rw [z.2.2.2.2] at g6; exact g6
              · have := z.1; omega
            have hcn : ((0 : Nat) : Int) < cntR N h pr k := by
              unfold cntR
              rw [if_pos ⟨by rw [e2]; omega, hp0⟩]
              decide
            exact jn_put (CtU_fl hG) hL hI hO hbit hJ (nh_nr gr.1.2 hn4) (tgt k 0 u D1 hkh hCk hcn hn4) (fun r3 D3 hr3 hJ3 z5 z6 => k3 D3 _ (jn_p hJ3 (fun _ hP => ⟨hP.1, fun _ _ q he => by
              have h8 := (ed_n gr hkh).mp he
              exact ⟨by have := gr.1; omega, hP.2 q (by have := gr.1; omega) h8.2⟩⟩)))
          · obtain ⟨-, -, -, g6⟩ := gq D1 hJ.1.1
            rw [if_pos (by omega)] at g6
            have hn4 : Nh N D1 c h u (N (h + 7) ((N 84 k).toNat + 0)) := by
              rw [hu, Nat.add_zero]
              rcases hj with z | z
              · exact absurd z.1 h3
              · rw [z.2.2.2.2] at g6; exact g6
            have hcn : ((0 : Nat) : Int) < cntR N h pr k := by
              unfold cntR
              rw [if_pos ⟨by rw [e2]; omega, hp0⟩]
              decide
            exact jn_put (CtU_fl hG) hL hI hO hbit hJ (nh_nr gr.1.2 hn4) (tgt k 0 u D1 hkh hCk hcn hn4) (fun r3 D3 hr3 hJ3 z5 z6 => k3 D3 _ (jn_p hJ3 (fun _ hP => ⟨hP.1, fun _ _ q he => by
              have h8 := (ed_n gr hkh).mp he
              exact ⟨by have := gr.1; omega, hP.2 q (by have := gr.1; omega) h8.2⟩⟩)))
        · refine nx D1 x4 (jn_p hJ (fun eD hP p hpk hph hB => ?_))
          by_cases hpk2 : p = k
          · subst hpk2
            rw [eD] at y
            exact absurd hB y
          · exact hP p (by omega) hph hB
    exact k14 (N 80 0).toNat 0 (by omega) Ds 0 ⟨hDs, Or.inl ⟨rfl, rfl, fun p hp => absurd hp (Nat.not_lt_zero _)⟩⟩
  exact go_X12_spread_3 hG (smC hL) ⟨⟨by decide, by decide⟩, fun z => absurd z (by decide), fun _ => main _ D0 ⟨agd_rf, hb, fun q _ d _ _ => Iff.rfl, fun q _ h => h, hCs⟩ (Nat.le_refl _)⟩
end Spread2
