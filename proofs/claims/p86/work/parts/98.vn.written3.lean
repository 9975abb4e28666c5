/-! ===== the IMAGE is written, by hand: the whole ===== -/
def mkWi (N : Mem) : Mem := fun o k => if rel o k = false ∨ o = 52 ∨ (o = 51 ∧ k = 5) ∨ o = 77 ∨ (o = 72 ∧ k = 9) then 0 else N o k
theorem mkWi_eq {N V : Mem} (ev : ∀ o k, ¬ (rel o k = false ∨ o = 52 ∨ (o = 51 ∧ k = 5) ∨ o = 77 ∨ (o = 72 ∧ k = 9)) → V o k = N o k) : mkWi V = mkWi N := by
  funext o k
  unfold mkWi
  by_cases h : rel o k = false ∨ o = 52 ∨ (o = 51 ∧ k = 5) ∨ o = 77 ∨ (o = 72 ∧ k = 9)
  · rw [if_pos h, if_pos h]
  · rw [if_neg h, if_neg h]
    exact ev o k h
theorem srf_Wi {N : Mem} {S : Sh} {D : Mem} {c : SC} : SrF (mkWi N) S D c ↔ SrF N S D c := Iff.rfl
theorem srq_Wi {N : Mem} {D : Mem} {c : SC} : SrQ (mkWi N) D c ↔ SrQ N D c := Iff.rfl
theorem srk_Wi {N : Mem} {S : Sh} {D : Mem} {c : SC} : SrK (mkWi N) S D c ↔ SrK N S D c := Iff.rfl
theorem sro_Wi {N : Mem} {S : Sh} {D : Mem} {c : SC} : SrO (mkWi N) S D c ↔ SrO N S D c := Iff.rfl
theorem srb_Wi {N : Mem} {D : Mem} {c : SC} : SrB (mkWi N) D c ↔ SrB N D c := Iff.rfl
theorem src_Wi {N : Mem} {D : Mem} {c : SC} : SrC (mkWi N) D c ↔ SrC N D c := Iff.rfl
theorem srm_Wi {N : Mem} {S : Sh} {D : Mem} {c : SC} : SrM (mkWi N) S D c ↔ SrM N S D c := Iff.rfl
def WiN (N V : Mem) (R : Nat → Int) (L : List (Nat × Int)) : Prop := (∀ o k, ¬ (rel o k = false ∨ o = 52 ∨ (o = 51 ∧ k = 5) ∨ o = 77 ∨ (o = 72 ∧ k = 9)) → V o k = N o k) ∧ V 72 9 = wS N L L.length ∧ ImD 77 (zI N R L L.length) V
section Wrt3
variable {B : WB} {l : Launch} {S S1 S2 : Sh} {D D' D1 D2 M N V : Mem} {c : SC} {i kc nc : Nat} {a b e : Int} {q : Nat} {Z : List Int} {L L' : List (Nat × Int)} {R R' : Nat → Int} {Q : Int → Sh → Mem → Prop}
theorem wS_pre : ∀ t : Nat, (∀ j, j < t → plc L' j = plc L j) → wS N L' t = wS N L t := by
  intro t
  induction t with
  | zero => intro _; rfl
  | succ t ih =>
    intro h
    show wS N L' t + (2 + sizR N 80 (plc L' t)) = wS N L t + (2 + sizR N 80 (plc L t))
    rw [ih (fun j hj => h j (by omega)), h t (Nat.lt_succ_self _)]
theorem siz_120 (hI : Inv i N) {p : Nat} (hp : (p : Int) < N 80 0) : 0 ≤ sizR N 80 p ∧ sizR N 80 p ≤ 120 := by
  have hw := ob_what hI hp
  obtain ⟨-, -, -, -, h6, w1, w2, w3, w4, -⟩ := hI.ob.2.2.2.2.2.1 p hp
  have e : sizR N 80 p = if N 82 p = 0 then N 74 (N 83 p).toNat + N 75 (N 83 p).toNat else if N 82 p = 6 then 2 * N 83 p else N 83 p := rfl
  rw [e]
  by_cases h0 : N 82 p = 0
  · rw [if_pos h0]
    have := hw.2.2.2 h0
    omega
  · rw [if_neg h0]
    by_cases h6 : N 82 p = 6
    · rw [if_pos h6]
      have := w4 h6
      omega
    · rw [if_neg h6]
      omega
theorem wS_bd (hI : Inv i N) (hnd : NdL (N 80 0) L) (h00 : 0 < N 80 0) : ∀ t, 1 ≤ wS N L t ∧ wS N L t ≤ 1 + 122 * t := by
  intro t
  induction t with
  | zero =>
    show (1 : Int) ≤ 1 ∧ (1 : Int) ≤ _
    omega
  | succ t ih =>
    have hs := siz_120 hI (plc_lt hnd h00 t)
    have e : wS N L (t + 1) = wS N L t + (2 + sizR N 80 (plc L t)) := rfl
    push_cast
    omega
theorem w_written {p : Nat} (hl : l.stackTraces = false) (hI : Inv i N) (hR : SR N S D c) (hp : (p : Int) < N 80 0) (h2 : N 82 p ≤ 2) (hk : 2 ≤ kc) (hn : 30600 ≤ nc) {Q : Nat → Sh → Mem → Prop} (hq : ∀ q S1 D1, lk S q = none → lk S1 q = some (16, 0, (wS N (bfs N 2 209 [(p, 0)] 0) (bfs N 2 209 [(p, 0)] 0).length).toNat) → (∀ a y, lk S a = some y → ∀ j, D1 a j = D a j) → (∀ R, RkL N (bfs N 2 209 [(p, 0)] 0) R → ImD q (zI N R (bfs N 2 209 [(p, 0)] 0) (bfs N 2 209 [(p, 0)] 0).length) D1) → NdL (N 80 0) (bfs N 2 209 [(p, 0)] 0) → Q q S1 D1) : OkU B l md_X12_written [] kc nc [rv (s_m c), rv (tg c D p)] S D M (uS kR M Q) := by
  have hL := hR.l
  have hn8 := hI.ob.1.2
  have h00 : 0 < N 80 0 := by omega
  have e1 : D (s_m c) 1 = N 80 0 := hR.o.1
  have N1 : Num N 80 := ob_num hI.ob
  have htp := hR.o.2.2 p hp
  refine ok_X12_written hl (fun G hG hS0 => go_X12_written_0 hG Xs.rf (smC hL) (fun z1 => ?_) hS0)
  rw [e1]
  refine ⟨⟨by omega, by omega, by omega, by omega⟩, fun q4 S1 D1 q40 q4n eS eD => ?_⟩
  have l4 : lk S1 q4 = some (11, 0, (N 80 0).toNat) := by rw [eS]; exact lk_new q4n
  have hX1 : Xs S S1 := ⟨_, eS⟩
  refine ⟨⟨_, ⟨11, _, l4, rfl⟩, by decide, by omega⟩, Or.inr ⟨1, 0, 24, lk_x hX1 htp.1, rfl⟩, fun D2 hD2 => ?_⟩
  have hsm : IsC S1 (s_m c) 12 := ⟨0, 0, 21, lk_x hX1 hL.1, rfl⟩
  have ne4 : ∀ a y, lk S a = some y → a ≠ q4 := fun a y h z => by rw [z, q4n] at h; cases h
  have key : ∀ f t (Lt : List (Nat × Int)) (D3 : Mem), f + t = 209 → t ≤ Lt.length → 0 < Lt.length → Ord S N D c q4 Lt D3 → bfs N 2 f Lt t = bfs N 2 209 [(p, 0)] 0 → L_X12_written_20 G S1 D3 M (0 + 1) (0 + (N 80 0).toNat) (s_m c) q4 (Lt.length : Int) (wS N Lt t) t := by
    intro f
    induction f with
    | zero =>
      intro t Lt D3 hf ht _ hO _
      have := nd_le208 hI hO.2.2.1
      omega
    | succ f ih =>
      intro t Lt D3 hf ht h0 hO hb
      have hlen := nd_le208 hI hO.2.2.1
      have hwb := wS_bd hI hO.2.2.1 h00 t
      cases hg : Lt[t]? with
      | none =>
        rw [bfs_none hg] at hb
        subst hb
        have htl : t = (bfs N 2 209 [(p, 0)] 0).length := by
          have := List.getElem?_eq_none_iff.mp hg
          omega
        generalize hLL : bfs N 2 209 [(p, 0)] 0 = L at *
        subst htl
        refine go_X12_written_20 hG hX1 hsm ⟨⟨by omega, by omega⟩, ⟨by omega, by omega⟩, fun _ => ⟨⟨by omega, by omega, by omega, by omega⟩, fun q5 S2 D4 q50 q5n eS2 eD4 => ?_⟩, fun z => absurd z (by omega)⟩
        have hX2 : Xs S S2 := Xs.tr hX1 ⟨_, eS2⟩
        have l5 : lk S2 q5 = some (16, 0, (wS N L L.length).toNat) := by rw [eS2]; exact lk_new q5n
        have l4' : lk S2 q4 = some (11, 0, (N 80 0).toNat) := by rw [eS2]; exact lk_app l4
        have h45 : q5 ≠ q4 := fun z => by rw [z, l4] at q5n; cases q5n
        have q5S : lk S q5 = none := by
          rw [eS] at q5n
          exact lk_none_l q5n
        refine ⟨⟨_, ⟨16, _, l5, rfl⟩, by decide, by omega⟩, ⟨by omega, by omega⟩, fun D5 hD5 => ?_⟩
        have hrk := rkF_ok hO.2.2.1
        have hrw : RwD S N D c q4 q5 L (zI N (rkF L) L 0) D5 := by
          refine ⟨⟨fun a y ha j => ?_, fun j e he => ?_, hO.2.2.1, hO.2.2.2⟩, fun j v hj => ?_⟩
          · have hne : a ≠ q5 := fun z => by rw [z, q5S] at ha; cases ha
            rw [hD5, up_ad hne, eD4, zr_ne hne]
            exact hO.1 a y ha j
          · rw [hD5, up_ad (Ne.symm h45), eD4, zr_ne (Ne.symm h45)]
            exact hO.2.1 j e he
          · have hj0 : j = 0 := by
              have := zlt hj
              have : (zI N (rkF L) L 0).length = 1 := rfl
              omega
            subst hj0
            cases hj
            rw [hD5]
            exact up_s _ _ _ _
        exact wr145 (R := rkF L) h00 hG hS0 hI hR ⟨by omega, by omega⟩ hX2 q5S h45 l4' l5 hrk hO.2.2.1 hO.2.2.2 (by omega) (fun D6 h6 => hq q5 S2 D6 q5S l5 h6.1.1 (fun R hRk => by rw [zI_u N1 (rk_uni hRk hrk)]; exact h6.2) hO.2.2.1) L.length 0 (by omega) D5 hrw
      | some e =>
        rw [bfs_some hg] at hb
        have htl := get_lt hg
        obtain ⟨hpe, hd1, hd2⟩ := hO.2.2.1.1 t e hg
        have hth := hR.o.2.2 e.1 hpe
        have hC : IsC S1 (tg c D e.1) 13 := ⟨1, 0, 24, lk_x hX1 hth.1, rfl⟩
        have ho : (D3 q4 t).toNat = tg c D e.1 := hO.2.1 t e hg
        have h4 := hth.2.2.1.1
        have h5 := hth.2.2.1.2.1
        have f4 : (D3 (tg c D e.1) 4).toNat = (D (tg c D e.1) 4).toNat := by rw [hO.1 _ _ hth.1]
        have f5 : (D3 (tg c D e.1) 5).toNat = (D (tg c D e.1) 5).toNat := by rw [hO.1 _ _ hth.1]
        obtain ⟨hlk, hnm, -⟩ := lnk_bd hI hpe
        have hfb := frm_b hI hpe
        have es := siz_ln (N := N) (p := e.1) ⟨hfb.1, hO.2.2.2 t e hg⟩
        have hsb := siz_bd hI hpe
        have ix : ∃ L9 : Nat, IsA S1 q4 102 L9 ∧ 0 ≤ (t : Int) ∧ (t : Int) < L9 := ⟨_, ⟨11, _, l4, rfl⟩, by omega, by omega⟩
        have eu : ∀ u : Nat, u = (D3 q4 (t : Int).toNat).toNat → u = tg c D e.1 := fun u hu => hu.trans ho
        have row4 : ∃ c9 L9 : Nat, IsA S1 (D (tg c D e.1) 4).toNat c9 L9 ∧ 100 ≤ c9 := ⟨102, _, ⟨7, _, lk_x hX1 h4, rfl⟩, by decide⟩
        have row5 : ∃ c9 L9 : Nat, IsA S1 (D (tg c D e.1) 5).toNat c9 L9 ∧ 100 ≤ c9 := ⟨100, _, ⟨14, _, lk_x hX1 h5, rfl⟩, by decide⟩
        refine go_X12_written_20 hG hX1 hsm ⟨⟨by omega, by omega⟩, ⟨by omega, by omega⟩, fun z => absurd z (by omega), fun _ => ⟨ix, fun u1 hu1 => ?_⟩⟩
        rw [eu u1 hu1]
        refine ⟨hC, fun u2 hu2 => ?_⟩
        rw [hu2.trans f4]
        refine ⟨row4, fun w1 hw1 => ⟨ix, fun u3 hu3 => ?_⟩⟩
        rw [eu u3 hu3]
        refine ⟨hC, fun u4 hu4 => ?_⟩
        rw [hu4.trans f5]
        refine ⟨row5, fun w2 hw2 => ⟨ix, fun u5 hu5 => ?_⟩⟩
        rw [eu u5 hu5]
        refine ⟨hC, fun u6 hu6 => ?_⟩
        rw [hu6.trans f4]
        refine ⟨row4, fun w3 hw3 => ?_⟩
        rw [hw1, hw2, hw3, lnS_of (lk_x hX1 h4), lnS_of (lk_x hX1 h5)]
        have ew : (((lnkR N 80 e.1).toNat : Nat) : Int) = lnkR N 80 e.1 := by omega
        have en : (((numR N e.1).toNat : Nat) : Int) = numR N e.1 := by omega
        rw [ew, en]
        have hpre : ∀ (Lx : List (Nat × Int)), (∀ (j : Nat) (e' : Nat × Int), Lt[j]? = some e' → Lx[j]? = some e') → wS N Lt t + ((2 + lnkR N 80 e.1) + numR N e.1) = wS N Lx (t + 1) := by
          intro Lx hx
          have h1 : wS N Lx t = wS N Lt t := wS_pre t (fun j hj => by
            have g := List.getElem?_eq_getElem (show j < Lt.length by omega)
            rw [plc_some g, plc_some (hx j _ g)])
          have h2 : plc Lx t = e.1 := plc_some (hx t e hg)
          show _ = wS N Lx t + (2 + sizR N 80 (plc Lx t))
          rw [h1, h2]
          omega
        have hw67 := wr67 (sz := wS N Lt t + ((2 + lnkR N 80 e.1) + numR N e.1)) (t := t) hG hS0 hI hR (k := 0 + 1) (n := 0 + (N 80 0).toNat) ⟨by omega, by omega⟩ hX1 q4n l4 hg ⟨by omega, by omega⟩ hO.2.2.1 (fun D4 h4 => by
          have hp9 := hpre (adA (e.2 + 1) Lt (sucL N 2 e.1 (lnkR N 80 e.1).toNat)) (fun j e' hj => adA_get _ _ hj)
          rw [hp9]
          exact ih (t + 1) _ D4 (by omega) (Nat.le_trans htl (adA_len _ _)) (Nat.lt_of_lt_of_le h0 (adA_len _ _)) h4 hb)
        exact hw67 (lnkR N 80 e.1).toNat 0 (by omega) D3 hO
  refine key 209 0 [(p, 0)] D2 rfl (Nat.zero_le _) (Nat.lt_succ_self 0) ⟨fun a y ha j => ?_, fun j e he => ?_, nd_one hp, fun j e he => ?_⟩ rfl
  · rw [hD2, up_ad (ne4 a y ha), eD, zr_ne (ne4 a y ha)]
  · have hj0 : j = 0 := by have := get_lt he; simp at this; omega
    subst hj0
    cases he
    rw [hD2, show (0 : Int).toNat = 0 from rfl, up_s, Int.toNat_natCast]
  · have hj0 : j = 0 := by have := get_lt he; simp at this; omega
    subst hj0
    cases he
    exact h2
theorem sr_wimg (hpi : N 72 10 = 1 → N 97 0 ≤ N 80 0) (hR : SR N S D c) (hV : WiN N V R L) (hk : lk S q = some (16, 0, (wS N L L.length).toNat)) (him : ImD q (zI N R L L.length) D) (hlen : (((zI N R L L.length).length : Nat) : Int) = wS N L L.length) (hD : D' = up D (s_m c) 15 ((q : Nat) : Int)) : SR V S D' c := by
  have hL := hR.l
  obtain ⟨ev, e9, e77⟩ := hV
  have em := mkWi_eq ev
  have ag : ∀ kk : Nat → Nat → Bool, kk 0 15 = false → AgD S D D' kk := fun kk h => by rw [hD]; exact agd_up hL.1 h agd_rf
  refine ⟨srl_k Xs.rf (ag kL rfl) hL, srf_Wi.mp (em ▸ srf_Wi.mpr (srf_k hL Xs.rf (ag kF rfl) hR.f)), srq_Wi.mp (em ▸ srq_Wi.mpr (srq_k hL (ag kQ rfl) hR.q)), srk_Wi.mp (em ▸ srk_Wi.mpr (srk_k hL Xs.rf (ag kK rfl) hR.k)), sro_Wi.mp (em ▸ sro_Wi.mpr (sro_k hL Xs.rf (ag kO rfl) hR.o)), srb_Wi.mp (em ▸ srb_Wi.mpr (srb_k hL hR.o (ag kB rfl) hR.b)), ?_, src_Wi.mp (em ▸ src_Wi.mpr (src_k hL (ag kC rfl) hR.c)), srm_Wi.mp (em ▸ srm_Wi.mpr (srm_k hL hR.o hpi Xs.rf (ag kM rfl) hR.m))⟩
  have e15 : (D' (s_m c) 15).toNat = q := by rw [hD, up_s, Int.toNat_natCast]
  refine ⟨by rw [e15, e9]; exact hk, fun k hk9 => ?_⟩
  rw [e9] at hk9
  have hk2 : k < (zI N R L L.length).length := by omega
  have hg2 := List.getElem?_eq_getElem hk2
  rw [e15, e77 k _ hg2, hD, up_ad (lk_ne hk hL.1 (by decide))]
  exact him k _ hg2
theorem du_30 (hl : l.stackTraces = false) (hI : Inv i N) (hR : SR N S D c) (ha : 0 ≤ a ∧ a < wd N) (hk : 2 ≤ kc) (hn : 30600 ≤ nc) (q1 : (∀ p : Nat, (p : Int) < N 80 0 → N 89 (sx N a) = N 81 p → ¬ N 82 p ≤ 2) → Q (-1012) S D) (q2 : ∀ p : Nat, (p : Int) < N 80 0 → N 89 (sx N a) = N 81 p → N 82 p ≤ 2 → (wS N (bfs N 2 209 [(p, 0)] 0) (bfs N 2 209 [(p, 0)] 0).length ≤ 400 → ∀ S1 D1, (∀ R V, RkL N (bfs N 2 209 [(p, 0)] 0) R → WiN N V R (bfs N 2 209 [(p, 0)] 0) → SR V S1 D1 c) → Q (wS N (bfs N 2 209 [(p, 0)] 0) (bfs N 2 209 [(p, 0)] 0).length) S1 D1) ∧ (400 < wS N (bfs N 2 209 [(p, 0)] 0) (bfs N 2 209 [(p, 0)] 0).length → ∀ S1 D1, SR N S1 D1 c → Q (-1) S1 D1)) : OkU B l md_X12_due [] kc nc [rv (s_m c), .int (I 30), .int (I a), .int (I b), .int (I e)] S D M (uS kI M Q) := by
  have hL := hR.l
  have hO := hR.o
  have hF := hR.f
  have hf := hI.fr.fs
  have hwb := wd_b hf
  have hob := obI_of hI.ob
  refine due_t hl hL ⟨by decide, by decide⟩ (fun B' l' hl' => ok_X12_dueOfNets hl' (fun G hG hS => go_X12_dueOfNets_0 hG Xs.rf (smC hL) ⟨⟨by omega, by omega⟩, w_isSlotY (CtU_fl hG) hL hF hf ha (fun z1 => ⟨inR_b z1, n10, fun _ => ⟨⟨by decide, by decide⟩, ⟨by decide, by decide⟩, fun z => absurd z (by decide), fun _ => ⟨⟨by decide, by decide⟩, ⟨by decide, by decide⟩, fun _ => ⟨⟨by decide, by decide⟩, fun z => absurd z (by decide), fun z => absurd z (by decide), fun z => absurd z (by decide), fun _ => go_X12_dueOfNets_190 hG Xs.rf (smC hL) ?_, fun z => absurd z (by decide)⟩, fun z => absurd z (by decide)⟩⟩⟩)⟩ hS))
  refine ⟨⟨by omega, by omega⟩, w_form (CtU_fl hG) hL hO hF hf ha (fun f h => ?_)⟩
  rcases sl_what hI hR ha with ⟨e0, e1⟩ | ⟨p, hp, e0, e1⟩
  · have hfr : f = -1 := by
      rcases h with h | ⟨p, hp, h9, -⟩
      · exact h.2
      · have := hob.2.2 p hp
        omega
    rw [hfr]
    exact fun z2 => ⟨z2, fun _ => ⟨⟨by omega, by omega⟩, ⟨by decide, by decide⟩, q1 (fun p hp e9 => by have := hob.2.2 p hp; omega)⟩, fun z => absurd z (by decide)⟩
  have hfr : ∀ f, fmN N (N 89 (sx N a)) f → f = N 82 p := fun f h => by
    rcases h with h | ⟨p', hp', h9, h8⟩
    · have := hob.2.2 p hp
      omega
    · have := nu_inj hob hp hp' (e1.symm.trans h9)
      rw [h8, this]
  have hfb := frm_b hI hp
  rw [hfr f h]
  refine fun z2 => ⟨z2, fun z => absurd z (by omega), fun _ => ⟨⟨by omega, by omega⟩, w_form (CtU_fl hG) hL hO hF hf ha (fun f2 h2 => ?_)⟩⟩
  rw [hfr f2 h2]
  refine fun z3 => ⟨z3, ⟨by decide, by decide⟩, fun h2 => ⟨⟨by omega, by omega⟩, w_at (CtU_fl hG) hL hF hf ha ?_⟩, fun h2 => ⟨⟨by omega, by omega⟩, ⟨by decide, by decide⟩, q1 (fun p' hp' e9 => by
    have := nu_inj hob hp hp' (e1.symm.trans e9)
    rw [← this]
    omega)⟩⟩
  rw [e0]
  obtain ⟨g1, g2⟩ := q2 p hp e1 h2
  refine ⟨2, 30600, ⟨by omega, by omega⟩, w_written (CtU_fl hG) hI hR hp h2 (Nat.le_refl _) (Nat.le_refl _) (fun q S1 D1 qn lq hs him hnd => fun hX => ?_)⟩
  have hR1 : SR N S1 D1 c := sr_on (pi_le hI) hX hs hR
  have hn8 := hI.ob.1.2
  have hwb := wS_bd hI hnd (by omega) (bfs N 2 209 [(p, 0)] 0).length
  have hll := nd_le208 hI hnd
  refine ⟨⟨100, _, ⟨16, _, lq, rfl⟩, by decide⟩, fun w hw => ?_⟩
  rw [hw, lnS_of lq]
  have ew : (((wS N (bfs N 2 209 [(p, 0)] 0) (bfs N 2 209 [(p, 0)] 0).length).toNat : Nat) : Int) = wS N (bfs N 2 209 [(p, 0)] 0) (bfs N 2 209 [(p, 0)] 0).length := by omega
  rw [ew]
  refine ⟨⟨by omega, by omega⟩, ⟨by decide, by decide⟩, fun hle D2 hD2 => ⟨⟨100, _, ⟨16, _, lq, rfl⟩, by decide⟩, fun w2 hw2 => ?_⟩, fun hgt => ⟨⟨by omega, by omega⟩, ⟨by decide, by decide⟩, g2 hgt S1 D1 hR1⟩⟩
  rw [hw2, ew]
  refine ⟨⟨by omega, by omega⟩, ⟨by omega, by omega⟩, g1 hle S1 D2 (fun R V hRk hV => ?_)⟩
  have hsz : ∀ t, 0 ≤ sizR N 80 (plc (bfs N 2 209 [(p, 0)] 0) t) := fun t => (siz_bd hI (plc_lt hnd (by omega) t)).1
  exact sr_wimg (pi_le hI) hR1 hV lq (him R hRk) (zI_len hsz _) hD2
end Wrt3
