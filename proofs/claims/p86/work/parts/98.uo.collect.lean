/-! ===== a whole collection, by hand ===== -/
theorem c27R {G : GT} {B : WB} {l : Launch} {S : Sh} {D M N : Mem} {c : SC} {i : Nat} {w x1 : Int} {Q : Int → Mem → Prop} (hG : CtU G md_X12_collectR [] S (uD kI S M Q) B l 0 0) (hI : Inv i N) (hw : WayOk N w) (hw0 : w ≠ 0) (hx1 : x1 = howW w) (hy : ygW N w ↔ x1 = 0) (hR : SR N S D c) (hi : i ≤ 1000) (h3 : N 80 3 + 1 ≤ 100 * i) (h4 : N 80 4 + 1 ≤ 100 * i) (fin : ∀ D1, SR (colW N w) S D1 c → Kpt N D c (colW N w) D1 → Q (N 80 0 - ((kc (KW N w) (N 80 0).toNat : Nat) : Int)) D1) : L_X12_collectR_27 G S D M (s_m c) x1 := by
  have hb := obI_of hI.ob
  have off := hw.2.2 hw0
  have hfr := hI.fr
  have hli := hI.li
  have hpi : N 72 10 = 1 → N 97 0 ≤ N 80 0 := fun z => by rw [off] at z; exact absurd z (by decide)
  have eh : howW w = w - 1 := if_neg hw0
  have hw1 := hw.1
  have eS : SW N w = StrN N (prW w) (ygW N w) := by
    funext p
    unfold SW
    rw [if_neg hw0]
  have eK : KW N w = KepN N (StrN N (prW w) (ygW N w)) (prW w) := by
    funext p
    unfold KW
    rw [eS]
  have eC : colW N w = colN N (StrN N (prW w) (ygW N w)) (KepN N (StrN N (prW w) (ygW N w)) (prW w)) (ygW N w) := by
    unfold colW
    rw [eS, eK, if_neg hw0]
  have hCl := clsW hI hw
  rw [if_neg hw0, eS, eK] at hCl
  have ip : inR (prW w) := by
    unfold prW
    split <;> exact ⟨by decide, by decide⟩
  have go : ∀ D1, WipM N S D D1 c 3 → OkU (gB G) (gl G) md_X12_roots [] 0 0 [rv (s_m c), .int (I (1 : Int))] S D1 M (uD kV S M (fun (_ : Unit) D2 => L_X12_collectR_115 G S D2 M (s_m c) x1 (prW w) (0 : Int))) := by
    intro D1 g
    have hR1 : SR N S D1 c := sr_all hpi Xs.rf (agd_le g.1 (fun r j => kNm_all)) g.2.1 hR
    refine w_roots (CtU_fl hG) hR1.l hb hR1.o hR1.f hR1.q hR1.b bit1 ⟨hfr.1, hfr.2.1, hfr.2.2.1⟩ (fun f s hf hs hn => ?_) ⟨hli.1.2.1, hli.1.2.2.1⟩ ⟨hli.2.2.1, hli.2.2.2.1⟩ (fun D2 g2 => ?_)
    · have := hfr.2.2.2.1 f s hf hs
      rw [if_neg hn] at this
      exact this
    · have hR2 := addm_sr hpi g2 hR1
      refine c115R (y := ygW N w) hG hI off hR2 ⟨by omega, by omega⟩ ip hy (fun q hq => ?_) (fun q hq => ?_) (fun D3 hR3 m1 m2 h8 => ?_)
      · rw [g2.2.2 q hq 1 bit1, g.2.2 q hq 1 bit1]
        constructor
        · rintro (a | a)
          · exact absurd (show inB 3 1 by unfold inB; decide +kernel) a.2
          · exact a.2
        · exact fun a => Or.inr ⟨rfl, a⟩
      · rw [g2.2.2 q hq 2 bit2, g.2.2 q hq 2 bit2]
        rintro (a | a)
        · exact absurd (show inB 3 2 by unfold inB; decide +kernel) a.2
        · exact absurd a.1 (by decide)
      · refine ctailR (T := StrN N (prW w) (ygW N w)) (y := ygW N w) hG hI off hR3 m1 m2 (fun q h => str_lt h) hCl ⟨by omega, by omega⟩ ip hy (fun h => h.2) hi h3 h4 (fun D4 h hk => ?_)
        have := fin D4 (by rw [eC]; exact h) (by rw [eC]; exact kpt_8 (kp8_tr (kp8_wip hR.l g (by unfold inB; decide +kernel)) (kp8_tr (kp8_add hR1.l g2 (by decide) rfl) h8)) hk)
        rw [eK] at this
        exact this
  refine go_X12_collectR_27 hG (smC hR.l) ⟨⟨by omega, by omega⟩, ⟨by decide, by decide⟩, fun h2 => ?_, fun h2 => ?_⟩
  · refine w_wipe (CtU_fl hG) hR.l hb hR.o hR.b (Or.inr rfl) (fun D1 g => ⟨⟨by omega, by omega⟩, ⟨by decide, by decide⟩, fun _ => ?_, fun z => absurd z (by omega)⟩)
    have := go D1 g
    have ep : prW w = 0 := if_neg (by omega)
    rw [ep] at this
    exact this
  · refine w_wipe (CtU_fl hG) hR.l hb hR.o hR.b (Or.inr rfl) (fun D1 g => ⟨⟨by omega, by omega⟩, ⟨by decide, by decide⟩, fun _ => ?_, fun z => absurd z (by omega)⟩)
    have := go D1 g
    have ep : prW w = 1 := if_pos (by omega)
    rw [ep] at this
    exact this
theorem c27eR {G : GT} {B : WB} {l : Launch} {S : Sh} {D M N : Mem} {c : SC} {i : Nat} {Q : Int → Mem → Prop} (hG : CtU G md_X12_collectR [] S (uD kI S M Q) B l 0 0) (hI : Inv i N) (hon : N 72 10 = 1) (hR : SR (offN N) S D c) (h17 : D (s_m c) 17 = N 97 2) (hm4 : ∀ q : Nat, (q : Int) < N 80 0 → (BS D c 4 q ↔ Kp N q)) (hi : i ≤ 1000) (h3 : N 80 3 + 1 ≤ 100 * i) (h4 : N 80 4 + 1 ≤ 100 * i) (fin : ∀ D1, SR (colW N 0) S D1 c → Kpt N D c (colW N 0) D1 → Q (N 80 0 - ((kc (KW N 0) (N 80 0).toNat : Nat) : Int)) D1) : L_X12_collectR_27 G S D M (s_m c) 3 := by
  have hIo := inv_off hI
  have hb := obI_of hIo.ob
  have hw : WayOk N 0 := ⟨⟨by decide, by decide⟩, fun _ => hon, fun z => absurd rfl z⟩
  have hpi : offN N 72 10 = 1 → offN N 97 0 ≤ offN N 80 0 := fun z => absurd (show (0 : Int) = 1 from z) (by decide)
  have eS : SW N 0 = fun p : Nat => (p : Int) < N 80 0 ∧ Gd N p := by
    funext p
    unfold SW
    rw [if_pos rfl]
  have eK : KW N 0 = KepN (offN N) (SW N 0) 0 := by
    funext p
    exact propext kep_off.symm
  have hCl := clsW hI hw
  rw [if_pos rfl, eK] at hCl
  refine go_X12_collectR_27 hG (smC hR.l) ⟨⟨by decide, by decide⟩, ⟨by decide, by decide⟩, fun _ => ?_, fun h2 => absurd h2 (by decide)⟩
  refine w_wipe (CtU_fl hG) hR.l hb hR.o hR.b (Or.inr rfl) (fun D1 g => ⟨⟨by decide, by decide⟩, ⟨by decide, by decide⟩, fun z => absurd rfl z, fun _ => ?_⟩)
  have hR1 : SR (offN N) S D1 c := sr_all hpi Xs.rf (agd_le g.1 (fun r j => kNm_all)) g.2.1 hR
  refine c50R hG hI hon hR1 ((g.1 _ _ _ _ hR.l.1 17 rfl).trans h17) (fun q hq => ?_) (fun q hq => ?_) (fun q hq => ?_) (fun D2 hR2 m1 m2 h8 => ?_)
  · rw [g.2.2 q hq 4 bit4, hm4 q hq]
    exact ⟨fun a => a.1, fun a => ⟨a, fun z => z (by decide +kernel)⟩⟩
  · rw [g.2.2 q hq 1 bit1]
    exact fun a => a.2 (show inB 3 1 by unfold inB; decide +kernel)
  · rw [g.2.2 q hq 2 bit2]
    exact fun a => a.2 (show inB 3 2 by unfold inB; decide +kernel)
  · refine ctailR (T := SW N 0) (y := ygW N 0) hG hIo rfl hR2 (by rw [eS]; exact m1) m2 (fun q h => by rw [eS] at h; exact h.1) hCl ⟨by decide, by decide⟩ ⟨by decide, by decide⟩ ⟨fun z => absurd z.1 (by decide), fun z => absurd z (by decide)⟩ (fun z => absurd z.1 (by decide)) hi h3 h4 (fun D3 h hk => ?_)
    have := fin D3 (by unfold colW; rw [if_pos rfl, eK]; exact h) (by unfold colW; rw [if_pos rfl, eK]; exact kpt_b rfl (fun _ => rfl) (kpt_8 (kp8_tr (kp8_b rfl (kp8_wip hR.l g (by unfold inB; decide +kernel))) h8) (kpt_b rfl (fun _ => rfl) hk)))
    rw [eK] at this
    exact this
theorem c27 {G : GT} {B : WB} {l : Launch} {S : Sh} {D M N : Mem} {c : SC} {i : Nat} {w x1 : Int} {Q : Int → Mem → Prop} (hG : CtU G md_X12_collect [] S (uD kI S M Q) B l 0 0) (hI : Inv i N) (hw : WayOk N w) (hw0 : w ≠ 0) (hx1 : x1 = howW w) (hy : ygW N w ↔ x1 = 0) (hR : SR N S D c) (hi : i ≤ 1000) (h3 : N 80 3 + 1 ≤ 100 * i) (h4 : N 80 4 + 1 ≤ 100 * i) (fin : ∀ D1, SR (colW N w) S D1 c → Kpt N D c (colW N w) D1 → Q (N 80 0 - ((kc (KW N w) (N 80 0).toNat : Nat) : Int)) D1) : L_X12_collect_27 G S D M (s_m c) x1 := by
  have hb := obI_of hI.ob
  have off := hw.2.2 hw0
  have hfr := hI.fr
  have hli := hI.li
  have hpi : N 72 10 = 1 → N 97 0 ≤ N 80 0 := fun z => by rw [off] at z; exact absurd z (by decide)
  have eh : howW w = w - 1 := if_neg hw0
  have hw1 := hw.1
  have eS : SW N w = StrN N (prW w) (ygW N w) := by
    funext p
    unfold SW
    rw [if_neg hw0]
  have eK : KW N w = KepN N (StrN N (prW w) (ygW N w)) (prW w) := by
    funext p
    unfold KW
    rw [eS]
  have eC : colW N w = colN N (StrN N (prW w) (ygW N w)) (KepN N (StrN N (prW w) (ygW N w)) (prW w)) (ygW N w) := by
    unfold colW
    rw [eS, eK, if_neg hw0]
  have hCl := clsW hI hw
  rw [if_neg hw0, eS, eK] at hCl
  have ip : inR (prW w) := by
    unfold prW
    split <;> exact ⟨by decide, by decide⟩
  have go : ∀ D1, WipM N S D D1 c 3 → OkU (gB G) (gl G) md_X12_roots [] 0 0 [rv (s_m c), .int (I (1 : Int))] S D1 M (uD kV S M (fun (_ : Unit) D2 => L_X12_collect_115 G S D2 M (s_m c) x1 (prW w) (0 : Int))) := by
    intro D1 g
    have hR1 : SR N S D1 c := sr_all hpi Xs.rf (agd_le g.1 (fun r j => kNm_all)) g.2.1 hR
    refine w_roots (CtU_fl hG) hR1.l hb hR1.o hR1.f hR1.q hR1.b bit1 ⟨hfr.1, hfr.2.1, hfr.2.2.1⟩ (fun f s hf hs hn => ?_) ⟨hli.1.2.1, hli.1.2.2.1⟩ ⟨hli.2.2.1, hli.2.2.2.1⟩ (fun D2 g2 => ?_)
    · have := hfr.2.2.2.1 f s hf hs
      rw [if_neg hn] at this
      exact this
    · have hR2 := addm_sr hpi g2 hR1
      refine c115 (y := ygW N w) hG hI off hR2 ⟨by omega, by omega⟩ ip hy (fun q hq => ?_) (fun q hq => ?_) (fun D3 hR3 m1 m2 h8 => ?_)
      · rw [g2.2.2 q hq 1 bit1, g.2.2 q hq 1 bit1]
        constructor
        · rintro (a | a)
          · exact absurd (show inB 3 1 by unfold inB; decide +kernel) a.2
          · exact a.2
        · exact fun a => Or.inr ⟨rfl, a⟩
      · rw [g2.2.2 q hq 2 bit2, g.2.2 q hq 2 bit2]
        rintro (a | a)
        · exact absurd (show inB 3 2 by unfold inB; decide +kernel) a.2
        · exact absurd a.1 (by decide)
      · refine ctail (T := StrN N (prW w) (ygW N w)) (y := ygW N w) hG hI off hR3 m1 m2 (fun q h => str_lt h) hCl ⟨by omega, by omega⟩ ip hy (fun h => h.2) hi h3 h4 (fun D4 h hk => ?_)
        have := fin D4 (by rw [eC]; exact h) (by rw [eC]; exact kpt_8 (kp8_tr (kp8_wip hR.l g (by unfold inB; decide +kernel)) (kp8_tr (kp8_add hR1.l g2 (by decide) rfl) h8)) hk)
        rw [eK] at this
        exact this
  refine go_X12_collect_27 hG (smC hR.l) ⟨⟨by omega, by omega⟩, ⟨by decide, by decide⟩, fun h2 => ?_, fun h2 => ?_⟩
  · refine w_wipe (CtU_fl hG) hR.l hb hR.o hR.b (Or.inr rfl) (fun D1 g => ⟨⟨by omega, by omega⟩, ⟨by decide, by decide⟩, fun _ => ?_, fun z => absurd z (by omega)⟩)
    have := go D1 g
    have ep : prW w = 0 := if_neg (by omega)
    rw [ep] at this
    exact this
  · refine w_wipe (CtU_fl hG) hR.l hb hR.o hR.b (Or.inr rfl) (fun D1 g => ⟨⟨by omega, by omega⟩, ⟨by decide, by decide⟩, fun _ => ?_, fun z => absurd z (by omega)⟩)
    have := go D1 g
    have ep : prW w = 1 := if_pos (by omega)
    rw [ep] at this
    exact this
theorem c27e {G : GT} {B : WB} {l : Launch} {S : Sh} {D M N : Mem} {c : SC} {i : Nat} {Q : Int → Mem → Prop} (hG : CtU G md_X12_collect [] S (uD kI S M Q) B l 0 0) (hI : Inv i N) (hon : N 72 10 = 1) (hR : SR (offN N) S D c) (h17 : D (s_m c) 17 = N 97 2) (hm4 : ∀ q : Nat, (q : Int) < N 80 0 → (BS D c 4 q ↔ Kp N q)) (hi : i ≤ 1000) (h3 : N 80 3 + 1 ≤ 100 * i) (h4 : N 80 4 + 1 ≤ 100 * i) (fin : ∀ D1, SR (colW N 0) S D1 c → Kpt N D c (colW N 0) D1 → Q (N 80 0 - ((kc (KW N 0) (N 80 0).toNat : Nat) : Int)) D1) : L_X12_collect_27 G S D M (s_m c) 3 := by
  have hIo := inv_off hI
  have hb := obI_of hIo.ob
  have hw : WayOk N 0 := ⟨⟨by decide, by decide⟩, fun _ => hon, fun z => absurd rfl z⟩
  have hpi : offN N 72 10 = 1 → offN N 97 0 ≤ offN N 80 0 := fun z => absurd (show (0 : Int) = 1 from z) (by decide)
  have eS : SW N 0 = fun p : Nat => (p : Int) < N 80 0 ∧ Gd N p := by
    funext p
    unfold SW
    rw [if_pos rfl]
  have eK : KW N 0 = KepN (offN N) (SW N 0) 0 := by
    funext p
    exact propext kep_off.symm
  have hCl := clsW hI hw
  rw [if_pos rfl, eK] at hCl
  refine go_X12_collect_27 hG (smC hR.l) ⟨⟨by decide, by decide⟩, ⟨by decide, by decide⟩, fun _ => ?_, fun h2 => absurd h2 (by decide)⟩
  refine w_wipe (CtU_fl hG) hR.l hb hR.o hR.b (Or.inr rfl) (fun D1 g => ⟨⟨by decide, by decide⟩, ⟨by decide, by decide⟩, fun z => absurd rfl z, fun _ => ?_⟩)
  have hR1 : SR (offN N) S D1 c := sr_all hpi Xs.rf (agd_le g.1 (fun r j => kNm_all)) g.2.1 hR
  refine c50 hG hI hon hR1 ((g.1 _ _ _ _ hR.l.1 17 rfl).trans h17) (fun q hq => ?_) (fun q hq => ?_) (fun q hq => ?_) (fun D2 hR2 m1 m2 h8 => ?_)
  · rw [g.2.2 q hq 4 bit4, hm4 q hq]
    exact ⟨fun a => a.1, fun a => ⟨a, fun z => z (by decide +kernel)⟩⟩
  · rw [g.2.2 q hq 1 bit1]
    exact fun a => a.2 (show inB 3 1 by unfold inB; decide +kernel)
  · rw [g.2.2 q hq 2 bit2]
    exact fun a => a.2 (show inB 3 2 by unfold inB; decide +kernel)
  · refine ctail (T := SW N 0) (y := ygW N 0) hG hIo rfl hR2 (by rw [eS]; exact m1) m2 (fun q h => by rw [eS] at h; exact h.1) hCl ⟨by decide, by decide⟩ ⟨by decide, by decide⟩ ⟨fun z => absurd z.1 (by decide), fun z => absurd z (by decide)⟩ (fun z => absurd z.1 (by decide)) hi h3 h4 (fun D3 h hk => ?_)
    have := fin D3 (by unfold colW; rw [if_pos rfl, eK]; exact h) (by unfold colW; rw [if_pos rfl, eK]; exact kpt_b rfl (fun _ => rfl) (kpt_8 (kp8_tr (kp8_b rfl (kp8_wip hR.l g (by unfold inB; decide +kernel))) h8) (kpt_b rfl (fun _ => rfl) hk)))
    rw [eK] at this
    exact this
section WCol
variable {B : WB} {l : Launch} {S : Sh} {D M N : Mem} {c : SC} {i : Nat} {w : Int}
theorem colW_12 (h : ¬ ygW N 1) : colW N 1 = colW N 2 ∧ KW N 1 = KW N 2 := by
  have ey : ygW N 1 = ygW N 2 := propext ⟨fun z => absurd z h, fun z => absurd z.1 (by decide)⟩
  have eS : SW N 1 = SW N 2 := by
    funext p
    unfold SW
    rw [ey]
    rfl
  have eK : KW N 1 = KW N 2 := by
    funext p
    unfold KW
    rw [eS]
    rfl
  refine ⟨?_, eK⟩
  unfold colW
  rw [eS, eK, ey]
  rfl
theorem w_collectR (hl : l.stackTraces = false) (hI : Inv i N) (hw : WayOk N w) (hw2 : 2 ≤ w) (hR : SR N S D c) (hi : i ≤ 1000) (h3 : N 80 3 + 1 ≤ 100 * i) (h4 : N 80 4 + 1 ≤ 100 * i) {Q : Int → Mem → Prop} (hq : ∀ D1, SR (colW N w) S D1 c → Kpt N D c (colW N w) D1 → Q (N 80 0 - ((kc (KW N w) (N 80 0).toNat : Nat) : Int)) D1) : OkU B l md_X12_collectR [] 0 0 [rv (s_m c), .int (I (howW w))] S D M (uD kI S M Q) := by
  have eh : howW w = w - 1 := if_neg (by omega)
  have := hw.1
  refine ok_X12_collectR hl (fun G hG hS => go_X12_collectR_0 hG (smC hR.l) ⟨⟨by omega, by omega⟩, fun _ => ?_, fun z => absurd z (by omega)⟩ hS)
  exact c27R hG hI hw (by omega) rfl ⟨fun z => by have := z.1; omega, fun z => by omega⟩ hR hi h3 h4 hq
theorem w_collect (hl : l.stackTraces = false) (hI : Inv i N) (hw : WayOk N w) (hw0 : w ≠ 0) (hR : SR N S D c) (hi : i ≤ 1000) (h3 : N 80 3 + 1 ≤ 100 * i) (h4 : N 80 4 + 1 ≤ 100 * i) {Q : Int → Mem → Prop} (hq : ∀ D1, SR (colW N w) S D1 c → Kpt N D c (colW N w) D1 → Q (N 80 0 - ((kc (KW N w) (N 80 0).toNat : Nat) : Int)) D1) : OkU B l md_X12_collect [] 0 0 [rv (s_m c), .int (I (howW w))] S D M (uD kI S M Q) := by
  have eh : howW w = w - 1 := if_neg hw0
  have hw1 := hw.1
  have wt : wsR N true (N 80 0).toNat = N 6 19 := hI.ob.2.2.2.2.2.2.2.2.2.1.symm
  have wf : wsR N false (N 80 0).toNat = N 6 18 := hI.ob.2.2.2.2.2.2.2.2.1.1.symm
  have bt := wsR_b (wd_ok hI) true (N 80 0).toNat (by have := hI.ob.1.2; omega)
  have bf := wsR_b (wd_ok hI) false (N 80 0).toNat (by have := hI.ob.1.2; omega)
  have b208 := hI.ob.1.2
  refine ok_X12_collect hl (fun G hG hS => go_X12_collect_0 hG (smC hR.l) ⟨⟨by omega, by omega⟩, fun hx => ?_, fun hx => ?_⟩ hS)
  · exact c27 hG hI hw hw0 rfl ⟨fun z => by have := z.1; omega, fun z => absurd z hx⟩ hR hi h3 h4 hq
  · have hw' : w = 1 := by omega
    subst hw'
    refine w_words (CtU_fl hG) hR.l hR.o (wd_ok hI) (old_01 hI) true (fun z1 => w_words (CtU_fl hG) hR.l hR.o (wd_ok hI) (old_01 hI) false (fun z2 => ⟨⟨by omega, by omega⟩, ⟨by decide, by decide⟩, fun hle => ?_, fun hgt => ?_⟩))
    · exact c27 hG hI hw hw0 rfl ⟨fun _ => rfl, fun _ => ⟨rfl, by omega⟩⟩ hR hi h3 h4 hq
    · have hn : ¬ ygW N 1 := fun z => by have := z.2; omega
      obtain ⟨e1, e2⟩ := colW_12 hn
      refine w_collectR (w := 2) (CtU_fl hG) hI ⟨⟨by decide, by decide⟩, fun z => absurd z (by decide), fun _ => hw.2.2 (by decide)⟩ (by decide) hR hi h3 h4 (fun D1 h hk => fun z => ⟨z, ?_⟩)
      rw [← e2]
      exact hq D1 (by rw [e1]; exact h) (by rw [e1]; exact hk)
theorem w_collectE (hl : l.stackTraces = false) (hI : Inv i N) (hon : N 72 10 = 1) (hR : SR (offN N) S D c) (h17 : D (s_m c) 17 = N 97 2) (hm4 : ∀ q : Nat, (q : Int) < N 80 0 → (BS D c 4 q ↔ Kp N q)) (hi : i ≤ 1000) (h3 : N 80 3 + 1 ≤ 100 * i) (h4 : N 80 4 + 1 ≤ 100 * i) {Q : Int → Mem → Prop} (hq : ∀ D1, SR (colW N 0) S D1 c → Kpt N D c (colW N 0) D1 → Q (N 80 0 - ((kc (KW N 0) (N 80 0).toNat : Nat) : Int)) D1) : OkU B l md_X12_collect [] 0 0 [rv (s_m c), .int (I 3)] S D M (uD kI S M Q) :=
  ok_X12_collect hl (fun G hG hS => go_X12_collect_0 hG (smC hR.l) ⟨⟨by decide, by decide⟩, fun _ => c27e hG hI hon hR h17 hm4 hi h3 h4 hq, fun hx => absurd hx (by decide)⟩ hS)
/-- marking ends -/
theorem sr_off (hI : Inv i N) (hR : SR N S D c) {D1 : Mem} (hD1 : D1 = up D (s_m c) 16 0) : SR (offN N) S D1 c := by
  have ag : ∀ kk : Nat → Nat → Bool, kk 0 16 = false → AgD S D D1 kk := fun kk h => by
    rw [hD1]
    exact agd_up hR.l.1 h agd_rf
  refine ⟨srl_k Xs.rf (ag kL rfl) hR.l, srf_k hR.l Xs.rf (ag kF rfl) hR.f, srq_k hR.l (ag kQ rfl) hR.q, srk_k hR.l Xs.rf (ag kK rfl) hR.k, sro_k hR.l Xs.rf (ag kO rfl) hR.o, srb_k hR.l hR.o (ag kB rfl) hR.b, sri_k hR.l Xs.rf (ag kIm rfl) hR.i, src_k hR.l (ag kC rfl) hR.c, srm_off rfl ?_⟩
  rw [hD1, up_s]
theorem w_end (hl : l.stackTraces = false) (hI : Inv i N) (hR : SR N S D c) (hon : N 72 10 = 1) (hi : i ≤ 1000) (h3 : N 80 3 + 1 ≤ 100 * i) (h4 : N 80 4 + 1 ≤ 100 * i) {Q : Unit → Mem → Prop} (hq : ∀ D1, SR (colW N 0) S D1 c → Kpt N D c (colW N 0) D1 → Q () D1) : OkU B l md_X12_end [] 0 0 [rv (s_m c)] S D M (uD kV S M Q) := by
  refine ok_X12_end hl (fun G hG hS => go_X12_end_0 hG (smC hR.l) ?_ hS)
  refine w_toKeep (CtU_fl hG) hI hR hon (fun D1 g1 gb gm => fun z1 => ⟨Or.inl rfl, fun D2 hD2 => ?_⟩)
  have hR1 : SR N S D1 c := sr_all (pi_le hI) Xs.rf (agd_le g1 (fun r j => kNm_all)) gb hR
  have hR2 := sr_off hI hR1 hD2
  have nal : s_al c ≠ s_m c := lk_ne hR.l.2.1.2 hR.l.1 (by decide)
  refine w_collectE (CtU_fl hG) hI hon hR2 ?_ (fun q hq9 => ?_) hi h3 h4 (fun D3 h hk => fun _ => hq D3 h (kpt_8 (kp8_tr ⟨fun q => nm_tg hR.l g1 q, fun q hq9 => (gm q hq9).2 8 bit8 (by decide)⟩ (by rw [hD2]; exact kp8_up (lk_ne hR.l.1 hR.l.2.1.2 (by decide)) (by decide))) hk))
  · rw [hD2, up_k (by decide)]
    exact (hR1.m.2 hon).1.1
  · have et : tg c D2 q = tg c D1 q := by
      show (D2 (s_al c) q).toNat = (D1 (s_al c) q).toNat
      rw [hD2, up_ad nal]
    rw [← (gm q hq9).1]
    unfold BS
    rw [et, hD2, up_ad (lk_ne (hR1.o.2.2 q hq9).1 hR1.l.1 (by decide))]
end WCol
