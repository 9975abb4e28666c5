/-! ===== deepCopy by hand: all of it ===== -/
section CpE
variable {B : WB} {l : Launch} {S : Sh} {D D1 D2 M N : Mem} {c : SC} {i p k9 n9 : Nat} {a b e : Int} {Q : Int → Sh → Mem → Prop}
/-- what making copies needs, behind a search for room -/
theorem cp_room (hI : Inv i N) (hR : SR N S D c) (hp : (p : Int) < N 80 0) (h2 : N 82 p ≤ 2) (hroot : ∃ k : Nat, k < 72 ∧ N 89 k = N 81 p) (h16 : N 16 (N 19 p).toNat = 0) (hB : ∀ q : Nat, (q : Int) < N 80 0 → (BS D c 8 q ↔ Nt N p q)) (hR1 : SR (rmN N (wtN N p)) S D1 c) (hK : Kpt N D c (rmN N (wtN N p)) D1) (hr : RoomN (rmN N (wtN N p)) (wtN N p)) :
    ∃ q0 : Nat, (q0 : Int) < rmN N (wtN N p) 80 0 ∧ rmN N (wtN N p) 81 q0 = N 81 p ∧ tg c D1 q0 = tg c D p ∧ CpOk (i + 1) (rmN N (wtN N p)) (CopC (rmN N (wtN N p)) q0) (mkO (wtN N p)) ∧ CopC (rmN N (wtN N p)) q0 q0 ∧ ∀ q : Nat, (q : Int) < rmN N (wtN N p) 80 0 → (BS D1 c 8 q ↔ Nt (rmN N (wtN N p)) q0 q) := by
  have hRm := rmi_start hI
  have hN2 := (rm_inv (x := wtN N p) hRm).1
  have hob := obI_of hI.ob
  have RO := rep_ref (inv_rep hI)
  obtain ⟨K, f, E⟩ := emb_rm (x := wtN N p) hRm
  have E9 := E
  obtain ⟨E1, E2, E3, E4, E5, E6, E7⟩ := E9
  have e2 : rmN N (wtN N p) 80 2 = N 80 2 := rm_k (by omega)
  have e89 : ∀ k, rmN N (wtN N p) 89 k = N 89 k := fun k => rm_k (by omega)
  have hKp : K p := E6 p hp (by obtain ⟨k, h1, h3⟩ := hroot; exact ⟨k, h1, h3⟩)
  obtain ⟨f0, f19, f81, f82, -, f16, -⟩ := E2 p hKp
  have hNt := fun q (hq : K q) => nt_iff E RO hKp hq
  have hwt := wt_emb E RO hKp
  refine ⟨f p, f0, f81, ?_, ?_, ?_, fun q hq => ?_⟩
  · obtain ⟨p', g1, g2, g3, -⟩ := hK (f p) f0
    have := nu_inj hob g1 hp (g3.symm.trans f81)
    rw [g2, this]
  · refine cp_ok hI hN2 e2 f0 (by rw [f82]; exact h2) ?_ hwt hr
    obtain ⟨k, h1, h3⟩ := hroot
    exact ⟨k, h1, by rw [e89, f81]; exact h3⟩
  · exact ⟨nt_self, by rw [f19, f16]; exact h16⟩
  · obtain ⟨p', g1, g2, g3, g4⟩ := hK q hq
    obtain ⟨p2, k1, k2⟩ := E3 q hq
    have e9 : N 81 p' = N 81 p2 := by rw [← g3, k2]; exact (E2 p2 k1).2.2.1
    have := nu_inj hob g1 (E1 p2 k1) e9
    subst this
    rw [g4, hB p' g1, k2]
    exact (hNt p' k1).symm
theorem w_copied (hl : l.stackTraces = false) (hI : Inv i N) (hi : i + 1 ≤ 1000) (hR : SR N S D c) (hp : (p : Int) < N 80 0) (h2 : N 82 p ≤ 2) (hroot : ∃ k : Nat, k < 72 ∧ N 89 k = N 81 p) (ha : 0 ≤ a ∧ a < wd N) (hk9 : 1040 ≤ k9) (hn9 : 30000 ≤ n9)
    (q1 : N 16 (N 19 p).toNat ≠ 0 → ∀ D1, (∀ V, HdN N V a (N 81 p) → SR V S D1 c) → Q (N 81 p) S D1)
    (q2 : N 16 (N 19 p).toNat = 0 → (¬ RoomN (rmN N (wtN N p)) (wtN N p) → ∀ D1, SR (rmN N (wtN N p)) S D1 c → Q (-1) S D1) ∧ (RoomN (rmN N (wtN N p)) (wtN N p) → ∀ q0 : Nat, (q0 : Int) < rmN N (wtN N p) 80 0 → rmN N (wtN N p) 81 q0 = N 81 p → CpOk (i + 1) (rmN N (wtN N p)) (CopC (rmN N (wtN N p)) q0) (mkO (wtN N p)) → ∀ S1 D1, (∀ V, HdN (cpyN (rmN N (wtN N p)) q0 (mkO (wtN N p))) V a (N 80 2 + kc (CopC (rmN N (wtN N p)) q0) q0) → SR V S1 D1 c) → Q (N 80 2 + kc (CopC (rmN N (wtN N p)) q0) q0) S1 D1)) :
    OkU B l md_X12_copied [] k9 n9 [rv (s_m c), .int (I a), rv (tg c D p)] S D M (uS kI M Q) := by
  have hL := hR.l
  have hO := hR.o
  have ht := hO.2.2 p hp
  have hob := obI_of hI.ob
  have h208 := hI.ob.1.2
  have e14 : D (tg c D p) 14 = N 16 (N 19 p).toNat := ht.2.2.2.1.2.2.2.2.2
  have hfr := hI.fr
  refine ok_X12_copied hl (fun G hG hS => go_X12_copied_0 hG Xs.rf (smC hL) ⟨thC ht, fun z1 => ⟨z1, fun h0 => ⟨⟨by omega, by omega⟩, ?_⟩, fun h0 => ⟨⟨by omega, by omega⟩, ?_⟩⟩⟩ hS)
  · -- not INTERNED
    have h16 : N 16 (N 19 p).toNat = 0 := by rw [← e14]; exact h0
    obtain ⟨q2a, q2b⟩ := q2 h16
    refine w_wipe (CtU_fl hG) hL hob hO hR.b (Or.inl bit8) (fun Da hDa => ⟨⟨by omega, by omega⟩, ?_⟩)
    have hRa : SR N S Da c := sr_all (pi_le hI) Xs.rf (agd_le hDa.1 (fun r j => kNm_all)) hDa.2.1 hR
    have eta := nm_tg hL hDa.1 p
    have hnr : Nr N Da c (tg c D p) (N 81 p) := Or.inr ⟨p, hp, eta.symm, rfl⟩
    refine w_put (CtU_fl hG) hRa.l hob hRa.o hRa.b bit8 hnr (fun r Db hDb _ => fun z => ?_)
    have hRb : SR N S Db c := addm_sr (pi_le hI) hDb hRa
    have etb := nm_tg hRa.l hDb.1 p
    have hB0 : ∀ q : Nat, (q : Int) < N 80 0 → (BS Db c 8 q ↔ q = p) := fun q hq => by
      rw [hDb.2.2 q hq 8 bit8, hDa.2.2 q hq 8 bit8]
      constructor
      · rintro (⟨-, h⟩ | ⟨-, h⟩)
        · exact absurd (show inB 8 8 by unfold inB; decide +kernel) h
        · exact nu_inj hob hq hp h
      · rintro rfl
        exact Or.inr ⟨rfl, rfl⟩
    intro hSb
    refine cp_net (p := p) hG hSb hI hRb ⟨by omega, by omega⟩ hp hB0 (fun Dc hDc => ?_) hSb
    have hRc : SR N S Dc c := addm_sr (pi_le hI) hDc hRb
    have etc := nm_tg hRb.l hDc.1 p
    have hBc : ∀ q : Nat, (q : Int) < N 80 0 → (BS Dc c 8 q ↔ Nt N p q) := fun q hq => by
      rw [hDc.2.2 q hq 8 bit8, hB0 q hq]
      constructor
      · rintro (rfl | ⟨-, h⟩)
        · exact nt_self
        · exact h
      · exact fun h => Or.inr ⟨rfl, h⟩
    have hx : 0 ≤ wtN N p ∧ wtN N p ≤ 1000000 := by
      have := wt_bd (p := p) hI (N 80 0).toNat (by omega)
      unfold wtN
      omega
    refine cp_words hG hI hRc ⟨by omega, by omega⟩ hBc (w_room (CtU_fl hG) (rmi_start hI) hi hRc hx (fun Dd hDd hKd => ⟨fun hr => fun z1 => ⟨inR_b z1, fun _ => fun _ => ?_, n10⟩, fun hr => fun z1 => ⟨inR_b z1, n00, fun _ => ⟨⟨by omega, by omega⟩, ⟨by decide, by decide⟩, q2a hr Dd hDd⟩⟩⟩))
    obtain ⟨q0, c1, c2, c3, c4, c5, c6⟩ := cp_room hI hRc hp h2 hroot h16 hBc hDd hKd hr
    have c7 := q2b hr q0 c1 c2 c4
    generalize hx9 : wtN N p = x at *
    have w6 : rmN N x 80 6 = N 80 6 := rm_k (by omega)
    have w88 : ∀ f, rmN N x 88 f = N 88 f := fun f => rm_k (by omega)
    have w21 : rmN N x 21 5 = N 21 5 := rm_k (by omega)
    have w23 : ∀ f, rmN N x 23 f = N 23 f := fun f => rm_k (by omega)
    have w802 : rmN N x 80 2 = N 80 2 := rm_k (by omega)
    generalize hN2 : rmN N x = N2 at *
    have e1 : Dd (s_m c) 1 = N2 80 0 := hDd.o.1
    have hn := c4.1.ob.1
    have et2 : tg c D p = tg c Dd q0 := by rw [c3, etc, etb, eta]
    rw [e1, et2]
    generalize hC9 : CopC N2 q0 = C at *
    have kle := kc_le (K := C) (p := (N2 80 0).toNat)
    have hbk : 5 * kc C (N2 80 0).toNat ≤ k9 ∧ 144 * kc C (N2 80 0).toNat ≤ n9 := ⟨by omega, by omega⟩
    intro hSd
    refine cp_make (k := 0) hG hSd c4 hi rfl ⟨by omega, by omega⟩ hDd ⟨by omega, by omega⟩ c6 (fun s _ => by rw [← hC9]; exact Iff.rfl) (fun H D9 S' h9 hS9 => ?_) (N2 80 0).toNat (by omega) Dd Dd S ⟨⟨Xs.rf, hDd⟩, ⟨fun _ _ => rfl, fun _ _ _ _ _ _ _ _ => rfl⟩, ⟨fun _ _ _ _ _ _ _ _ => rfl, fun _ _ _ _ _ => rfl⟩, fun s hs => absurd hs (Nat.not_lt_zero _), fun s hs => absurd hs (Nat.not_lt_zero _)⟩ hSd
    refine cp_fill hG c4 hDd h9 hS9 hbk c1 rfl c5 (fun D10 hD10 => ?_) (N2 80 0).toNat 0 (by omega) D9 ⟨fun _ _ _ => rfl, fun s hs => absurd hs (Nat.not_lt_zero _)⟩
    have hRV := sr_cpy c4 hDd h9 hD10
    have hIV := tr_inv c4 (N2 80 0).toNat (by omega)
    obtain ⟨hIT, ⟨T0, T1, T2⟩, -, q8, q7, qd, qk, qn, -⟩ := mk_v (b := true) c4 (N2 80 0).toNat (by omega)
    have hto := fun (a k : Nat) h1 h2 => tr_o (N := N2) (C := C) (V := mkT N2 C (mkO x) true (N2 80 0).toNat) (a := a) (k := k) h1 h2 (N2 80 0).toNat
    have eV : cpyN N2 q0 (mkO x) = trN N2 C (mkT N2 C (mkO x) true (N2 80 0).toNat) (N2 80 0).toNat := by
      unfold cpyN
      rw [hC9]
    rw [eV] at c7
    generalize hVV : trN N2 C (mkT N2 C (mkO x) true (N2 80 0).toNat) (N2 80 0).toNat = V at *
    generalize hTT : mkT N2 C (mkO x) true (N2 80 0).toNat = T at *
    obtain ⟨⟨hX, hSR⟩, -, ⟨h3, -⟩, -⟩ := h9
    have lt0 := kc_lt (K := C) c5 (show q0 < (N2 80 0).toNat by omega)
    have eV0 : V 80 0 = N2 80 0 + kc C (N2 80 0).toNat := (hto 80 0 (by decide) (by decide)).trans T0
    have hnr : Nr V D10 c (twC N2 C c H q0) (N 80 2 + kc C q0) := by
      refine Or.inr ⟨(N2 80 0).toNat + kc C q0, by rw [eV0]; omega, ?_, ?_⟩
      · show (H (s_al c) _).toNat = (D10 (s_al c) _).toNat
        rw [hD10.1 _ _ (fun s hs hcs z => ?_), h3 _ _ _ _ hSR.l.2.1.2 (by decide) _ (fun z => absurd z.1 (by decide))]
        have hlt := kc_lt (K := C) hcs (show s < (N2 80 0).toNat by omega)
        have h4 := mk_tf (N := N2) (C := C) (o := mkO x) (N2 80 0).toNat 80 0 (by decide) (by decide)
        have hl7 := (hSR.o.2.2 ((N2 80 0).toNat + kc C s) (by rw [← h4, hTT, T0]; omega)).2.2.1.1
        have hl2 := hSR.l.2.1.2
        rw [z] at hl2
        exact lk_ne hl2 hl7 (by decide) rfl
      · rw [hto 81 _ (by decide) (by decide), (qn q0 (by omega) c5).1, w802]
    refine w_hold9 (N := N) (P := fun W => W = V) (CtU_fl hG) hfr ⟨V, rfl, by rw [hto 21 _ (by decide) (by decide), qk 21 5 (by omega), w21], fun f => by rw [hto 23 _ (by decide) (by decide), qk 23 f (by omega), w23]⟩ (fun W hW => by
      rw [hW]
      exact ⟨hRV, ⟨by rw [hto 80 _ (by decide) (by decide), qk 80 6 (by omega), w6], fun f => by rw [hto 88 _ (by decide) (by decide), qk 88 f (by omega), w88]⟩, pi_le hIV, hnr⟩) ha (fun D11 hn11 h11 => fun _ => ?_)
    have h12 : ∀ V', HdN V V' a (N 80 2 + kc C q0) → SR V' S' D11 c := fun V' h => h11 V V' rfl h
    have hen : N2 80 0 = (((N2 80 0).toNat : Nat) : Int) := by omega
    have h13 := cp_reset (n := (N2 80 0).toNat) (x6 := N 80 2 + kc C q0) hG hX hbk (P := fun V' => HdN V V' a (N 80 2 + kc C q0)) ⟨fun o q => if o = 89 then (if q = sx V a then (N 80 2 + kc C q0 : Int) else V 89 q) else V o q, fun o k h22 h89 h72 => if_neg h89, fun q => if_pos rfl⟩ (by omega) (fun V' hV' => by
      rw [hV'.1 72 10 (by decide) (by decide) (by decide), hV'.1 97 0 (by decide) (by decide) (by decide), hV'.1 80 0 (by decide) (by decide) (by decide)]
      exact ⟨pi_le hIV, by rw [eV0]; omega⟩) hn11 (fun D12 h => c7 S' D12 h) (N2 80 0).toNat 0 (by omega) D11 h12
    rw [← hen] at h13
    exact h13
  · -- INTERNED: it is its own copy
    refine w_hold9 (N := N) (P := fun W => W = N) (CtU_fl hG) hfr ⟨N, rfl, rfl, fun _ => rfl⟩ (fun W hW => by
      rw [hW]
      exact ⟨hR, ⟨rfl, fun _ => rfl⟩, pi_le hI, Or.inr ⟨p, hp, rfl, rfl⟩⟩) ha (fun D11 hn11 h11 => fun z => ⟨⟨by omega, by omega⟩, z, q1 (fun h => h0 (e14.trans h)) D11 (fun V h => h11 N V rfl h)⟩)
section CpE2
variable {kb nb : Nat}
theorem du_29 (hl : l.stackTraces = false) (hI : Inv i N) (hi : i + 1 ≤ 1000) (hR : SR N S D c) (ha : 0 ≤ a ∧ a < wd N) (hb : 0 ≤ b ∧ b < wd N) (hk : 1040 ≤ kb) (hn : 30000 ≤ nb) (q1 : (∀ p : Nat, (p : Int) < N 80 0 → N 89 (sx N b) = N 81 p → ¬ N 82 p ≤ 2) → Q (-1012) S D)
    (q2 : ∀ p : Nat, (p : Int) < N 80 0 → N 89 (sx N b) = N 81 p → N 82 p ≤ 2 → (N 16 (N 19 p).toNat ≠ 0 → ∀ D1, (∀ V, HdN N V a (N 81 p) → SR V S D1 c) → Q (N 81 p) S D1) ∧
      (N 16 (N 19 p).toNat = 0 → (¬ RoomN (rmN N (wtN N p)) (wtN N p) → ∀ D1, SR (rmN N (wtN N p)) S D1 c → Q (-1) S D1) ∧ (RoomN (rmN N (wtN N p)) (wtN N p) → ∀ q0 : Nat, (q0 : Int) < rmN N (wtN N p) 80 0 → rmN N (wtN N p) 81 q0 = N 81 p → CpOk (i + 1) (rmN N (wtN N p)) (CopC (rmN N (wtN N p)) q0) (mkO (wtN N p)) → ∀ S1 D1, (∀ V, HdN (cpyN (rmN N (wtN N p)) q0 (mkO (wtN N p))) V a (N 80 2 + kc (CopC (rmN N (wtN N p)) q0) q0) → SR V S1 D1 c) → Q (N 80 2 + kc (CopC (rmN N (wtN N p)) q0) q0) S1 D1))) :
    OkU B l md_X12_due [] kb nb [rv (s_m c), .int (I 29), .int (I a), .int (I b), .int (I e)] S D M (uS kI M Q) := by
  have hL := hR.l
  have hO := hR.o
  have hF := hR.f
  have hf := hI.fr.fs
  have hwb := wd_b hf
  have hob := obI_of hI.ob
  refine due_t hl hL ⟨by decide, by decide⟩ (fun B' l' hl' => ok_X12_dueOfNets hl' (fun G hG hS => go_X12_dueOfNets_0 hG Xs.rf (smC hL) ⟨⟨by omega, by omega⟩, w_isSlotY (CtU_fl hG) hL hF hf ha (fun z1 => ⟨inR_b z1, n10, fun _ => ⟨⟨by decide, by decide⟩, ⟨by decide, by decide⟩, fun z => absurd z (by decide), fun _ => ⟨⟨by decide, by decide⟩, ⟨by decide, by decide⟩, fun z => absurd rfl z, fun _ => ⟨⟨by omega, by omega⟩, w_isSlotY (CtU_fl hG) hL hF hf hb (fun z2 => ⟨inR_b z2, fun _ => ⟨⟨by decide, by decide⟩, fun z => absurd z (by decide), fun z => absurd z (by decide), fun _ => go_X12_dueOfNets_156 hG Xs.rf (smC hL) ?_, fun z => absurd z (by decide), fun z => absurd z (by decide)⟩, n10⟩)⟩⟩⟩⟩)⟩ hS))
  refine ⟨⟨by omega, by omega⟩, w_form (CtU_fl hG) hL hO hF hf hb (fun f h => ?_)⟩
  rcases sl_what hI hR hb with ⟨e0, e1⟩ | ⟨p, hp, e0, e1⟩
  · have hfr : f = -1 := by
      rcases h with h | ⟨p, hp, h9, -⟩
      · exact h.2
      · have := hob.2.2 p hp
        omega
    rw [hfr]
    exact fun z2 => ⟨z2, fun _ => ⟨⟨by omega, by omega⟩, ⟨by decide, by decide⟩, q1 (fun p hp e9 => by have := hob.2.2 p hp; omega)⟩, fun z => absurd z (by decide)⟩
  have hfr : ∀ f, fmN N (N 89 (sx N b)) f → f = N 82 p := fun f h => by
    rcases h with h | ⟨p', hp', h9, h8⟩
    · have := hob.2.2 p hp
      omega
    · have := nu_inj hob hp hp' (e1.symm.trans h9)
      rw [h8, this]
  have hfb := frm_b hI hp
  rw [hfr f h]
  refine fun z2 => ⟨z2, fun z => absurd z (by omega), fun _ => ⟨⟨by omega, by omega⟩, w_form (CtU_fl hG) hL hO hF hf hb (fun f2 h2 => ?_)⟩⟩
  rw [hfr f2 h2]
  refine fun z3 => ⟨z3, ⟨by decide, by decide⟩, fun h2 => ⟨⟨by omega, by omega⟩, w_at (CtU_fl hG) hL hF hf hb ?_⟩, fun h2 => ⟨⟨by omega, by omega⟩, ⟨by decide, by decide⟩, q1 (fun p' hp' e9 => by
    have := nu_inj hob hp hp' (e1.symm.trans e9)
    rw [← this]
    omega)⟩⟩
  rw [e0]
  obtain ⟨g1, g2⟩ := q2 p hp e1 h2
  have hsx : sx N b < 72 := by
    have h8 := hf.1
    have h9 := hf.2.1
    unfold sx
    omega
  have c1 : ∀ {n : Int} {S1 : Sh} {D1 : Mem}, Q n S1 D1 → inR n → Xs S S1 → ((0 + 1040 ≤ kb ∧ 0 + 30000 ≤ nb) ∧ inR n ∧ Q n S1 D1) := fun h hn _ => ⟨⟨by omega, by omega⟩, hn, h⟩
  exact ⟨1040, 30000, ⟨by omega, by omega⟩, w_copied (CtU_fl hG) hI hi hR hp h2 ⟨_, hsx, e1⟩ ha (Nat.le_refl _) (Nat.le_refl _) (fun h16 D1 h => c1 (g1 h16 D1 h)) (fun h16 => ⟨fun hr D1 h => c1 ((g2 h16).1 hr D1 h), fun hr q0 k1 k2 k3 S1 D1 h => c1 ((g2 h16).2 hr q0 k1 k2 k3 S1 D1 h)⟩)⟩
end CpE2
end CpE
