/-! ===== readImage by hand: the IMAGE is read through, all of it ===== -/
section ImC9
variable {B : WB} {l : Launch} {S S1 : Sh} {D D1 M N : Mem} {c : SC} {i : Nat} {x1 : Int}
section ImC1
variable {G : GT} {Q : Int → Sh → Mem → Prop} {K n9 t3 t4 m kk nn k p w9 : Nat} {xk : Int}
/-- one object of the IMAGE -/
theorem im_59 (hG : CtU G md_X12_taken [] S (uS kI M Q) B l K n9) (hI : Inv i N) (hR : SR N S D c) (hm : (N 77 0).toNat = m ∧ (m : Int) = N 77 0 ∧ m ≤ 200 ∧ k < m) (hb : kk + 5 ≤ K ∧ nn + w9 ≤ n9) (hw40 : 40 ≤ w9) (hw9 : HdOk N p → 24 + (imS N p).toNat ≤ w9) (hS : ScS N S S1 D D1 c t3 t4 k) (htg : ∀ s : Nat, s < k → TgOk N (imA N s)) (hpk : imA N k = p) (hp : (p : Int) ≤ N 72 9)
    (hf : ¬ TgOk N p → ∀ S' D', SR N S' D' c → Q (-2) S' D')
    (nx : TgOk N p → ∀ So D5, ScS N S (S1 ++ So) D D5 c t3 t4 (k + 1) → L_X12_taken_59 G (S1 ++ So) D5 M (kk + 5) (nn + w9) (s_m c) x1 m t3 t4 ((p : Int) + 2 + imS N p) (xk + nwW N (imF N p) (N 77 (p + 1))) ((k : Int) + 1)) :
    L_X12_taken_59 G S1 D1 M kk nn (s_m c) x1 m t3 t4 p xk k := by
  have hL := hR.l
  have h9 := hI.im.2.1
  obtain ⟨him, hiv⟩ := hR.i
  obtain ⟨em, hm2, h200, hkm⟩ := hm
  have hS9 := hS
  obtain ⟨⟨hX, hD1⟩, ⟨n3, n4, l3, l4⟩, hIt, hds⟩ := hS9
  rw [em] at l3 l4
  have hR1 : SR N S1 D1 c := sr_on (pi_le hI) hX hD1 hR
  refine go_X12_taken_59 hG hX (smC hR1.l) ⟨⟨by omega, by omega⟩, ⟨by omega, by omega⟩, fun z => absurd z (by omega), fun _ => ⟨5, w9, ⟨by omega, by omega⟩, ?_⟩⟩
  refine w_drawn (CtU_fl hG) hI hR1 (by omega) (Nat.le_refl _) hw40 hw9 (fun hno => fun _ => ⟨fun z => absurd rfl z, fun _ => ⟨hb, ⟨by decide, by decide⟩, hf (fun z => hno ⟨z.1, z.2.1⟩) _ _ hR1⟩⟩) (fun hp2 hh T So D2 T0 tn hD2 hro hT => fun hX2 => ⟨fun _ => ?_, fun z => absurd z T0⟩)
  have hIm := orT_im (S0 := S1) hh tn hro hT
  obtain ⟨f0, f4, f5, f6, f7, g1, g3, g14⟩ := imT_f hh hIm
  have hz := hd_sz hI hh
  have hz2 : (0 ≤ imS N p ∧ imS N p ≤ 120) ∧ 0 ≤ imL N p ∧ imL N p ≤ imS N p := ⟨⟨hz.1, hz.2.1⟩, hz.2.2.1, hz.2.2.2.1⟩
  clear hz
  have l3' := lk_x hX2 l3
  have l4' := lk_x hX2 l4
  have him2 := lk_x hX2 (lk_x hX him)
  have hsm2 := lk_x hX2 (lk_x hX hL.1)
  have nT4 : T ≠ t4 := fun z => by rw [z, l4] at tn; cases tn
  have hCT : IsC (S1 ++ So) T 13 := ⟨1, 0, 24, f0, rfl⟩
  have ix4 : ∃ L : Nat, IsA (S1 ++ So) t4 100 L ∧ 0 ≤ (k : Int) ∧ (k : Int) < L := ⟨_, ⟨17, _, l4', rfl⟩, by omega, by omega⟩
  refine ⟨ix4, ⟨by omega, by omega⟩, fun D3 hD3 => ?_⟩
  have hD3 : D3 = up D2 t4 k ((p : Int) + 2) := hD3
  have o3 : ∀ a j, a ≠ t4 → D3 a j = D2 a j := fun a j h => by rw [hD3, up_ad h]
  have v4 : D3 t4 k = (p : Int) + 2 := by rw [hD3, up_s]
  have v4' : D3 t4 (k : Int).toNat = (p : Int) + 2 := v4
  rw [v4']
  refine ⟨ix4, fun _ => ⟨hCT, fun u97 hu97 => ?_⟩⟩
  rw [hu97, o3 T 4 nT4]
  refine ⟨⟨102, _, ⟨7, _, f4, rfl⟩, by decide⟩, fun w100 hw100 => ⟨hCT, fun u104 hu104 => ?_⟩⟩
  have e100 : (w100 : Int) = imL N p := by rw [hw100, lnS_of f4]; omega
  rw [e100, hu104, o3 T 5 nT4]
  refine ⟨⟨100, _, ⟨14, _, f5, rfl⟩, by decide⟩, fun w107 hw107 u114 hu114 => ?_⟩
  have e107 : (w107 : Int) = imS N p - imL N p := by rw [hw107, lnS_of f5]; omega
  have im3 : (D3 (s_m c) 15).toNat = (D (s_m c) 15).toNat ∧ ∀ k : Nat, (k : Int) < N 72 9 → D3 (D (s_m c) 15).toNat k = N 77 k := by
    refine ⟨?_, fun k hk => ?_⟩
    · rw [o3 _ _ (lk_ne hsm2 l4' (by decide)), hD2 _ _ (lk_x hX hL.1), hD1 _ _ hL.1]
    · rw [o3 _ _ (lk_ne him2 l4' (by decide)), hD2 _ _ (lk_x hX him), hD1 _ _ him]
      exact hiv k hk
  rw [e107, hu114.trans im3.1]
  refine ⟨⟨100, _, ⟨16, _, him2, rfl⟩, by decide⟩, fun w117 hw117 => ?_⟩
  have e117 : (w117 : Int) = N 72 9 := by rw [hw117, lnS_of him2]; omega
  rw [e117, show (p : Int) + 2 + imL N p + (imS N p - imL N p) = (p : Int) + 2 + imS N p by omega]
  have base : ∀ D', (∀ a j, a ≠ (D2 T 5).toNat → D' a j = D3 a j) → SR N (S1 ++ So) D' c := fun D' h => by
    refine sr_on (pi_le hI) (Xs.tr hX hX2) (fun a y ha j => ?_) hR
    have ha1 := lk_x hX ha
    have b1 : a ≠ (D2 T 5).toNat := fun z => by
      have h5 := hro 5 (Or.inr (Or.inl rfl))
      rw [← z, ha1] at h5
      cases h5
    have b2 : a ≠ t4 := fun z => by rw [z, n4] at ha; cases ha
    rw [h a j b1, o3 a j b2, hD2 a _ ha1]
    exact hD1 a _ ha j
  have hfl : ∀ D', (∀ a j, a ≠ (D2 T 5).toNat → D' a j = D3 a j) → ¬ TgOk N p → ((kk + 5 ≤ K ∧ nn + w9 ≤ n9) ∧ inR (-2 : Int) ∧ Q (-2 : Int) (S1 ++ So) D') := fun D' h hn => ⟨hb, ⟨by decide, by decide⟩, hf hn _ _ (base D' h)⟩
  refine ⟨⟨by omega, by omega⟩, ⟨by omega, by omega⟩, fun hle => ⟨ix4, fun _ => ?_⟩, fun hgt => hfl D3 (fun _ _ _ => rfl) (fun z => by have := z.2.2.1; omega)⟩
  have h0 := im_131 (x1 := x1) (xk := xk) (D3 := D3) (t3 := t3) hG (Xs.tr hX hX2) ⟨0, 0, 21, hsm2, rfl⟩ ⟨em, hm2, h200, hkm⟩ hh hz2 h9.2 hle f0 f4 f5 (by rw [o3 T 1 nT4]; exact g1) (by rw [o3 T 4 nT4]) (by rw [o3 T 5 nT4]) l4' v4 him2 hsm2 im3 hfl (fun hnm D4 h4 ht => ?_) (imS N p).toNat 0 (by omega) (fun e' he' => absurd he' (Nat.not_lt_zero _)) D3 (fun _ _ _ => rfl) (fun j hj => absurd hj (by omega))
  · rw [show (p : Int) + 2 + ((0 : Nat) : Int) = (p : Int) + 2 by omega] at h0
    exact h0
  · have hR4 := base D4 h4
    refine go_X12_taken_131 hG (Xs.tr hX hX2) (smC hR4.l) ⟨⟨by omega, by omega⟩, ⟨by omega, by omega⟩, fun _ => ⟨⟨_, ⟨11, _, l3', rfl⟩, by omega, by omega⟩, Or.inr hCT, fun D5 hD5 => ⟨hCT, fun z3 => ?_⟩⟩, fun z => absurd z (by omega)⟩
    have hD5 : D5 = up D4 t3 k (T : Int) := hD5
    have hn := scS_next (D3 := D3) (D4 := D4) (D5 := D5) hR em hS htg hh hpk tn hD2 hro hT hD3 h4 ht hD5
    rw [hn.2]
    exact nx ⟨hp2, hh, hle, fun e' he' => hnm e' he'⟩ So D5 hn.1
theorem im_scan (hG : CtU G md_X12_taken [] S (uS kI M Q) B l K n9) (hI : Inv i N) (hR : SR N S D c) (hbk : 1040 ≤ K ∧ 9000 ≤ n9) (hm : (N 77 0).toNat = m ∧ (m : Int) = N 77 0 ∧ m ≤ 200) (h1 : 1 ≤ m) (hne9 : N 72 9 ≠ 0) (qf : ¬ ImOk N → ∀ S1 D1, SR N S1 D1 c → Q (-2) S1 D1)
    (nx : ImOk N → ∀ S1 D1, ScS N S S1 D D1 c t3 t4 m → OkU (gB G) (gl G) md_X12_room [] 0 0 [rv (s_m c), .int (I (imX N m))] S1 D1 M (uD kZ S1 M (fun (r300 : Int) D2 => (r300 = 0 ∨ r300 = 1) → (inR r300 ∧ (r300 ≠ 0 → L_X12_taken_311 G S1 D2 M (2 + 5 * m) (m + m + 40 * m + (imA N m - 1)) (s_m c) x1 m t3 t4 (imX N m) (0 : Int)) ∧ (r300 = 0 → ((2 + 5 * m ≤ K ∧ m + m + 40 * m + (imA N m - 1) ≤ n9) ∧ inR (-1 : Int) ∧ Q (-1 : Int) S1 D2)))))) :
    ∀ r k : Nat, k + r = m → ∀ S1 D1, ScS N S S1 D D1 c t3 t4 k → (∀ s : Nat, s < k → TgOk N (imA N s)) → L_X12_taken_59 G S1 D1 M (2 + 5 * k) (m + m + 40 * k + (imA N k - 1)) (s_m c) x1 m t3 t4 (imA N k) (imX N k) k := by
  have hL := hR.l
  have h9 := hI.im.2.1
  obtain ⟨him, hiv⟩ := hR.i
  obtain ⟨em, hm2, h200⟩ := hm
  intro r
  induction r with
  | zero =>
    intro k hk S1 D1 hS htg
    have ek : k = m := by omega
    subst ek
    have hS9 := hS
    obtain ⟨⟨hX, hD1⟩, ⟨n3, n4, l3, l4⟩, hIt, hds⟩ := hS9
    have hR1 : SR N S1 D1 c := sr_on (pi_le hI) hX hD1 hR
    have hpre := im_pre hI (by omega) k htg
    refine go_X12_taken_59 hG hX (smC hR1.l) ⟨⟨by omega, by omega⟩, ⟨by omega, by omega⟩, fun _ u hu => ?_, fun z => absurd z (by omega)⟩
    have hu : u = (D (s_m c) 15).toNat := hu.trans (by rw [hD1 _ _ hL.1])
    rw [hu]
    refine ⟨⟨100, _, ⟨16, _, lk_x hX him, rfl⟩, by decide⟩, fun w hw => ?_⟩
    have ew : (w : Int) = N 72 9 := by rw [hw, lnS_of (lk_x hX him)]; omega
    rw [ew]
    exact ⟨⟨by omega, by omega⟩, ⟨by omega, by omega⟩, fun he => ⟨⟨by omega, by omega⟩, nx ⟨hne9, by omega, fun s hs => htg s (by omega), by rw [em]; exact he⟩ S1 D1 hS⟩, fun hn => ⟨⟨by omega, by omega⟩, ⟨by decide, by decide⟩, qf (fun z => hn (by have h := z.2.2.2; rw [em] at h; exact h)) S1 D1 hR1⟩⟩
  | succ r ih =>
    intro k hk S1 D1 hS htg
    have hpre := im_pre hI (by omega) k htg
    have hkm : k < m := by omega
    by_cases hTg : TgOk N (imA N k)
    · have htg2 : ∀ s : Nat, s < k + 1 → TgOk N (imA N s) := fun s hs => by
        by_cases hsk : s = k
        · rw [hsk]; exact hTg
        · exact htg s (by omega)
      have hpre2 := im_pre hI (by omega) (k + 1) htg2
      have hz := hd_sz hI hTg.2.1
      have eA9 : imA N (k + 1) = imA N k + 2 + (imS N (imA N k)).toNat := rfl
      refine im_59 (p := imA N k) (w9 := 42 + (imS N (imA N k)).toNat) hG hI hR ⟨em, hm2, h200, hkm⟩ ⟨by omega, by omega⟩ (by omega) (fun _ => by omega) hS htg rfl hpre.2.1 (fun hn S' D' h => absurd hTg hn) (fun hT So D5 h5 => ?_)
      have nxt := ih (k + 1) (by omega) (S1 ++ So) D5 h5 htg2
      have eA : ((imA N (k + 1) : Nat) : Int) = (imA N k : Int) + 2 + imS N (imA N k) := by
        rw [eA9]
        have := hz.1
        push_cast
        omega
      have eX : imX N (k + 1) = imX N k + nwW N (imF N (imA N k)) (N 77 (imA N k + 1)) := rfl
      rw [eA, eX, show 2 + 5 * (k + 1) = 2 + 5 * k + 5 by omega, show m + m + 40 * (k + 1) + (imA N (k + 1) - 1) = m + m + 40 * k + (imA N k - 1) + (42 + (imS N (imA N k)).toNat) by omega] at nxt
      exact nxt
    · refine im_59 (p := imA N k) (w9 := 144) hG hI hR ⟨em, hm2, h200, hkm⟩ ⟨by omega, by omega⟩ (by decide) (fun hh => by have := hd_sz hI hh; omega) hS htg rfl hpre.2.1 (fun hn S' D' h => qf (fun z => hn (z.2.2.1 k (by omega))) S' D' h) (fun hT So D5 h5 => absurd hT hTg)
end ImC1
end ImC9
