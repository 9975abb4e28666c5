/-! ===== the IMAGE is written, by hand: the row ===== -/
section Wrt2
variable {B : WB} {l : Launch} {S S1 S2 : Sh} {D D1 D2 M N : Mem} {c : SC} {i kc nc : Nat} {a b e9 x : Int} {q : Nat} {Z : List Int} {L : List (Nat × Int)} {R R' : Nat → Int}
theorem plc_get {k : Nat} (h : k < L.length) : ∃ e, L[k]? = some e ∧ plc L k = e.1 := ⟨_, List.getElem?_eq_getElem h, plc_some (List.getElem?_eq_getElem h)⟩
section Wr2
variable {G : GT} {Q : Nat → Sh → Mem → Prop} {K n9 : Nat}
/-- the row as it stands: order, IMAGE -/
def RwD (S : Sh) (N D : Mem) (c : SC) (q4 q5 : Nat) (L : List (Nat × Int)) (Z : List Int) (D1 : Mem) : Prop := Ord S N D c q4 L D1 ∧ ImD q5 Z D1
theorem rw_app {q4 q5 : Nat} (h5 : lk S q5 = none) (h45 : q5 ≠ q4) (h : RwD S N D c q4 q5 L Z D1) : RwD S N D c q4 q5 L (Z ++ [x]) (up D1 q5 Z.length x) := by
  obtain ⟨⟨h1, h2, h3, h4⟩, h6⟩ := h
  refine ⟨⟨fun a y ha j => ?_, fun j e hj => ?_, h3, h4⟩, imd_app h6⟩
  · rw [up_ad (fun z => by rw [z, h5] at ha; cases ha)]
    exact h1 a y ha j
  · rw [up_ad (Ne.symm h45)]
    exact h2 j e hj
/-- the cells of one object: what it tells -/
theorem wr294 {q4 q5 t k n w : Nat} {p : Nat} (hG : CtU G md_X12_written [] S (uS kR M Q) B l K n9) (hI : Inv i N) (hR : SR N S D c) (hX : Xs S S2) (hq5 : lk S q5 = none) (h45 : q5 ≠ q4) (l5 : lk S2 q5 = some (16, 0, w)) (hp : (p : Int) < N 80 0) (h2 : N 82 p ≤ 2) (hw9 : w ≤ 90000)
    (hlen : ((Z.length + 2 : Nat) : Int) + sizR N 80 p ≤ w) (nx : ∀ D2, RwD S N D c q4 q5 L (Z ++ thI N R p (sizR N 80 p).toNat) D2 → L_X12_written_145 G S2 D2 M k n (s_m c) q4 (L.length : Int) q5 (((Z ++ thI N R p (sizR N 80 p).toNat).length : Nat) : Int) ((t : Int) + 1)) (hll : (L.length : Int) ≤ 208) (htt : t < 1000) :
    ∀ r j : Nat, (j : Int) + r = numR N p → ∀ D1, RwD S N D c q4 q5 L (Z ++ thI N R p ((lnkR N 80 p).toNat + j)) D1 → L_X12_written_294 G S2 D1 M k n (s_m c) q4 (L.length : Int) q5 (((Z ++ thI N R p ((lnkR N 80 p).toNat + j)).length : Nat) : Int) t (D (tg c D p) 5).toNat (numR N p) j := by
  have hL := hR.l
  have hsm : IsC S2 (s_m c) 12 := ⟨0, 0, 21, lk_x hX hL.1, rfl⟩
  have ht := hR.o.2.2 p hp
  have h5 := ht.2.2.1.2.1
  have hfb := frm_b hI hp
  have es := siz_ln (N := N) (p := p) ⟨hfb.1, h2⟩
  obtain ⟨hlk, hnm, -⟩ := lnk_bd hI hp
  intro r
  induction r with
  | zero =>
    intro j hj D1 h
    have e : (lnkR N 80 p).toNat + j = (sizR N 80 p).toNat := by omega
    rw [e] at h ⊢
    exact go_X12_written_294 hG hX hsm ⟨⟨by omega, by omega⟩, ⟨by omega, by omega⟩, fun _ => nx D1 h, fun z => absurd z (by omega)⟩
  | succ r ih =>
    intro j hj D1 h
    have hv : D1 (D (tg c D p) 5).toNat j = N 87 ((N 84 p).toNat + (lnkR N 80 p).toNat + j) := (h.1.1 _ _ h5 j).trans (ht.2.2.2.2.2.1 j (by omega))
    have ln : (Z ++ thI N R p ((lnkR N 80 p).toNat + j)).length = Z.length + (2 + ((lnkR N 80 p).toNat + j)) := by rw [List.length_append, thI_len]
    have nxt := ih (j + 1) (by push_cast at hj ⊢; omega)
    have ethI : thI N R p ((lnkR N 80 p).toNat + (j + 1)) = thI N R p ((lnkR N 80 p).toNat + j) ++ [N 87 ((N 84 p).toNat + (lnkR N 80 p).toNat + j)] := by
      show thI N R p ((lnkR N 80 p).toNat + j) ++ [celV N R p ((lnkR N 80 p).toNat + j)] = _
      rw [celV_d (by push_cast; omega), Nat.add_assoc]
    refine go_X12_written_294 hG hX hsm ⟨⟨by omega, by omega⟩, ⟨by omega, by omega⟩, fun z => absurd z (by omega), fun _ => ⟨⟨_, ⟨14, _, lk_x hX h5, rfl⟩, by omega, by omega⟩, fun z1 => ⟨⟨_, ⟨16, _, l5, rfl⟩, by omega, by omega⟩, z1, fun D2 hD2 => ?_⟩⟩⟩
    have hD2 : D2 = up D1 q5 (Z ++ thI N R p ((lnkR N 80 p).toNat + j)).length (N 87 ((N 84 p).toNat + (lnkR N 80 p).toNat + j)) := hD2.trans (by show up D1 q5 _ (D1 (D (tg c D p) 5).toNat j) = _; rw [hv]; rfl)
    have h9 := nxt D2 (by rw [ethI, ← List.append_assoc, hD2]; exact rw_app hq5 h45 h)
    have l9 : (((Z ++ thI N R p ((lnkR N 80 p).toNat + (j + 1))).length : Nat) : Int) = (((Z ++ thI N R p ((lnkR N 80 p).toNat + j)).length : Nat) : Int) + 1 := by
      rw [ethI, ← List.append_assoc, List.length_append]
      rfl
    rw [l9] at h9
    exact h9
/-- the cells of one object: what it holds -/
theorem wr244 {q4 q5 t k n w : Nat} {p : Nat} (hG : CtU G md_X12_written [] S (uS kR M Q) B l K n9) (hS0 : SOK S D) (hI : Inv i N) (hR : SR N S D c) (hbk : k ≤ K ∧ n ≤ n9) (hX : Xs S S2) (hq5 : lk S q5 = none) (h45 : q5 ≠ q4) (l4 : lk S2 q4 = some (11, 0, (N 80 0).toNat)) (l5 : lk S2 q5 = some (16, 0, w)) (hRk : RkL N L R) (hp : (p : Int) < N 80 0) (h2 : N 82 p ≤ 2) (hw9 : w ≤ 90000)
    (hlen : ((Z.length + 2 : Nat) : Int) + sizR N 80 p ≤ w) (nx : ∀ D2, RwD S N D c q4 q5 L (Z ++ thI N R p (sizR N 80 p).toNat) D2 → L_X12_written_145 G S2 D2 M k n (s_m c) q4 (L.length : Int) q5 (((Z ++ thI N R p (sizR N 80 p).toNat).length : Nat) : Int) ((t : Int) + 1)) (hll : (L.length : Int) ≤ 208) (htt : t < 1000) :
    ∀ r j : Nat, (j : Int) + r = lnkR N 80 p → ∀ D1, RwD S N D c q4 q5 L (Z ++ thI N R p j) D1 → L_X12_written_244 G S2 D1 M k n (s_m c) q4 (L.length : Int) q5 (((Z ++ thI N R p j).length : Nat) : Int) t (tg c D p) (D (tg c D p) 4).toNat (lnkR N 80 p) j := by
  have hL := hR.l
  have hn := hI.ob.1
  have hsm : IsC S2 (s_m c) 12 := ⟨0, 0, 21, lk_x hX hL.1, rfl⟩
  have ht := hR.o.2.2 p hp
  have h4 := ht.2.2.1.1
  have h5 := ht.2.2.1.2.1
  have hfb := frm_b hI hp
  have es := siz_ln (N := N) (p := p) ⟨hfb.1, h2⟩
  obtain ⟨hlk, hnm, -⟩ := lnk_bd hI hp
  have hC : IsC S2 (tg c D p) 13 := ⟨1, 0, 24, lk_x hX ht.1, rfl⟩
  have N1 : Num N 80 := ob_num hI.ob
  intro r
  induction r with
  | zero =>
    intro j hj D1 h
    have e : (lnkR N 80 p).toNat = j := by omega
    have f5 : (D1 (tg c D p) 5).toNat = (D (tg c D p) 5).toNat := by rw [h.1.1 _ _ ht.1]
    refine go_X12_written_244 hG hX hsm ⟨⟨by omega, by omega⟩, ⟨by omega, by omega⟩, fun _ => ⟨hC, fun u hu => ?_⟩, fun z => absurd z (by omega)⟩
    rw [hu.trans f5]
    refine ⟨⟨100, _, ⟨14, _, lk_x hX h5, rfl⟩, by decide⟩, fun w8 hw8 => ?_⟩
    rw [hw8, lnS_of (lk_x hX h5)]
    have ew : (((numR N p).toNat : Nat) : Int) = numR N p := by omega
    rw [ew]
    have := wr294 (R := R) hG hI hR hX hq5 h45 l5 hp h2 hw9 hlen nx hll htt (numR N p).toNat 0 (by omega) D1 (by rw [e]; exact h)
    rw [e] at this
    exact this
  | succ r ih =>
    intro j hj D1 h
    have hcn := ht.2.2.2.2.1 j (by omega)
    have hv : D1 (D (tg c D p) 4).toNat j = D (D (tg c D p) 4).toNat j := h.1.1 _ _ h4 j
    have ln : (Z ++ thI N R p j).length = Z.length + (2 + j) := by rw [List.length_append, thI_len]
    have nxt := ih (j + 1) (by push_cast at hj ⊢; omega)
    refine go_X12_written_244 hG hX hsm ⟨⟨by omega, by omega⟩, ⟨by omega, by omega⟩, fun z => absurd z (by omega), fun _ => ⟨⟨_, ⟨7, _, lk_x hX h4, rfl⟩, by omega, by omega⟩, fun u hu => ⟨hbk, ?_⟩⟩⟩
    have hu : u = (D (D (tg c D p) 4).toNat j).toNat := hu.trans (by show (D1 _ j).toNat = _; rw [hv])
    rw [hu]
    have hlen8 : (L.length : Int) ≤ N 80 0 := nd_le208 hI h.1.2.2.1
    refine w_place (CtU_fl hG) hS0 hI hR l4 (by omega) (by omega) h.1.2.1 h.1.2.2.1 hcn (fun r9 hr zr => fun z5 => ⟨⟨_, ⟨16, _, l5, rfl⟩, by omega, by omega⟩, zr, fun D2 hD2 => ?_⟩)
    have er : r9 = celV N R p j := rkv_cel N1 hRk (by omega) hr h.1.2.2.1
    have ethI : thI N R p (j + 1) = thI N R p j ++ [r9] := by rw [er]; rfl
    have hD2 : D2 = up D1 q5 (Z ++ thI N R p j).length r9 := hD2
    have h9 := nxt D2 (by rw [ethI, ← List.append_assoc, hD2]; exact rw_app hq5 h45 h)
    have l9 : (((Z ++ thI N R p (j + 1)).length : Nat) : Int) = (((Z ++ thI N R p j).length : Nat) : Int) + 1 := by
      rw [ethI, ← List.append_assoc, List.length_append]
      rfl
    rw [l9] at h9
    exact h9
theorem wr145 {q4 q5 k n : Nat} (h00 : 0 < N 80 0) (hG : CtU G md_X12_written [] S (uS kR M Q) B l K n9) (hS0 : SOK S D) (hI : Inv i N) (hR : SR N S D c) (hbk : k ≤ K ∧ n ≤ n9) (hX : Xs S S2) (hq5 : lk S q5 = none) (h45 : q5 ≠ q4) (l4 : lk S2 q4 = some (11, 0, (N 80 0).toNat)) (l5 : lk S2 q5 = some (16, 0, (wS N L L.length).toNat)) (hRk : RkL N L R) (hnd : NdL (N 80 0) L) (h2 : ∀ (j : Nat) (e : Nat × Int), L[j]? = some e → N 82 e.1 ≤ 2) (hw9 : wS N L L.length ≤ 90000)
    (fin : ∀ D1, RwD S N D c q4 q5 L (zI N R L L.length) D1 → Q q5 S2 D1) :
    ∀ r t : Nat, t + r = L.length → ∀ D1, RwD S N D c q4 q5 L (zI N R L t) D1 → L_X12_written_145 G S2 D1 M k n (s_m c) q4 (L.length : Int) q5 (((zI N R L t).length : Nat) : Int) t := by
  have hL := hR.l
  have hn := hI.ob.1
  have hsm : IsC S2 (s_m c) 12 := ⟨0, 0, 21, lk_x hX hL.1, rfl⟩
  have hll : (L.length : Int) ≤ N 80 0 := nd_le208 hI hnd
  have hsz : ∀ t, 0 ≤ sizR N 80 (plc L t) := fun t => (siz_bd hI (plc_lt hnd h00 t)).1
  intro r
  induction r with
  | zero =>
    intro t ht D1 h
    have e : t = L.length := by omega
    subst e
    exact go_X12_written_145 hG hX hsm ⟨⟨by omega, by omega⟩, ⟨by omega, by omega⟩, fun _ => ⟨hbk, fin D1 h⟩, fun z => absurd z (by omega)⟩
  | succ r ih =>
    intro t ht D1 h
    obtain ⟨e, e1, epl⟩ := plc_get (L := L) (k := t) (by omega)
    have hp := (hnd.1 t e e1).1
    have hth := hR.o.2.2 e.1 hp
    have hC : IsC S2 (tg c D e.1) 13 := ⟨1, 0, 24, lk_x hX hth.1, rfl⟩
    have ho : (D1 q4 t).toNat = tg c D e.1 := h.1.2.1 t e e1
    have hfb := frm_b hI hp
    have h82 := h2 t e e1
    have zl := zI_len (R := R) hsz t
    have hb := wS_mono (M := N) (L := L) hsz (t := t + 1) (L.length - (t + 1))
    rw [show t + 1 + (L.length - (t + 1)) = L.length by omega] at hb
    have hb2 : wS N L (t + 1) = wS N L t + (2 + sizR N 80 (plc L t)) := rfl
    rw [epl] at hb2
    have hsz0 := hsz t
    rw [epl] at hsz0
    have g14 : D1 (tg c D e.1) 14 = N 16 (N 19 e.1).toNat := (h.1.1 _ _ hth.1 14).trans hth.2.2.2.1.2.2.2.2.2
    have g1 : D1 (tg c D e.1) 1 = N 82 e.1 := (h.1.1 _ _ hth.1 1).trans hth.2.1.2.1
    have nx : ∀ D2, RwD S N D c q4 q5 L (zI N R L t ++ thI N R e.1 (sizR N 80 e.1).toNat) D2 → L_X12_written_145 G S2 D2 M k n (s_m c) q4 (L.length : Int) q5 (((zI N R L t ++ thI N R e.1 (sizR N 80 e.1).toNat).length : Nat) : Int) ((t : Int) + 1) := fun D2 h2 => by
      have ez : zI N R L (t + 1) = zI N R L t ++ thI N R e.1 (sizR N 80 e.1).toNat := by
        show zI N R L t ++ thI N R (plc L t) (sizR N 80 (plc L t)).toNat = _
        rw [epl]
      have := ih (t + 1) (by omega) D2 (by rw [ez]; exact h2)
      rw [ez] at this
      exact this
    have h16 := (hI.ob.2.2.2.2.2.1 e.1 hp)
    -- the head of one object
    have l178 : ∀ s0 : Int, s0 = (if N 16 (N 19 e.1).toNat = 0 then N 82 e.1 else 3) → L_X12_written_178 G S2 D1 M k n (s_m c) q4 (L.length : Int) q5 (((zI N R L t).length : Nat) : Int) t (tg c D e.1) s0 (((zI N R L t).length : Nat) : Int) q5 := by
      intro s0 hs0
      have hs0R : inR s0 := by rw [hs0]; split <;> constructor <;> omega
      refine go_X12_written_178 hG hX hsm ⟨⟨_, ⟨16, _, l5, rfl⟩, by omega, by omega⟩, hs0R, fun D2 hD2 => ?_⟩
      have hD2 : D2 = up D1 q5 (zI N R L t).length s0 := hD2
      have h9 : RwD S N D c q4 q5 L (zI N R L t ++ [s0]) D2 := by rw [hD2]; exact rw_app hq5 h45 h
      have f1 : D2 (tg c D e.1) 1 = N 82 e.1 := (h9.1.1 _ _ hth.1 1).trans hth.2.1.2.1
      have f2 : D2 (tg c D e.1) 2 = (if N 82 e.1 = 0 then N 83 e.1 else -1) := (h9.1.1 _ _ hth.1 2).trans hth.2.1.2.2.1
      have f4 : (D2 (tg c D e.1) 4).toNat = (D (tg c D e.1) 4).toNat := by rw [h9.1.1 _ _ hth.1]
      have f5 : (D2 (tg c D e.1) 5).toNat = (D (tg c D e.1) 5).toNat := by rw [h9.1.1 _ _ hth.1]
      have h4 := hth.2.2.1.1
      have h5 := hth.2.2.1.2.1
      obtain ⟨hlk, hnm, -⟩ := lnk_bd hI hp
      have hwh := ob_what hI hp
      have l2 : (zI N R L t ++ [s0]).length = (zI N R L t).length + 1 := by rw [List.length_append]; rfl
      -- the second number, then what it holds
      have fin2 : ∀ v : Int, v = N 83 e.1 → inR v → ((∃ L9 : Nat, IsA S2 q5 100 L9 ∧ 0 ≤ ((((zI N R L t).length : Nat) : Int) + 1) ∧ ((((zI N R L t).length : Nat) : Int) + 1) < L9) ∧ inR v ∧ ∀ D3 : Mem, D3 = up D2 q5 ((((zI N R L t).length : Nat) : Int) + 1).toNat v → (IsC S2 (tg c D e.1) 13 ∧ (∀ u231 : Nat, u231 = (D3 (tg c D e.1) 4).toNat → ((∃ c L : Nat, IsA S2 u231 c L ∧ 100 ≤ c) ∧ ∀ w238 : Nat, w238 = lnS S2 u231 → L_X12_written_244 G S2 D3 M k n (s_m c) q4 (L.length : Int) q5 ((((zI N R L t).length : Nat) : Int) + 2) t (tg c D e.1) u231 (w238 : Int) 0)))) := by
        intro v hv hvR
        refine ⟨⟨_, ⟨16, _, l5, rfl⟩, by omega, by omega⟩, hvR, fun D3 hD3 => ⟨hC, fun u hu => ?_⟩⟩
        have hD3 : D3 = up D2 q5 (zI N R L t ++ [s0]).length v := hD3.trans (by rw [l2, show ((((zI N R L t).length : Nat) : Int) + 1).toNat = (zI N R L t).length + 1 by omega])
        have h10 : RwD S N D c q4 q5 L (zI N R L t ++ thI N R e.1 0) D3 := by
          have e0 : zI N R L t ++ thI N R e.1 0 = (zI N R L t ++ [s0]) ++ [v] := by
            rw [List.append_assoc, hs0, hv]
            rfl
          rw [e0, hD3]
          exact rw_app hq5 h45 h9
        have f4' : (D3 (tg c D e.1) 4).toNat = (D (tg c D e.1) 4).toNat := by rw [h10.1.1 _ _ hth.1]
        rw [hu.trans f4']
        refine ⟨⟨102, _, ⟨7, _, lk_x hX h4, rfl⟩, by decide⟩, fun w8 hw8 => ?_⟩
        rw [hw8, lnS_of (lk_x hX h4)]
        have ew : (((lnkR N 80 e.1).toNat : Nat) : Int) = lnkR N 80 e.1 := by omega
        rw [ew]
        have := wr244 (R := R) hG hS0 hI hR hbk hX hq5 h45 l4 l5 hRk hp h82 (by omega) (by push_cast; omega) nx (by omega) (by omega) (lnkR N 80 e.1).toNat 0 (by omega) D3 h10
        have ln : (((zI N R L t ++ thI N R e.1 0).length : Nat) : Int) = (((zI N R L t).length : Nat) : Int) + 2 := by rw [List.length_append, thI_len]; rfl
        rw [ln] at this
        exact this
      refine ⟨hC, fun z1 => ?_⟩
      rw [f1]
      refine ⟨⟨by omega, by omega⟩, fun hne0 => ⟨hC, fun z2 => ⟨⟨by omega, by omega⟩, ⟨by decide, by decide⟩, fun hne1 => ⟨hC, fun u hu => ?_⟩, fun he1 => ⟨hC, fun u hu => ?_⟩⟩⟩, fun h0 => ⟨hC, fun z2 => ?_⟩⟩
      · rw [hu.trans f5]
        refine ⟨⟨100, _, ⟨14, _, lk_x hX h5, rfl⟩, by decide⟩, fun w8 hw8 => ?_⟩
        rw [hw8, lnS_of (lk_x hX h5)]
        have en : numR N e.1 = N 83 e.1 := by
          unfold numR
          rw [if_neg hne0, if_pos (by omega)]
        exact fin2 _ (by omega) ⟨by omega, by omega⟩
      · rw [hu.trans f4]
        refine ⟨⟨102, _, ⟨7, _, lk_x hX h4, rfl⟩, by decide⟩, fun w8 hw8 => ?_⟩
        rw [hw8, lnS_of (lk_x hX h4)]
        have en : lnkR N 80 e.1 = N 83 e.1 := by
          show (if N 82 e.1 = 0 then N 74 (N 83 e.1).toNat else if N 82 e.1 = 1 then N 83 e.1 else 0) = _
          rw [if_neg hne0, if_pos he1]
        exact fin2 _ (by omega) ⟨by omega, by omega⟩
      · rw [f2, if_pos h0]
        exact fin2 _ rfl ⟨by omega, by omega⟩
    refine go_X12_written_145 hG hX hsm ⟨⟨by omega, by omega⟩, ⟨by omega, by omega⟩, fun z => absurd z (by omega), fun _ => ⟨⟨_, ⟨11, _, l4, rfl⟩, by omega, by omega⟩, fun u hu => ?_⟩⟩
    have hu : u = tg c D e.1 := hu.trans ho
    rw [hu]
    refine ⟨hC, fun z1 => ⟨z1, fun h0 => ⟨hC, fun z2 => ?_⟩, fun h0 => l178 3 (if_neg (fun z => h0 (g14.trans z))).symm⟩⟩
    exact l178 _ (by rw [g1, if_pos (g14.symm.trans h0)])
end Wr2
end Wrt2
