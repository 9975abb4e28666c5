/-! ===== readImage by hand: an object of the IMAGE, drawn ===== -/
/-- the Thing T, made since S0, is the object to come that the IMAGE has at p; b of its numbers are told -/
def ImT (N : Mem) (S0 S1 : Sh) (D : Mem) (c : SC) (T p : Nat) (b : Int) : Prop :=
  ((lk S0 T = none ∧ ∀ j, j = 4 ∨ j = 5 ∨ j = 6 ∨ j = 7 → lk S0 (D T j).toNat = none) ∧ T ≠ (D T 5).toNat) ∧ OrT N S1 (zr D (D T 5).toNat) c T (imF N p) (N 77 (p + 1)) (if N 77 p = 3 then 1 else 0) 0 (-1) ∧ ∀ j : Nat, (j : Int) < b → D (D T 5).toNat j = N 77 (p + 2 + (imL N p).toNat + j)
section ImA
variable {B : WB} {l : Launch} {S S0 S1 S2 : Sh} {D D1 D2 M N V : Mem} {c : SC} {i p T : Nat} {b : Int}
theorem im_len : (if imF N p = 0 then N 74 (N 77 (p + 1)).toNat else if imF N p = 1 then N 77 (p + 1) else 0) = imL N p := by
  unfold imF imL
  by_cases h3 : N 77 p = 3
  · rw [if_pos h3, if_neg (by decide), if_neg (by decide), if_neg (by omega), if_neg (by omega)]
  · rw [if_neg h3]
theorem im_num (h : HdOk N p) : (if imF N p = 0 then N 75 (N 77 (p + 1)).toNat else if imF N p = 2 then N 77 (p + 1) else 0) = imS N p - imL N p := by
  obtain ⟨⟨h1, h2⟩, -⟩ := h
  unfold imS nwS imL
  by_cases h0 : N 77 p = 0
  · have e : imF N p = 0 := imf_0.mpr h0
    rw [e, if_pos rfl, if_pos rfl, if_pos h0]
    omega
  · have e0 : imF N p ≠ 0 := fun z => h0 (imf_0.mp z)
    rw [if_neg e0, if_neg e0, if_neg h0]
    by_cases h1' : N 77 p = 1
    · have e2 : imF N p = 1 := by unfold imF; rw [if_neg (by omega)]; exact h1'
      rw [e2, if_neg (by decide), if_neg (by decide), if_pos h1']
      omega
    · have e2 : imF N p = 2 := imf_2.mpr (by omega)
      rw [e2, if_pos rfl, if_neg (by decide), if_neg h1']
      omega
theorem im_fb (h : HdOk N p) : 0 ≤ imF N p ∧ imF N p ≤ 2 := by
  obtain ⟨⟨h1, h2⟩, -⟩ := h
  unfold imF
  split <;> omega
theorem imT_f (hh : HdOk N p) (h : ImT N S0 S1 D c T p b) : lk S1 T = some (1, 0, 24) ∧ lk S1 (D T 4).toNat = some (7, T, (imL N p).toNat) ∧ lk S1 (D T 5).toNat = some (14, T, (imS N p - imL N p).toNat) ∧ lk S1 (D T 6).toNat = some (8, T, 0) ∧ lk S1 (D T 7).toNat = some (9, T, 0) ∧ D T 1 = imF N p ∧ D T 3 = nwW N (imF N p) (N 77 (p + 1)) ∧ D T 14 = (if N 77 p = 3 then 1 else 0) := by
  obtain ⟨⟨-, ne⟩, ⟨t0, tne, ⟨t1, t2, t3⟩, ⟨q1, q2, q3, q4, ⟨t4, t5, t6, t7⟩, ⟨k1, k2, k3, k4⟩, zero⟩, ⟨t9, t10, t12, t13, t14⟩, -⟩, -⟩ := h
  have z : ∀ j, zr D (D T 5).toNat T j = D T j := fun j => zr_ne ne
  have hf := im_fb hh
  rw [z] at t1 t3 t4 t5 t6 t7 t14
  rw [im_len] at k1
  rw [im_num hh] at k2
  rw [if_neg (by omega)] at k3 k4
  subst t4 t5 t6 t7
  exact ⟨t0, k1, k2, k3, k4, t1, t3, t14⟩
theorem imT_tr (hh : HdOk N p) (hX : Xs S1 S2) (eV : ∀ o k, 73 ≤ o → o ≤ 77 → V o k = N o k) (hs : ∀ a, a = T ∨ a = (D T 4).toNat ∨ a = (D T 5).toNat ∨ a = (D T 6).toNat ∨ a = (D T 7).toNat → ∀ j, D2 a j = D a j) (hne : ∀ q : Nat, (q : Int) < V 80 0 → tg c D2 q ≠ T) (hal : s_al c ≠ (D T 5).toNat) (h : ImT N S0 S1 D c T p b) : ImT V S0 S2 D2 c T p b := by
  have hf := im_fb hh
  have h9 := imT_f hh h
  obtain ⟨⟨⟨s0, sr⟩, ne⟩, ⟨t0, tne, ⟨t1, t2, t3⟩, ⟨q1, q2, q3, q4, ⟨t4, t5, t6, t7⟩, ⟨k1, k2, k3, k4⟩, zero⟩, ⟨t9, t10, t12, t13, t14⟩, t8, ⟨t19, t20⟩, t21⟩, hn⟩ := h
  have sT : ∀ j, D2 T j = D T j := hs T (Or.inl rfl)
  have z : ∀ j, zr D (D T 5).toNat T j = D T j := fun j => zr_ne ne
  have z2 : ∀ j, zr D2 (D T 5).toNat T j = D T j := fun j => (zr_ne ne).trans (sT j)
  have eF : imF V p = imF N p := by unfold imF; rw [eV 77 p (by decide) (by decide)]
  have e77 : ∀ k, V 77 k = N 77 k := fun k => eV 77 k (by decide) (by decide)
  have e74 : ∀ k, V 74 k = N 74 k := fun k => eV 74 k (by decide) (by decide)
  have e75 : ∀ k, V 75 k = N 75 k := fun k => eV 75 k (by decide) (by decide)
  have e76 : ∀ k, V 76 k = N 76 k := fun k => eV 76 k (by decide) (by decide)
  have eL : imL V p = imL N p := by unfold imL; rw [e77, e77, e74]
  have eW : nwW V (imF N p) (N 77 (p + 1)) = nwW N (imF N p) (N 77 (p + 1)) := by unfold nwW nwS; rw [e74, e75]
  simp only [z] at t1 t2 t3 t4 t5 t6 t7 t9 t10 t12 t13 t14 t8 t19 t20 t21
  refine ⟨⟨⟨s0, fun j hj => by rw [sT]; exact sr j hj⟩, by rw [sT]; exact ne⟩, ?_, fun j hj => ?_⟩
  · rw [sT 5]
    unfold OrT
    rw [eF, e77, e77, e74, e75, e76, eW]
    simp only [z2]
    have h35 : ¬ (3 ≤ imF N p ∧ imF N p ≤ 5) := by omega
    rw [if_neg h35] at t8
    refine ⟨lk_x hX t0, fun q hq hz => hne q hq ?_, ⟨t1, t2, t3⟩, ⟨q1, q2, q3, q4, ⟨t4, t5, t6, t7⟩, ⟨lk_x hX k1, lk_x hX k2, lk_x hX k3, lk_x hX k4⟩, fun j => ?_⟩, ⟨t9, t10, t12, t13, t14⟩, by rw [if_neg h35]; exact t8, ⟨t19, t20⟩, t21⟩
    · rw [← hz]
      show (D2 (s_al c) q).toNat = (zr D2 (D T 5).toNat (s_al c) q).toNat
      rw [zr_ne hal]
    · obtain ⟨b1, b2, b3, b4⟩ := zero j
      have n1 : q1 ≠ (D T 5).toNat := fun y => by rw [y, t5, k2] at k1; cases k1
      have n3 : q3 ≠ (D T 5).toNat := fun y => by rw [y, t5, k2] at k3; cases k3
      have n4 : q4 ≠ (D T 5).toNat := fun y => by rw [y, t5, k2] at k4; cases k4
      rw [zr_ne n1] at b1 ⊢
      rw [zr_ne n3] at b3 ⊢
      rw [zr_ne n4] at b4 ⊢
      refine ⟨?_, ?_, ?_, ?_⟩
      · rw [hs q1 (Or.inr (Or.inl t4.symm))]; exact b1
      · rw [← t5]; exact zr_q
      · rw [hs q3 (Or.inr (Or.inr (Or.inr (Or.inl t6.symm))))]; exact b3
      · rw [hs q4 (Or.inr (Or.inr (Or.inr (Or.inr t7.symm))))]; exact b4
  · rw [sT 5, hs _ (Or.inr (Or.inr (Or.inl rfl))), e77, eL]
    exact hn j hj
/-- the object that the IMAGE has at p is begun, if there can be one -/
theorem w_drawn {kb nb : Nat} {Q : Nat → Sh → Mem → Prop} (hl : l.stackTraces = false) (hI : Inv i N) (hR : SR N S D c) (hp : p ≤ 400) (hk : 5 ≤ kb) (hn : 40 ≤ nb) (hn2 : HdOk N p → 24 + (imS N p).toNat ≤ nb) (q0 : ¬ ((p : Int) + 2 ≤ N 72 9 ∧ HdOk N p) → Q 0 S D)
    (q1 : (p : Int) + 2 ≤ N 72 9 → HdOk N p → ∀ T So D1, T ≠ 0 → lk S T = none → (∀ a y, lk S a = some y → ∀ j, D1 a j = D a j) → (∀ j, j = 4 ∨ j = 5 ∨ j = 6 ∨ j = 7 → lk S (D1 T j).toNat = none) → OrT N (S ++ So) D1 c T (imF N p) (N 77 (p + 1)) (if N 77 p = 3 then 1 else 0) 0 (-1) → Q T (S ++ So) D1) : OkU B l md_X12_drawn [] kb nb [rv (s_m c), .int (I (p : Int))] S D M (uS kR M Q) := by
  have hL := hR.l
  have hO := hR.o
  have h9 := hI.im.2.1
  obtain ⟨him, hiv⟩ := hR.i
  have hkd := hI.kd
  refine ok_X12_drawn hl (fun G hG hS => go_X12_drawn_0 hG Xs.rf (smC hL) ?_ hS)
  intro u4 hu4
  have hu4 : u4 = (D (s_m c) 15).toNat := hu4
  rw [hu4]
  refine ⟨⟨100, _, ⟨16, _, him, rfl⟩, by decide⟩, fun w7 hw7 => ?_⟩
  rw [hw7, lnS_of him]
  have ew : (((N 72 9).toNat : Nat) : Int) = N 72 9 := by omega
  rw [ew]
  refine ⟨⟨by omega, by omega⟩, ⟨by omega, by omega⟩, fun hlt u14 hu14 => ?_, fun hge => ⟨⟨by omega, by omega⟩, q0 (fun z => by omega)⟩⟩
  have hu14 : u14 = (D (s_m c) 15).toNat := hu14
  rw [hu14]
  have v0 : D (D (s_m c) 15).toNat ((p : Int)).toNat = N 77 p := hiv p (by omega)
  have v1 : D (D (s_m c) 15).toNat ((p : Int) + 1).toNat = N 77 (p + 1) := by rw [show ((p : Int) + 1).toNat = p + 1 by omega]; exact hiv (p + 1) (by push_cast; omega)
  rw [v0]
  refine ⟨⟨_, ⟨16, _, him, rfl⟩, by omega, by omega⟩, fun z0 u21 hu21 => ?_⟩
  have hu21 : u21 = (D (s_m c) 15).toNat := hu21
  rw [hu21, v1]
  refine ⟨⟨_, ⟨16, _, him, rfl⟩, by omega, by omega⟩, fun z1 => ?_⟩
  have e4 : D (s_m c) 4 = N 72 1 := hR.k.1
  have hk1 := hkd.1
  have hk2 := hkd.2.1
  -- the header's checks
  have no : ∀ s0 : Int, (N 77 p = 0 → s0 = N 72 1 - 1) → (N 77 p = 1 → s0 = 40) → (N 77 p ≠ 0 → N 77 p ≠ 1 → s0 = 120) → inR s0 → L_X12_drawn_54 G S D M 0 0 (s_m c) (N 77 p) (N 77 (p + 1)) s0 := by
    intro s0 s00 s01 s02 hs0
    refine go_X12_drawn_54 hG Xs.rf (smC hL) ⟨z0, fun hneg => ⟨⟨by omega, by omega⟩, q0 (fun z => by have := z.2.1; omega)⟩, fun hpos => ⟨z0, ⟨by decide, by decide⟩, fun h3 => ⟨⟨by omega, by omega⟩, q0 (fun z => by have := z.2.1; omega)⟩, fun h3 => ⟨z1, fun hm => ⟨⟨by omega, by omega⟩, q0 (fun z => by have := z.2.2.1; omega)⟩, fun hm => ⟨z1, hs0, fun hle => ?_, fun hgt => ⟨⟨by omega, by omega⟩, q0 (fun z => ?_)⟩⟩⟩⟩⟩
    · have hh : HdOk N p := ⟨⟨hpos, h3⟩, hm, fun e => by have := s00 e; omega, fun e => by have := s01 e; omega, fun e => by have := s02 (by omega) (by omega); omega⟩
      have q1 := q1 (by omega) hh
      have hn2 := hn2 hh
      have hsz : N 77 p ≠ 0 → imS N p = N 77 (p + 1) := fun h0 => by
        have e0 : imF N p ≠ 0 := fun z => h0 (imf_0.mp z)
        have hfb := im_fb hh
        unfold imS nwS
        rw [if_neg e0, if_neg (by omega)]
      refine ⟨z0, fun hne => ⟨z0, ⟨by decide, by decide⟩, fun hn1 => ⟨⟨by omega, by omega⟩, fun t S1 D0 t00 tn eS eD0 => ⟨4, (N 77 (p + 1)).toNat, ⟨by omega, by rw [hsz hne] at hn2; omega⟩, ?_⟩⟩, fun he1 => ⟨⟨by omega, by omega⟩, fun t S1 D0 t00 tn eS eD0 => ⟨4, (N 77 (p + 1)).toNat, ⟨by omega, by rw [hsz hne] at hn2; omega⟩, ?_⟩⟩⟩, fun he0 => ⟨5, 40, ⟨by omega, by omega⟩, ?_⟩⟩
      · -- a TEXT
        rw [eS, eD0]
        have hb := s02 hne hn1
        have eF : imF N p = 2 := imf_2.mpr (by omega)
        rw [eF] at q1
        refine w_newT (CtU_fl hG) hL tn ⟨by decide, by decide⟩ ⟨by decide, by decide⟩ ⟨by omega, by omega⟩ ⟨by omega, by omega⟩ ⟨by omega, by omega⟩ (Nat.le_refl _) (by omega) (fun q1' q2' q3' q4' So Da l0 lks ini hD1 hro => fun hX => ?_)
        obtain ⟨k1, k2, k3, k4⟩ := lks
        have z9 : ∀ j, zr D t t j = 0 := fun j => zr_q
        have i8 := ini.2.1
        have fin : ∀ (v : Int) (D3 : Mem), v = (if N 77 p = 3 then 1 else 0) → D3 = up Da t 14 v → Q t (S ++ So) D3 := fun v D3 hv e3 => by
          have own : ∀ j, j ≠ 14 → D3 t j = Da t j := fun j h => by rw [e3, up_k h]
          have oth : ∀ a j, a ≠ t → D3 a j = Da a j := fun a j h => by rw [e3, up_ad h]
          have d3 : ∀ a y, lk S a = some y → ∀ j, D3 a j = D a j := fun a y h j => (oth a j (fun z => by rw [z, tn] at h; cases h)).trans (hD1 a y h j)
          refine q1 t So D3 t00 tn d3 (fun j hj => by rw [own j (by omega)]; exact hro j hj) ?_
          refine orT_ini hL hO tn (fun p => tg_on hL d3 p) l0 ⟨k1, k2, k3, k4⟩ z9 ini (fun j _ _ _ h14 => own j h14) (fun a j ha => ?_) (by rw [if_neg (by decide)]) (by
            unfold wI nwW nwS
            simp
            try omega) (by simp) (by simp) (by simp) (by simp) (by rw [if_neg (by decide), own 9 (by decide), i8 9 (Or.inr (by decide)), z9]) (by rw [if_neg (by decide), own 12 (by decide), i8 12 (Or.inr (by decide)), z9]) (by rw [e3, up_s]; exact hv) (by rw [if_neg (by decide), own 8 (by decide), i8 8 (Or.inr (by decide)), z9]; rfl)
          rcases ha with y | y | y | y
          · rw [y, oth _ _ (lk_ne k1 l0 (by decide))]
          · rw [y, oth _ _ (lk_ne k2 l0 (by decide))]
          · rw [y, oth _ _ (lk_ne k3 l0 (by decide))]
          · rw [y, oth _ _ (lk_ne k4 l0 (by decide))]
        exact ⟨z0, ⟨by decide, by decide⟩, fun hn3 => ⟨⟨1, 0, 24, l0, rfl⟩, Or.inl rfl, fun D3 e3 => ⟨⟨by omega, by omega⟩, fin 0 D3 (by rw [if_neg hn3]) e3⟩⟩, fun he3 => ⟨⟨1, 0, 24, l0, rfl⟩, Or.inr rfl, fun D3 e3 => ⟨⟨by omega, by omega⟩, fin 1 D3 (by rw [if_pos he3]) e3⟩⟩⟩
      · -- a ROW
        rw [eS, eD0]
        have hb := s01 he1
        have eF : imF N p = 1 := by unfold imF; rw [if_neg (by omega)]; exact he1
        rw [eF, if_neg (by omega : ¬ N 77 p = 3)] at q1
        refine w_newT (CtU_fl hG) hL tn ⟨by decide, by decide⟩ ⟨by decide, by decide⟩ ⟨by omega, by omega⟩ ⟨by omega, by omega⟩ ⟨by omega, by omega⟩ (Nat.le_refl _) (by omega) (fun q1' q2' q3' q4' So Da l0 lks ini hD1 hro => fun hX => ?_)
        obtain ⟨k1, k2, k3, k4⟩ := lks
        have z9 : ∀ j, zr D t t j = 0 := fun j => zr_q
        have i8 := ini.2.1
        have fin : ∀ (D3 : Mem), D3 = up Da t 14 0 → Q t (S ++ So) D3 := fun D3 e3 => by
          have own : ∀ j, j ≠ 14 → D3 t j = Da t j := fun j h => by rw [e3, up_k h]
          have oth : ∀ a j, a ≠ t → D3 a j = Da a j := fun a j h => by rw [e3, up_ad h]
          have d3 : ∀ a y, lk S a = some y → ∀ j, D3 a j = D a j := fun a y h j => (oth a j (fun z => by rw [z, tn] at h; cases h)).trans (hD1 a y h j)
          refine q1 t So D3 t00 tn d3 (fun j hj => by rw [own j (by omega)]; exact hro j hj) ?_
          refine orT_ini hL hO tn (fun p => tg_on hL d3 p) l0 ⟨k1, k2, k3, k4⟩ z9 ini (fun j _ _ _ h14 => own j h14) (fun a j ha => ?_) (by rw [if_neg (by decide)]) (by
            unfold wI nwW nwS
            simp
            try omega) (by simp) (by simp) (by simp) (by simp) (by rw [if_neg (by decide), own 9 (by decide), i8 9 (Or.inr (by decide)), z9]) (by rw [if_neg (by decide), own 12 (by decide), i8 12 (Or.inr (by decide)), z9]) (by rw [e3, up_s]) (by rw [if_neg (by decide), own 8 (by decide), i8 8 (Or.inr (by decide)), z9]; rfl)
          rcases ha with y | y | y | y
          · rw [y, oth _ _ (lk_ne k1 l0 (by decide))]
          · rw [y, oth _ _ (lk_ne k2 l0 (by decide))]
          · rw [y, oth _ _ (lk_ne k3 l0 (by decide))]
          · rw [y, oth _ _ (lk_ne k4 l0 (by decide))]
        exact ⟨z0, ⟨by decide, by decide⟩, fun hn3 => ⟨⟨1, 0, 24, l0, rfl⟩, Or.inl rfl, fun D3 e3 => ⟨⟨by omega, by omega⟩, fin D3 e3⟩⟩, fun he3 => absurd he3 (by omega)⟩
      · -- of a KIND
        have hb := s00 he0
        have eF : imF N p = 0 := imf_0.mpr he0
        rw [eF, if_neg (by omega : ¬ N 77 p = 3)] at q1
        exact w_plain0 (CtU_fl hG) hI hR ⟨hm, by omega⟩ (Nat.le_refl _) (Nat.le_refl _) (fun t So Da t00 tn hD1 hro hT => fun hX => ⟨⟨by omega, by omega⟩, q1 t So Da t00 tn hD1 hro hT⟩)
    · obtain ⟨-, -, -, g0, g1, g2⟩ := z
      by_cases e0 : N 77 p = 0
      · have := g0 e0
        have := s00 e0
        omega
      · by_cases e1 : N 77 p = 1
        · have := g1 e1
          have := s01 e1
          omega
        · have := g2 (by omega)
          have := s02 e0 e1
          omega
  refine ⟨z0, fun hne => ⟨z0, ⟨by decide, by decide⟩, fun hn1 => no 120 (fun e => absurd e hne) (fun e => absurd e hn1) (fun _ _ => rfl) ⟨by decide, by decide⟩, fun he1 => no 40 (fun e => absurd e hne) (fun _ => rfl) (fun _ h => absurd he1 h) ⟨by decide, by decide⟩⟩, fun he0 z4 => ?_⟩
  show L_X12_drawn_54 G S D M 0 0 (s_m c) (N 77 p) (N 77 (p + 1)) (D (s_m c) 4 - 1)
  rw [e4]
  exact no _ (fun _ => rfl) (fun e => by omega) (fun h => absurd he0 h) ⟨by omega, by omega⟩
end ImA
