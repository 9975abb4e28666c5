theorem ct_hold {B : WB} {l : Launch} {o s a0 q1 N : Nat} {ea : Nat → Nat} {ee : Nat → va_E} {fc w v : Int} {g : Nat → Int32} {v1 v2 v3 v4 : Value} (hfl : l.stackTraces = false) (ho : o < N) (hs : s < N) (ha0 : ea o = a0) (h1 : ea s = q1) (es : ee o = .inr (8, [.ref q1, v1, v2, v3, v4, .int (I fc)])) (he : ee s = .inl (B.2.1, 64, .inl g)) (hi : 0 ≤ (fc - 1) * 8 + w ∧ (fc - 1) * 8 + w < 64) : OkC B l md_X8_hold 0 0 [.ref a0, .int (I w), .int (I v)] N ea ee (fun N' ea' ee' => N' = N ∧ ea' = ea ∧ (∀ x, x ≠ s → ee' x = ee x) ∧ ee' s = .inl (B.2.1, 64, .inl (upd g ((fc - 1) * 8 + w).toNat (I v)))) := by
  refine OkC_of mk_X8_hold hfl (Nat.le_of_ble_eq_true rfl) (fun G hC hR hB hr hg hI => ?_)
  subst hB; subst hg
  show VC G md_X8_hold 0 0 N ea ee 0 [(0, .ref a0), (1, .int (I w)), (2, .int (I v))] []
  refine C_aload_n hC 0 rfl dX8_hold_0 ?_
  refine C_get hC fr_X8_9 ho ha0 es (v := .ref q1) rfl dX8_hold_1 ?_
  refine C_aload_n hC 0 rfl dX8_hold_4 ?_
  refine C_get hC fr_X8_35 ho ha0 es (v := .int (I fc)) rfl dX8_hold_5 ?_
  refine C_iconst hC dX8_hold_8 ?_
  refine C_isub hC dX8_hold_9 ?_
  refine C_bipush hC (d := dX8_hold_10) rfl ?_
  refine C_imul hC dX8_hold_12 ?_
  refine C_iload_n hC 1 rfl dX8_hold_13 ?_
  refine C_iadd hC dX8_hold_14 ?_
  refine C_iload_n hC 2 rfl dX8_hold_15 ?_
  refine D_ast hC hs h1 he hi (by decide) dX8_hold_16 (fun ee1 g1 g2 => ?_)
  exact C_vret hC hR rfl (by rw [hr]; exact ⟨Nat.le_refl _, Nat.le_refl _⟩) dX8_hold_17 ⟨rfl, rfl, g1, g2⟩
theorem ct_addFrame {B : WB} {l : Launch} {o a0 q1 q2 N : Nat} {ea : Nat → Nat} {ee : Nat → va_E} {v2 v3 v4 : Value} (hfl : l.stackTraces = false) (hN : o + 2 < N) (ha0 : ea o = a0) (h1 : ea (o + 1) = q1) (h2 : ea (o + 2) = q2) (es : ee o = .inr (8, [.ref q1, .ref q2, v2, v3, v4, .int 0])) (he1 : ee (o + 1) = .inl (B.2.1, 64, .inl (fun _ => 0))) (he2 : ee (o + 2) = .inl (B.2.1, 8, .inl (fun _ => 0))) : OkC B l md_X8_addFrame 0 0 [.ref a0, .int (I 8)] N ea ee (fun N' ea' ee' => N' = N ∧ ea' = ea ∧ (∀ x, x ≠ o → x ≠ o + 1 → x ≠ o + 2 → ee' x = ee x) ∧ ee' o = .inr (8, [.ref q1, .ref q2, v2, v3, v4, .int (I 1)]) ∧ ee' (o + 1) = .inl (B.2.1, 64, .inl (fun j => if j < 8 then I (-1) else 0)) ∧ ee' (o + 2) = .inl (B.2.1, 8, .inl (fun j => if j < 1 then I 8 else 0))) := by
  refine OkC_of mk_X8_addFrame hfl (Nat.le_of_ble_eq_true rfl) (fun G hC hR hB hr hg hI => ?_)
  subst hB; subst hg
  rw [show Value.int 0 = .int (I 0) from by rw [I_zero]] at es
  show VC G md_X8_addFrame 0 0 N ea ee 0 [(0, .ref a0), (1, .int (I 8))] []
  refine C_aload_n hC 0 rfl dX8_addFrame_0 ?_
  refine C_get hC fr_X8_15 (o := o) (by omega) ha0 es (v := .ref q2) rfl dX8_addFrame_1 ?_
  refine C_aload_n hC 0 rfl dX8_addFrame_4 ?_
  refine C_get hC fr_X8_35 (o := o) (by omega) ha0 es (v := .int (I 0)) rfl dX8_addFrame_5 ?_
  refine C_iload_n hC 1 rfl dX8_addFrame_8 ?_
  refine D_ast hC (o := o + 2) (by omega) h2 he2 ⟨by decide, by decide⟩ (by decide) dX8_addFrame_9 (fun ee1 g1 e1 => ?_)
  have e0 : (fun _ => 0 : Nat → Int32) = fun j => if j < 0 then I 8 else 0 := by funext j; rw [if_neg (Nat.not_lt_zero j)]
  have es1 := (g1 o (by omega)).trans es
  have he11 := (g1 (o + 1) (by omega)).trans he1
  refine C_aload_n hC 0 rfl dX8_addFrame_10 ?_
  refine C_dup hC rfl dX8_addFrame_11 ?_
  refine C_get hC fr_X8_35 (o := o) (by omega) ha0 es1 (v := .int (I 0)) rfl dX8_addFrame_12 ?_
  refine C_iconst hC dX8_addFrame_15 ?_
  refine C_iadd hC dX8_addFrame_16 ?_
  refine D_put hC fk_X8_35 (Or.inl rfl) (o := o) (by omega) ha0 es1 (Nat.le_of_ble_eq_true rfl) dX8_addFrame_17 (fun ee2 g2 e2 => ?_)
  have es2 : ee2 o = .inr (8, [.ref q1, .ref q2, v2, v3, v4, .int (I 1)]) := e2
  have he12 := (g2 (o + 1) (by omega)).trans he11
  have he22 := (g2 (o + 2) (by omega)).trans e1
  refine C_iconst hC dX8_addFrame_20 ?_
  refine C_istore_n hC (lv' := [(2, .int (I 0)), (0, .ref a0), (1, .int (I 8))]) (Nat.le_of_ble_eq_true rfl) rfl dX8_addFrame_21 ?_
  have hloop : ∀ (r i : Nat), i + r = 8 → ∀ ee', (∀ x, x ≠ o + 1 → ee' x = ee2 x) → ee' (o + 1) = .inl ((gB G).2.1, 64, .inl (fun j => if j < i then I (-1) else 0)) → VC G md_X8_addFrame 0 0 N ea ee' 22 [(2, .int (I (i : Int))), (0, .ref a0), (1, .int (I 8))] [] := by
    intro r
    induction r with
    | zero =>
      intro i hi ee' g he'
      refine C_iload_n hC 0 rfl dX8_addFrame_22 ?_
      refine C_iload_n hC 2 rfl dX8_addFrame_23 ?_
      refine C_icmp_ge hC 39 rfl dX8_addFrame_24 ⟨⟨by omega, by omega⟩, ⟨by omega, by omega⟩, fun z => ?_, fun z => absurd z (by omega)⟩
      have hi' : i = 8 := by omega
      subst hi'
      refine C_vret hC hR rfl (by rw [hr]; exact ⟨Nat.le_refl _, Nat.le_refl _⟩) dX8_addFrame_39 ⟨rfl, rfl, fun x h3 h4 h5 => (g x h4).trans ((g2 x h3).trans (g1 x h5)), (g o (by omega)).trans es2, he', ?_⟩
      rw [g (o + 2) (by omega), he22]
      have h7 := upd_step (f := fun _ => I 8) (i := 0)
      rw [← e0] at h7
      show Sum.inl (_, 8, Sum.inl (upd (fun _ => 0) 0 (I 8))) = _
      rw [h7]
    | succ r ih =>
      intro i hi ee' g he'
      refine C_iload_n hC 0 rfl dX8_addFrame_22 ?_
      refine C_iload_n hC 2 rfl dX8_addFrame_23 ?_
      refine C_icmp_ge hC 39 rfl dX8_addFrame_24 ⟨⟨by omega, by omega⟩, ⟨by omega, by omega⟩, fun z => absurd z (by omega), fun z => ?_⟩
      refine C_aload_n hC 1 rfl dX8_addFrame_27 ?_
      refine C_iload_n hC 0 rfl dX8_addFrame_28 ?_
      refine C_iconst hC dX8_addFrame_29 ?_
      have es3 := (g o (by omega)).trans es2
      refine C_virt hC (As := [.int (I (i : Int)), .int (I (-1))]) lv_X8_39 dX8_addFrame_30 (d0 := md_X8_addFrame.2.2.2.2) (by decide) (Rm_of hr) (o := o) (by omega) ha0 es3 rfl rfl (Nat.le_of_ble_eq_true rfl) (kc := 0) (nc := 0) ⟨Nat.zero_le _, Nat.zero_le _⟩ (ct_hold (o := o) (s := o + 1) hfl (by omega) (by omega) ha0 h1 es3 he' ⟨by omega, by omega⟩) (fun N9 ea9 ee9 hq => ?_)
      obtain ⟨rfl, rfl, g9, e9⟩ := hq
      refine C_iinc hC (lv' := [(2, .int (I ((i : Int) + 1))), (0, .ref a0), (1, .int (I 8))]) 0 rfl (Nat.le_of_ble_eq_true rfl) rfl dX8_addFrame_33 ?_
      refine C_goto hC 22 rfl dX8_addFrame_36 ?_
      have h7 : (((1 : Int) - 1) * 8 + (i : Int)).toNat = i := by omega
      have h8 := upd_step (f := fun _ => I (-1)) (i := i)
      rw [h7] at e9
      exact ih (i + 1) (by omega) ee9 (fun x hx => (g9 x hx).trans (g x hx)) (by rw [e9, h8])
  have e3 : (fun _ => 0 : Nat → Int32) = fun j => if j < 0 then I (-1) else 0 := by funext j; rw [if_neg (Nat.not_lt_zero j)]
  rw [e3] at he12
  exact hloop 8 0 rfl ee2 (fun _ _ => rfl) he12

def Bl_X4 (B : WB) (ea : Nat → Nat) (ee : Nat → va_E) (o : Nat) : Prop := ee o = .inr (4, [.ref (ea (o + 1)), .ref (ea (o + 2)), .ref (ea (o + 3)), .ref (ea (o + 4)), .int 0]) ∧ ee (o + 1) = .inl (B.2.1, 12, .inl (fun _ => 0)) ∧ ee (o + 2) = .inl (B.2.1, 12, .inl (fun _ => 0)) ∧ ee (o + 3) = .inl (B.2.1, 12, .inl (fun _ => 0)) ∧ ee (o + 4) = .inl (B.2.2.1, 12, .inl (fun _ => 0))
theorem Bm_X4 {B : WB} {ea ea' : Nat → Nat} {ee ee' : Nat → va_E} {o : Nat} (g : ∀ i, o ≤ i → i < o + 5 → ea' i = ea i ∧ ee' i = ee i) (h : Bl_X4 B ea ee o) : Bl_X4 B ea' ee' o := by
  unfold Bl_X4 at h ⊢
  obtain ⟨h0, h1, h2, h3, h4⟩ := h
  rw [(g (o + 1) (by omega) (by omega)).1, (g (o + 2) (by omega) (by omega)).1, (g (o + 3) (by omega) (by omega)).1, (g (o + 4) (by omega) (by omega)).1]
  exact ⟨(g o (by omega) (by omega)).2.trans h0, (g (o + 1) (by omega) (by omega)).2.trans h1, (g (o + 2) (by omega) (by omega)).2.trans h2, (g (o + 3) (by omega) (by omega)).2.trans h3, (g (o + 4) (by omega) (by omega)).2.trans h4⟩
set_option maxRecDepth 20000 in
set_option maxHeartbeats 4000000 in
theorem ct_X4 {B : WB} {l : Launch} {o a0 : Nat} {ea : Nat → Nat} {ee : Nat → va_E} (hfl : l.stackTraces = false) (ha0 : ea o = a0) (es : ee o = .inr (4, [.null, .null, .null, .null, .int 0])) : OkC B l md_X4_init 4 48 [.ref a0] (o + 1) ea ee (QB (fun ea ee => Bl_X4 B ea ee o) o 4 ea ee) := by
  refine OkC_of mk_X4_init hfl (Nat.le_of_ble_eq_true rfl) (fun G hC hR hB hr hg hI => ?_)
  subst hB; subst hg
  replace hI := hI rfl
  have i1 : ∀ i, i < o + 1 → ea i = ea i := fun _ _ => rfl
  have i2 : ∀ i, i < o → ee i = ee i := fun _ _ => rfl
  show VC G md_X4_init 0 0 (o + 1) ea ee 0 [(0, .ref a0)] []
  refine C_aload_n hC 0 rfl dX4_init_0 ?_
  refine C_oinit hC oi_X4_3 dX4_init_1 (R8_of hr) (Nat.le_of_ble_eq_true rfl) ?_
  refine C_aload_n hC 0 rfl dX4_init_4 ?_
  refine C_bipush hC (d := dX4_init_5) rfl ?_
  refine D_newI (N := o + 1) (k := 0) (n := 0) hC 12 dX4_init_7 ac_I rfl (by decide) (by rw [hr]; exact ⟨Nat.le_of_ble_eq_true rfl, Nat.le_of_ble_eq_true rfl⟩) (fun q1 ea1 ee1 g ha1 he1 => ?_)
  replace i1 := fun i (h : i < o + 1) => (g i (by omega)).1.trans (i1 i h)
  replace i2 := fun i (h : i < o) => (g i (by omega)).2.trans (i2 i h)
  replace ha0 := (g o (by omega)).1.trans ha0
  replace es := (g o (by omega)).2.trans es
  refine D_putF (N := o + 2) hC hI ff_X4_9 (Or.inr ⟨_, rfl⟩) (o := o) (by omega) ha0 es (Nat.le_of_ble_eq_true rfl) dX4_init_9 (fun ee2 g es2 => ?_)
  replace es : ee2 o = .inr (4, [.ref q1, .null, .null, .null, .int 0]) := es2
  clear es2
  replace i2 := fun i (h : i < o) => (g i (by omega)).trans (i2 i h)
  replace he1 := (g (o + 1) (by omega)).trans he1
  refine C_aload_n hC 0 rfl dX4_init_12 ?_
  refine C_bipush hC (d := dX4_init_13) rfl ?_
  refine D_newI (N := o + 2) (k := 1) (n := 12) hC 12 dX4_init_15 ac_I rfl (by decide) (by rw [hr]; exact ⟨Nat.le_of_ble_eq_true rfl, Nat.le_of_ble_eq_true rfl⟩) (fun q2 ea3 ee3 g ha2 he2 => ?_)
  replace i1 := fun i (h : i < o + 1) => (g i (by omega)).1.trans (i1 i h)
  replace i2 := fun i (h : i < o) => (g i (by omega)).2.trans (i2 i h)
  replace ha0 := (g o (by omega)).1.trans ha0
  replace es := (g o (by omega)).2.trans es
  replace ha1 := (g (o + 1) (by omega)).1.trans ha1
  replace he1 := (g (o + 1) (by omega)).2.trans he1
  refine D_putF (N := o + 3) hC hI ff_X4_15 (Or.inr ⟨_, rfl⟩) (o := o) (by omega) ha0 es (Nat.le_of_ble_eq_true rfl) dX4_init_17 (fun ee4 g es2 => ?_)
  replace es : ee4 o = .inr (4, [.ref q1, .ref q2, .null, .null, .int 0]) := es2
  clear es2
  replace i2 := fun i (h : i < o) => (g i (by omega)).trans (i2 i h)
  replace he1 := (g (o + 1) (by omega)).trans he1
  replace he2 := (g (o + 2) (by omega)).trans he2
  refine C_aload_n hC 0 rfl dX4_init_20 ?_
  refine C_bipush hC (d := dX4_init_21) rfl ?_
  refine D_newI (N := o + 3) (k := 2) (n := 24) hC 12 dX4_init_23 ac_I rfl (by decide) (by rw [hr]; exact ⟨Nat.le_of_ble_eq_true rfl, Nat.le_of_ble_eq_true rfl⟩) (fun q3 ea5 ee5 g ha3 he3 => ?_)
  replace i1 := fun i (h : i < o + 1) => (g i (by omega)).1.trans (i1 i h)
  replace i2 := fun i (h : i < o) => (g i (by omega)).2.trans (i2 i h)
  replace ha0 := (g o (by omega)).1.trans ha0
  replace es := (g o (by omega)).2.trans es
  replace ha1 := (g (o + 1) (by omega)).1.trans ha1
  replace he1 := (g (o + 1) (by omega)).2.trans he1
  replace ha2 := (g (o + 2) (by omega)).1.trans ha2
  replace he2 := (g (o + 2) (by omega)).2.trans he2
  refine D_putF (N := o + 4) hC hI ff_X4_18 (Or.inr ⟨_, rfl⟩) (o := o) (by omega) ha0 es (Nat.le_of_ble_eq_true rfl) dX4_init_25 (fun ee6 g es2 => ?_)
  replace es : ee6 o = .inr (4, [.ref q1, .ref q2, .ref q3, .null, .int 0]) := es2
  clear es2
  replace i2 := fun i (h : i < o) => (g i (by omega)).trans (i2 i h)
  replace he1 := (g (o + 1) (by omega)).trans he1
  replace he2 := (g (o + 2) (by omega)).trans he2
  replace he3 := (g (o + 3) (by omega)).trans he3
  refine C_aload_n hC 0 rfl dX4_init_28 ?_
  refine C_bipush hC (d := dX4_init_29) rfl ?_
  refine D_newZ (N := o + 4) (k := 3) (n := 36) hC 12 dX4_init_31 ac_Z rfl (by decide) (by rw [hr]; exact ⟨Nat.le_of_ble_eq_true rfl, Nat.le_of_ble_eq_true rfl⟩) (fun q4 ea7 ee7 g ha4 he4 => ?_)
  replace i1 := fun i (h : i < o + 1) => (g i (by omega)).1.trans (i1 i h)
  replace i2 := fun i (h : i < o) => (g i (by omega)).2.trans (i2 i h)
  replace ha0 := (g o (by omega)).1.trans ha0
  replace es := (g o (by omega)).2.trans es
  replace ha1 := (g (o + 1) (by omega)).1.trans ha1
  replace he1 := (g (o + 1) (by omega)).2.trans he1
  replace ha2 := (g (o + 2) (by omega)).1.trans ha2
  replace he2 := (g (o + 2) (by omega)).2.trans he2
  replace ha3 := (g (o + 3) (by omega)).1.trans ha3
  replace he3 := (g (o + 3) (by omega)).2.trans he3
  refine D_putF (N := o + 5) hC hI ff_X4_21 (Or.inr ⟨_, rfl⟩) (o := o) (by omega) ha0 es (Nat.le_of_ble_eq_true rfl) dX4_init_33 (fun ee8 g es2 => ?_)
  replace es : ee8 o = .inr (4, [.ref q1, .ref q2, .ref q3, .ref q4, .int 0]) := es2
  clear es2
  replace i2 := fun i (h : i < o) => (g i (by omega)).trans (i2 i h)
  replace he1 := (g (o + 1) (by omega)).trans he1
  replace he2 := (g (o + 2) (by omega)).trans he2
  replace he3 := (g (o + 3) (by omega)).trans he3
  replace he4 := (g (o + 4) (by omega)).trans he4
  refine C_vret (N := o + 5) hC hR rfl (by rw [hr]; exact ⟨Nat.le_refl _, Nat.le_refl _⟩) dX4_init_36 ⟨by omega, i1, i2, ?_⟩
  show Bl_X4 _ _ _ _
  unfold Bl_X4
  rw [ha1, ha2, ha3, ha4]
  exact ⟨es, he1, he2, he3, he4⟩
def Bl_X5 (B : WB) (ea : Nat → Nat) (ee : Nat → va_E) (o : Nat) : Prop := ee o = .inr (5, [.ref (ea (o + 1)), .int 0]) ∧ ee (o + 1) = .inl (B.2.1, 208, .inl (fun _ => 0))
theorem Bm_X5 {B : WB} {ea ea' : Nat → Nat} {ee ee' : Nat → va_E} {o : Nat} (g : ∀ i, o ≤ i → i < o + 2 → ea' i = ea i ∧ ee' i = ee i) (h : Bl_X5 B ea ee o) : Bl_X5 B ea' ee' o := by
  unfold Bl_X5 at h ⊢
  obtain ⟨h0, h1⟩ := h
  rw [(g (o + 1) (by omega) (by omega)).1]
  exact ⟨(g o (by omega) (by omega)).2.trans h0, (g (o + 1) (by omega) (by omega)).2.trans h1⟩
set_option maxRecDepth 20000 in
set_option maxHeartbeats 4000000 in
theorem ct_X5 {B : WB} {l : Launch} {o a0 : Nat} {ea : Nat → Nat} {ee : Nat → va_E} (hfl : l.stackTraces = false) (ha0 : ea o = a0) (es : ee o = .inr (5, [.null, .int 0])) : OkC B l md_X5_init 1 208 [.ref a0] (o + 1) ea ee (QB (fun ea ee => Bl_X5 B ea ee o) o 1 ea ee) := by
  refine OkC_of mk_X5_init hfl (Nat.le_of_ble_eq_true rfl) (fun G hC hR hB hr hg hI => ?_)
  subst hB; subst hg
  replace hI := hI rfl
  have i1 : ∀ i, i < o + 1 → ea i = ea i := fun _ _ => rfl
  have i2 : ∀ i, i < o → ee i = ee i := fun _ _ => rfl
  show VC G md_X5_init 0 0 (o + 1) ea ee 0 [(0, .ref a0)] []
  refine C_aload_n hC 0 rfl dX5_init_0 ?_
  refine C_oinit hC oi_X5_3 dX5_init_1 (R8_of hr) (Nat.le_of_ble_eq_true rfl) ?_
  refine C_aload_n hC 0 rfl dX5_init_4 ?_
  refine C_sipush hC (d := dX5_init_5) rfl ?_
  refine D_newI (N := o + 1) (k := 0) (n := 0) hC 208 dX5_init_8 ac_I rfl (by decide) (by rw [hr]; exact ⟨Nat.le_of_ble_eq_true rfl, Nat.le_of_ble_eq_true rfl⟩) (fun q1 ea1 ee1 g ha1 he1 => ?_)
  replace i1 := fun i (h : i < o + 1) => (g i (by omega)).1.trans (i1 i h)
  replace i2 := fun i (h : i < o) => (g i (by omega)).2.trans (i2 i h)
  replace ha0 := (g o (by omega)).1.trans ha0
  replace es := (g o (by omega)).2.trans es
  refine D_putF (N := o + 2) hC hI ff_X5_9 (Or.inr ⟨_, rfl⟩) (o := o) (by omega) ha0 es (Nat.le_of_ble_eq_true rfl) dX5_init_10 (fun ee2 g es2 => ?_)
  replace es : ee2 o = .inr (5, [.ref q1, .int 0]) := es2
  clear es2
  replace i2 := fun i (h : i < o) => (g i (by omega)).trans (i2 i h)
  replace he1 := (g (o + 1) (by omega)).trans he1
  refine C_vret (N := o + 2) hC hR rfl (by rw [hr]; exact ⟨Nat.le_refl _, Nat.le_refl _⟩) dX5_init_13 ⟨by omega, i1, i2, ?_⟩
  show Bl_X5 _ _ _ _
  unfold Bl_X5
  rw [ha1]
  exact ⟨es, he1⟩
def Bl_X0 (B : WB) (ea : Nat → Nat) (ee : Nat → va_E) (o : Nat) : Prop := ee o = .inr (0, [.ref (ea (o + 1)), .ref (ea (o + 2)), .int 0, .int (I (-1))]) ∧ ee (o + 1) = .inl (B.2.2.1, 208, .inl (fun _ => 0)) ∧ ee (o + 2) = .inl (B.2.1, 208, .inl (fun _ => 0))
theorem Bm_X0 {B : WB} {ea ea' : Nat → Nat} {ee ee' : Nat → va_E} {o : Nat} (g : ∀ i, o ≤ i → i < o + 3 → ea' i = ea i ∧ ee' i = ee i) (h : Bl_X0 B ea ee o) : Bl_X0 B ea' ee' o := by
  unfold Bl_X0 at h ⊢
  obtain ⟨h0, h1, h2⟩ := h
  rw [(g (o + 1) (by omega) (by omega)).1, (g (o + 2) (by omega) (by omega)).1]
  exact ⟨(g o (by omega) (by omega)).2.trans h0, (g (o + 1) (by omega) (by omega)).2.trans h1, (g (o + 2) (by omega) (by omega)).2.trans h2⟩
set_option maxRecDepth 20000 in
set_option maxHeartbeats 4000000 in
theorem ct_X0 {B : WB} {l : Launch} {o a0 : Nat} {ea : Nat → Nat} {ee : Nat → va_E} (hfl : l.stackTraces = false) (ha0 : ea o = a0) (es : ee o = .inr (0, [.null, .null, .int 0, .int 0])) : OkC B l md_X0_init 2 416 [.ref a0] (o + 1) ea ee (QB (fun ea ee => Bl_X0 B ea ee o) o 2 ea ee) := by
  refine OkC_of mk_X0_init hfl (Nat.le_of_ble_eq_true rfl) (fun G hC hR hB hr hg hI => ?_)
  subst hB; subst hg
  replace hI := hI rfl
  have i1 : ∀ i, i < o + 1 → ea i = ea i := fun _ _ => rfl
  have i2 : ∀ i, i < o → ee i = ee i := fun _ _ => rfl
  show VC G md_X0_init 0 0 (o + 1) ea ee 0 [(0, .ref a0)] []
  refine C_aload_n hC 0 rfl dX0_init_0 ?_
  refine C_oinit hC oi_X0_3 dX0_init_1 (R8_of hr) (Nat.le_of_ble_eq_true rfl) ?_
  refine C_aload_n hC 0 rfl dX0_init_4 ?_
  refine C_sipush hC (d := dX0_init_5) rfl ?_
  refine D_newZ (N := o + 1) (k := 0) (n := 0) hC 208 dX0_init_8 ac_Z rfl (by decide) (by rw [hr]; exact ⟨Nat.le_of_ble_eq_true rfl, Nat.le_of_ble_eq_true rfl⟩) (fun q1 ea1 ee1 g ha1 he1 => ?_)
  replace i1 := fun i (h : i < o + 1) => (g i (by omega)).1.trans (i1 i h)
  replace i2 := fun i (h : i < o) => (g i (by omega)).2.trans (i2 i h)
  replace ha0 := (g o (by omega)).1.trans ha0
  replace es := (g o (by omega)).2.trans es
  refine D_putF (N := o + 2) hC hI ff_X0_9 (Or.inr ⟨_, rfl⟩) (o := o) (by omega) ha0 es (Nat.le_of_ble_eq_true rfl) dX0_init_10 (fun ee2 g es2 => ?_)
  replace es : ee2 o = .inr (0, [.ref q1, .null, .int 0, .int 0]) := es2
  clear es2
  replace i2 := fun i (h : i < o) => (g i (by omega)).trans (i2 i h)
  replace he1 := (g (o + 1) (by omega)).trans he1
  refine C_aload_n hC 0 rfl dX0_init_13 ?_
  refine C_sipush hC (d := dX0_init_14) rfl ?_
  refine D_newI (N := o + 2) (k := 1) (n := 208) hC 208 dX0_init_17 ac_I rfl (by decide) (by rw [hr]; exact ⟨Nat.le_of_ble_eq_true rfl, Nat.le_of_ble_eq_true rfl⟩) (fun q2 ea3 ee3 g ha2 he2 => ?_)
  replace i1 := fun i (h : i < o + 1) => (g i (by omega)).1.trans (i1 i h)
  replace i2 := fun i (h : i < o) => (g i (by omega)).2.trans (i2 i h)
  replace ha0 := (g o (by omega)).1.trans ha0
  replace es := (g o (by omega)).2.trans es
  replace ha1 := (g (o + 1) (by omega)).1.trans ha1
  replace he1 := (g (o + 1) (by omega)).2.trans he1
  refine D_putF (N := o + 3) hC hI ff_X0_15 (Or.inr ⟨_, rfl⟩) (o := o) (by omega) ha0 es (Nat.le_of_ble_eq_true rfl) dX0_init_19 (fun ee4 g es2 => ?_)
  replace es : ee4 o = .inr (0, [.ref q1, .ref q2, .int 0, .int 0]) := es2
  clear es2
  replace i2 := fun i (h : i < o) => (g i (by omega)).trans (i2 i h)
  replace he1 := (g (o + 1) (by omega)).trans he1
  replace he2 := (g (o + 2) (by omega)).trans he2
  refine C_aload_n hC 0 rfl dX0_init_22 ?_
  refine C_iconst hC dX0_init_23 ?_
  refine D_put (N := o + 3) hC fk_X0_19 (Or.inl rfl) (o := o) (by omega) ha0 es (Nat.le_of_ble_eq_true rfl) dX0_init_24 (fun ee5 g es2 => ?_)
  replace es : ee5 o = .inr (0, [.ref q1, .ref q2, .int 0, .int (I (-1))]) := es2
  clear es2
  replace i2 := fun i (h : i < o) => (g i (by omega)).trans (i2 i h)
  replace he1 := (g (o + 1) (by omega)).trans he1
  replace he2 := (g (o + 2) (by omega)).trans he2
  refine C_vret (N := o + 3) hC hR rfl (by rw [hr]; exact ⟨Nat.le_refl _, Nat.le_refl _⟩) dX0_init_27 ⟨by omega, i1, i2, ?_⟩
  show Bl_X0 _ _ _ _
  unfold Bl_X0
  rw [ha1, ha2]
  exact ⟨es, he1, he2⟩
def Bl_X7 (B : WB) (ea : Nat → Nat) (ee : Nat → va_E) (o : Nat) (t1 : Nat) : Prop := ee o = .inr (7, [.ref t1, .ref (ea (o + 1))]) ∧ ee (o + 1) = .inl (B.2.1, 208, .inl (fun _ => 0))
theorem Bm_X7 {B : WB} {ea ea' : Nat → Nat} {ee ee' : Nat → va_E} {o t1 : Nat} (g : ∀ i, o ≤ i → i < o + 2 → ea' i = ea i ∧ ee' i = ee i) (h : Bl_X7 B ea ee o t1) : Bl_X7 B ea' ee' o t1 := by
  unfold Bl_X7 at h ⊢
  obtain ⟨h0, h1⟩ := h
  rw [(g (o + 1) (by omega) (by omega)).1]
  exact ⟨(g o (by omega) (by omega)).2.trans h0, (g (o + 1) (by omega) (by omega)).2.trans h1⟩
set_option maxRecDepth 20000 in
set_option maxHeartbeats 4000000 in
theorem ct_X7 {B : WB} {l : Launch} {o a0 t1 : Nat} {ea : Nat → Nat} {ee : Nat → va_E} (hfl : l.stackTraces = false) (ha0 : ea o = a0) (es : ee o = .inr (7, [.null, .null])) : OkC B l md_X7_init 1 208 [.ref a0, .ref t1] (o + 1) ea ee (QB (fun ea ee => Bl_X7 B ea ee o t1) o 1 ea ee) := by
  refine OkC_of mk_X7_init hfl (Nat.le_of_ble_eq_true rfl) (fun G hC hR hB hr hg hI => ?_)
  subst hB; subst hg
  replace hI := hI rfl
  have i1 : ∀ i, i < o + 1 → ea i = ea i := fun _ _ => rfl
  have i2 : ∀ i, i < o → ee i = ee i := fun _ _ => rfl
  show VC G md_X7_init 0 0 (o + 1) ea ee 0 [(0, .ref a0), (1, .ref t1)] []
  refine C_aload_n hC 0 rfl dX7_init_0 ?_
  refine C_oinit hC oi_X7_3 dX7_init_1 (R8_of hr) (Nat.le_of_ble_eq_true rfl) ?_
  refine C_aload_n hC 0 rfl dX7_init_4 ?_
  refine C_sipush hC (d := dX7_init_5) rfl ?_
  refine D_newI (N := o + 1) (k := 0) (n := 0) hC 208 dX7_init_8 ac_I rfl (by decide) (by rw [hr]; exact ⟨Nat.le_of_ble_eq_true rfl, Nat.le_of_ble_eq_true rfl⟩) (fun q1 ea1 ee1 g ha1 he1 => ?_)
  replace i1 := fun i (h : i < o + 1) => (g i (by omega)).1.trans (i1 i h)
  replace i2 := fun i (h : i < o) => (g i (by omega)).2.trans (i2 i h)
  replace ha0 := (g o (by omega)).1.trans ha0
  replace es := (g o (by omega)).2.trans es
  refine D_putF (N := o + 2) hC hI ff_X7_9 (Or.inr ⟨_, rfl⟩) (o := o) (by omega) ha0 es (Nat.le_of_ble_eq_true rfl) dX7_init_10 (fun ee2 g es2 => ?_)
  replace es : ee2 o = .inr (7, [.null, .ref q1]) := es2
  clear es2
  replace i2 := fun i (h : i < o) => (g i (by omega)).trans (i2 i h)
  replace he1 := (g (o + 1) (by omega)).trans he1
  refine C_aload_n hC 0 rfl dX7_init_13 ?_
  refine C_aload_n hC 1 rfl dX7_init_14 ?_
  refine D_putF (N := o + 2) hC hI ff_X7_15 (Or.inl ⟨_, rfl⟩) (o := o) (by omega) ha0 es (Nat.le_of_ble_eq_true rfl) dX7_init_15 (fun ee3 g es2 => ?_)
  replace es : ee3 o = .inr (7, [.ref t1, .ref q1]) := es2
  clear es2
  replace i2 := fun i (h : i < o) => (g i (by omega)).trans (i2 i h)
  replace he1 := (g (o + 1) (by omega)).trans he1
  refine C_vret (N := o + 2) hC hR rfl (by rw [hr]; exact ⟨Nat.le_refl _, Nat.le_refl _⟩) dX7_init_18 ⟨by omega, i1, i2, ?_⟩
  show Bl_X7 _ _ _ _ t1
  unfold Bl_X7
  rw [ha1]
  exact ⟨es, he1⟩
def Bl_X10 (B : WB) (ea : Nat → Nat) (ee : Nat → va_E) (o : Nat) (t1 : Nat) : Prop := ee o = .inr (10, [.ref t1, .ref (ea (o + 1)), .ref (ea (o + 2)), .ref (ea (o + 3)), .ref (ea (o + 4)), .ref (ea (o + 5)), .ref (ea (o + 6)), .ref (ea (o + 7)), .ref (ea (o + 8)), .ref (ea (o + 9)), .ref (ea (o + 10)), .ref (ea (o + 11)), .ref (ea (o + 12)), .ref (ea (o + 13)), .ref (ea (o + 14)), .int 0, .int 0, .int 0, .int 0, .int 0]) ∧ ee (o + 1) = .inl (B.2.1, 208, .inl (fun _ => 0)) ∧ ee (o + 2) = .inl (B.2.1, 208, .inl (fun _ => 0)) ∧ ee (o + 3) = .inl (B.2.1, 208, .inl (fun _ => 0)) ∧ ee (o + 4) = .inl (B.2.1, 208, .inl (fun _ => 0)) ∧ ee (o + 5) = .inl (B.2.1, 208, .inl (fun _ => 0)) ∧ ee (o + 6) = .inl (B.2.1, 208, .inl (fun _ => 0)) ∧ ee (o + 7) = .inl (B.2.1, 208, .inl (fun _ => 0)) ∧ ee (o + 8) = .inl (B.2.2.1, 208, .inl (fun _ => 0)) ∧ ee (o + 9) = .inl (B.2.2.1, 208, .inl (fun _ => 0)) ∧ ee (o + 10) = .inl (B.2.2.1, 208, .inl (fun _ => 0)) ∧ ee (o + 11) = .inl (B.2.2.1, 208, .inl (fun _ => 0)) ∧ ee (o + 12) = .inl (B.2.1, 1664, .inl (fun _ => 0)) ∧ ee (o + 13) = .inl (B.2.1, 208, .inl (fun j => if j < 208 then I (j : Int) else 0)) ∧ ee (o + 14) = .inl (B.2.1, 208, .inl (fun _ => 0))
theorem Bm_X10 {B : WB} {ea ea' : Nat → Nat} {ee ee' : Nat → va_E} {o t1 : Nat} (g : ∀ i, o ≤ i → i < o + 15 → ea' i = ea i ∧ ee' i = ee i) (h : Bl_X10 B ea ee o t1) : Bl_X10 B ea' ee' o t1 := by
  unfold Bl_X10 at h ⊢
  obtain ⟨h0, h1, h2, h3, h4, h5, h6, h7, h8, h9, h10, h11, h12, h13, h14⟩ := h
  rw [(g (o + 1) (by omega) (by omega)).1, (g (o + 2) (by omega) (by omega)).1, (g (o + 3) (by omega) (by omega)).1, (g (o + 4) (by omega) (by omega)).1, (g (o + 5) (by omega) (by omega)).1, (g (o + 6) (by omega) (by omega)).1, (g (o + 7) (by omega) (by omega)).1, (g (o + 8) (by omega) (by omega)).1, (g (o + 9) (by omega) (by omega)).1, (g (o + 10) (by omega) (by omega)).1, (g (o + 11) (by omega) (by omega)).1, (g (o + 12) (by omega) (by omega)).1, (g (o + 13) (by omega) (by omega)).1, (g (o + 14) (by omega) (by omega)).1]
  exact ⟨(g o (by omega) (by omega)).2.trans h0, (g (o + 1) (by omega) (by omega)).2.trans h1, (g (o + 2) (by omega) (by omega)).2.trans h2, (g (o + 3) (by omega) (by omega)).2.trans h3, (g (o + 4) (by omega) (by omega)).2.trans h4, (g (o + 5) (by omega) (by omega)).2.trans h5, (g (o + 6) (by omega) (by omega)).2.trans h6, (g (o + 7) (by omega) (by omega)).2.trans h7, (g (o + 8) (by omega) (by omega)).2.trans h8, (g (o + 9) (by omega) (by omega)).2.trans h9, (g (o + 10) (by omega) (by omega)).2.trans h10, (g (o + 11) (by omega) (by omega)).2.trans h11, (g (o + 12) (by omega) (by omega)).2.trans h12, (g (o + 13) (by omega) (by omega)).2.trans h13, (g (o + 14) (by omega) (by omega)).2.trans h14⟩
set_option maxRecDepth 20000 in
set_option maxHeartbeats 4000000 in
theorem ct_X10 {B : WB} {l : Launch} {o a0 t1 : Nat} {ea : Nat → Nat} {ee : Nat → va_E} (hfl : l.stackTraces = false) (ha0 : ea o = a0) (es : ee o = .inr (10, [.null, .null, .null, .null, .null, .null, .null, .null, .null, .null, .null, .null, .null, .null, .null, .int 0, .int 0, .int 0, .int 0, .int 0])) : OkC B l md_X10_init 14 4368 [.ref a0, .ref t1] (o + 1) ea ee (QB (fun ea ee => Bl_X10 B ea ee o t1) o 14 ea ee) := by
  refine OkC_of mk_X10_init hfl (Nat.le_of_ble_eq_true rfl) (fun G hC hR hB hr hg hI => ?_)
  subst hB; subst hg
  replace hI := hI rfl
  have i1 : ∀ i, i < o + 1 → ea i = ea i := fun _ _ => rfl
  have i2 : ∀ i, i < o → ee i = ee i := fun _ _ => rfl
  show VC G md_X10_init 0 0 (o + 1) ea ee 0 [(0, .ref a0), (1, .ref t1)] []
  refine C_aload_n hC 0 rfl dX10_init_0 ?_
  refine C_oinit hC oi_X10_3 dX10_init_1 (R8_of hr) (Nat.le_of_ble_eq_true rfl) ?_
  refine C_aload_n hC 0 rfl dX10_init_4 ?_
  refine C_sipush hC (d := dX10_init_5) rfl ?_
  refine D_newI (N := o + 1) (k := 0) (n := 0) hC 208 dX10_init_8 ac_I rfl (by decide) (by rw [hr]; exact ⟨Nat.le_of_ble_eq_true rfl, Nat.le_of_ble_eq_true rfl⟩) (fun q1 ea1 ee1 g ha1 he1 => ?_)
  replace i1 := fun i (h : i < o + 1) => (g i (by omega)).1.trans (i1 i h)
  replace i2 := fun i (h : i < o) => (g i (by omega)).2.trans (i2 i h)
  replace ha0 := (g o (by omega)).1.trans ha0
  replace es := (g o (by omega)).2.trans es
  refine D_putF (N := o + 2) hC hI ff_X10_9 (Or.inr ⟨_, rfl⟩) (o := o) (by omega) ha0 es (Nat.le_of_ble_eq_true rfl) dX10_init_10 (fun ee2 g es2 => ?_)
  replace es : ee2 o = .inr (10, [.null, .ref q1, .null, .null, .null, .null, .null, .null, .null, .null, .null, .null, .null, .null, .null, .int 0, .int 0, .int 0, .int 0, .int 0]) := es2
  clear es2
  replace i2 := fun i (h : i < o) => (g i (by omega)).trans (i2 i h)
  replace he1 := (g (o + 1) (by omega)).trans he1
  refine C_aload_n hC 0 rfl dX10_init_13 ?_
  refine C_sipush hC (d := dX10_init_14) rfl ?_
  refine D_newI (N := o + 2) (k := 1) (n := 208) hC 208 dX10_init_17 ac_I rfl (by decide) (by rw [hr]; exact ⟨Nat.le_of_ble_eq_true rfl, Nat.le_of_ble_eq_true rfl⟩) (fun q2 ea3 ee3 g ha2 he2 => ?_)
  replace i1 := fun i (h : i < o + 1) => (g i (by omega)).1.trans (i1 i h)
  replace i2 := fun i (h : i < o) => (g i (by omega)).2.trans (i2 i h)
  replace ha0 := (g o (by omega)).1.trans ha0
  replace es := (g o (by omega)).2.trans es
  replace ha1 := (g (o + 1) (by omega)).1.trans ha1
  replace he1 := (g (o + 1) (by omega)).2.trans he1
  refine D_putF (N := o + 3) hC hI ff_X10_15 (Or.inr ⟨_, rfl⟩) (o := o) (by omega) ha0 es (Nat.le_of_ble_eq_true rfl) dX10_init_19 (fun ee4 g es2 => ?_)
  replace es : ee4 o = .inr (10, [.null, .ref q1, .ref q2, .null, .null, .null, .null, .null, .null, .null, .null, .null, .null, .null, .null, .int 0, .int 0, .int 0, .int 0, .int 0]) := es2
  clear es2
  replace i2 := fun i (h : i < o) => (g i (by omega)).trans (i2 i h)
  replace he1 := (g (o + 1) (by omega)).trans he1
  replace he2 := (g (o + 2) (by omega)).trans he2
  refine C_aload_n hC 0 rfl dX10_init_22 ?_
  refine C_sipush hC (d := dX10_init_23) rfl ?_
  refine D_newI (N := o + 3) (k := 2) (n := 416) hC 208 dX10_init_26 ac_I rfl (by decide) (by rw [hr]; exact ⟨Nat.le_of_ble_eq_true rfl, Nat.le_of_ble_eq_true rfl⟩) (fun q3 ea5 ee5 g ha3 he3 => ?_)
  replace i1 := fun i (h : i < o + 1) => (g i (by omega)).1.trans (i1 i h)
  replace i2 := fun i (h : i < o) => (g i (by omega)).2.trans (i2 i h)
  replace ha0 := (g o (by omega)).1.trans ha0
  replace es := (g o (by omega)).2.trans es
  replace ha1 := (g (o + 1) (by omega)).1.trans ha1
  replace he1 := (g (o + 1) (by omega)).2.trans he1
  replace ha2 := (g (o + 2) (by omega)).1.trans ha2
  replace he2 := (g (o + 2) (by omega)).2.trans he2
  refine D_putF (N := o + 4) hC hI ff_X10_18 (Or.inr ⟨_, rfl⟩) (o := o) (by omega) ha0 es (Nat.le_of_ble_eq_true rfl) dX10_init_28 (fun ee6 g es2 => ?_)
  replace es : ee6 o = .inr (10, [.null, .ref q1, .ref q2, .ref q3, .null, .null, .null, .null, .null, .null, .null, .null, .null, .null, .null, .int 0, .int 0, .int 0, .int 0, .int 0]) := es2
  clear es2
  replace i2 := fun i (h : i < o) => (g i (by omega)).trans (i2 i h)
  replace he1 := (g (o + 1) (by omega)).trans he1
  replace he2 := (g (o + 2) (by omega)).trans he2
  replace he3 := (g (o + 3) (by omega)).trans he3
  refine C_aload_n hC 0 rfl dX10_init_31 ?_
  refine C_sipush hC (d := dX10_init_32) rfl ?_
  refine D_newI (N := o + 4) (k := 3) (n := 624) hC 208 dX10_init_35 ac_I rfl (by decide) (by rw [hr]; exact ⟨Nat.le_of_ble_eq_true rfl, Nat.le_of_ble_eq_true rfl⟩) (fun q4 ea7 ee7 g ha4 he4 => ?_)
  replace i1 := fun i (h : i < o + 1) => (g i (by omega)).1.trans (i1 i h)
  replace i2 := fun i (h : i < o) => (g i (by omega)).2.trans (i2 i h)
  replace ha0 := (g o (by omega)).1.trans ha0
  replace es := (g o (by omega)).2.trans es
  replace ha1 := (g (o + 1) (by omega)).1.trans ha1
  replace he1 := (g (o + 1) (by omega)).2.trans he1
  replace ha2 := (g (o + 2) (by omega)).1.trans ha2
  replace he2 := (g (o + 2) (by omega)).2.trans he2
  replace ha3 := (g (o + 3) (by omega)).1.trans ha3
  replace he3 := (g (o + 3) (by omega)).2.trans he3
  refine D_putF (N := o + 5) hC hI ff_X10_21 (Or.inr ⟨_, rfl⟩) (o := o) (by omega) ha0 es (Nat.le_of_ble_eq_true rfl) dX10_init_37 (fun ee8 g es2 => ?_)
  replace es : ee8 o = .inr (10, [.null, .ref q1, .ref q2, .ref q3, .ref q4, .null, .null, .null, .null, .null, .null, .null, .null, .null, .null, .int 0, .int 0, .int 0, .int 0, .int 0]) := es2
  clear es2
  replace i2 := fun i (h : i < o) => (g i (by omega)).trans (i2 i h)
  replace he1 := (g (o + 1) (by omega)).trans he1
  replace he2 := (g (o + 2) (by omega)).trans he2
  replace he3 := (g (o + 3) (by omega)).trans he3
  replace he4 := (g (o + 4) (by omega)).trans he4
  refine C_aload_n hC 0 rfl dX10_init_40 ?_
  refine C_sipush hC (d := dX10_init_41) rfl ?_
  refine D_newI (N := o + 5) (k := 4) (n := 832) hC 208 dX10_init_44 ac_I rfl (by decide) (by rw [hr]; exact ⟨Nat.le_of_ble_eq_true rfl, Nat.le_of_ble_eq_true rfl⟩) (fun q5 ea9 ee9 g ha5 he5 => ?_)
  replace i1 := fun i (h : i < o + 1) => (g i (by omega)).1.trans (i1 i h)
  replace i2 := fun i (h : i < o) => (g i (by omega)).2.trans (i2 i h)
  replace ha0 := (g o (by omega)).1.trans ha0
  replace es := (g o (by omega)).2.trans es
  replace ha1 := (g (o + 1) (by omega)).1.trans ha1
  replace he1 := (g (o + 1) (by omega)).2.trans he1
  replace ha2 := (g (o + 2) (by omega)).1.trans ha2
  replace he2 := (g (o + 2) (by omega)).2.trans he2
  replace ha3 := (g (o + 3) (by omega)).1.trans ha3
  replace he3 := (g (o + 3) (by omega)).2.trans he3
  replace ha4 := (g (o + 4) (by omega)).1.trans ha4
  replace he4 := (g (o + 4) (by omega)).2.trans he4
  refine D_putF (N := o + 6) hC hI ff_X10_24 (Or.inr ⟨_, rfl⟩) (o := o) (by omega) ha0 es (Nat.le_of_ble_eq_true rfl) dX10_init_46 (fun ee10 g es2 => ?_)
  replace es : ee10 o = .inr (10, [.null, .ref q1, .ref q2, .ref q3, .ref q4, .ref q5, .null, .null, .null, .null, .null, .null, .null, .null, .null, .int 0, .int 0, .int 0, .int 0, .int 0]) := es2
  clear es2
  replace i2 := fun i (h : i < o) => (g i (by omega)).trans (i2 i h)
  replace he1 := (g (o + 1) (by omega)).trans he1
  replace he2 := (g (o + 2) (by omega)).trans he2
  replace he3 := (g (o + 3) (by omega)).trans he3
  replace he4 := (g (o + 4) (by omega)).trans he4
  replace he5 := (g (o + 5) (by omega)).trans he5
  refine C_aload_n hC 0 rfl dX10_init_49 ?_
  refine C_sipush hC (d := dX10_init_50) rfl ?_
  refine D_newI (N := o + 6) (k := 5) (n := 1040) hC 208 dX10_init_53 ac_I rfl (by decide) (by rw [hr]; exact ⟨Nat.le_of_ble_eq_true rfl, Nat.le_of_ble_eq_true rfl⟩) (fun q6 ea11 ee11 g ha6 he6 => ?_)
  replace i1 := fun i (h : i < o + 1) => (g i (by omega)).1.trans (i1 i h)
  replace i2 := fun i (h : i < o) => (g i (by omega)).2.trans (i2 i h)
  replace ha0 := (g o (by omega)).1.trans ha0
  replace es := (g o (by omega)).2.trans es
  replace ha1 := (g (o + 1) (by omega)).1.trans ha1
  replace he1 := (g (o + 1) (by omega)).2.trans he1
  replace ha2 := (g (o + 2) (by omega)).1.trans ha2
  replace he2 := (g (o + 2) (by omega)).2.trans he2
  replace ha3 := (g (o + 3) (by omega)).1.trans ha3
  replace he3 := (g (o + 3) (by omega)).2.trans he3
  replace ha4 := (g (o + 4) (by omega)).1.trans ha4
  replace he4 := (g (o + 4) (by omega)).2.trans he4
  replace ha5 := (g (o + 5) (by omega)).1.trans ha5
  replace he5 := (g (o + 5) (by omega)).2.trans he5
  refine D_putF (N := o + 7) hC hI ff_X10_27 (Or.inr ⟨_, rfl⟩) (o := o) (by omega) ha0 es (Nat.le_of_ble_eq_true rfl) dX10_init_55 (fun ee12 g es2 => ?_)
  replace es : ee12 o = .inr (10, [.null, .ref q1, .ref q2, .ref q3, .ref q4, .ref q5, .ref q6, .null, .null, .null, .null, .null, .null, .null, .null, .int 0, .int 0, .int 0, .int 0, .int 0]) := es2
  clear es2
  replace i2 := fun i (h : i < o) => (g i (by omega)).trans (i2 i h)
  replace he1 := (g (o + 1) (by omega)).trans he1
  replace he2 := (g (o + 2) (by omega)).trans he2
  replace he3 := (g (o + 3) (by omega)).trans he3
  replace he4 := (g (o + 4) (by omega)).trans he4
  replace he5 := (g (o + 5) (by omega)).trans he5
  replace he6 := (g (o + 6) (by omega)).trans he6
  refine C_aload_n hC 0 rfl dX10_init_58 ?_
  refine C_sipush hC (d := dX10_init_59) rfl ?_
  refine D_newI (N := o + 7) (k := 6) (n := 1248) hC 208 dX10_init_62 ac_I rfl (by decide) (by rw [hr]; exact ⟨Nat.le_of_ble_eq_true rfl, Nat.le_of_ble_eq_true rfl⟩) (fun q7 ea13 ee13 g ha7 he7 => ?_)
  replace i1 := fun i (h : i < o + 1) => (g i (by omega)).1.trans (i1 i h)
  replace i2 := fun i (h : i < o) => (g i (by omega)).2.trans (i2 i h)
  replace ha0 := (g o (by omega)).1.trans ha0
  replace es := (g o (by omega)).2.trans es
  replace ha1 := (g (o + 1) (by omega)).1.trans ha1
  replace he1 := (g (o + 1) (by omega)).2.trans he1
  replace ha2 := (g (o + 2) (by omega)).1.trans ha2
  replace he2 := (g (o + 2) (by omega)).2.trans he2
  replace ha3 := (g (o + 3) (by omega)).1.trans ha3
  replace he3 := (g (o + 3) (by omega)).2.trans he3
  replace ha4 := (g (o + 4) (by omega)).1.trans ha4
  replace he4 := (g (o + 4) (by omega)).2.trans he4
  replace ha5 := (g (o + 5) (by omega)).1.trans ha5
  replace he5 := (g (o + 5) (by omega)).2.trans he5
  replace ha6 := (g (o + 6) (by omega)).1.trans ha6
  replace he6 := (g (o + 6) (by omega)).2.trans he6
  refine D_putF (N := o + 8) hC hI ff_X10_30 (Or.inr ⟨_, rfl⟩) (o := o) (by omega) ha0 es (Nat.le_of_ble_eq_true rfl) dX10_init_64 (fun ee14 g es2 => ?_)
  replace es : ee14 o = .inr (10, [.null, .ref q1, .ref q2, .ref q3, .ref q4, .ref q5, .ref q6, .ref q7, .null, .null, .null, .null, .null, .null, .null, .int 0, .int 0, .int 0, .int 0, .int 0]) := es2
  clear es2
  replace i2 := fun i (h : i < o) => (g i (by omega)).trans (i2 i h)
  replace he1 := (g (o + 1) (by omega)).trans he1
  replace he2 := (g (o + 2) (by omega)).trans he2
  replace he3 := (g (o + 3) (by omega)).trans he3
  replace he4 := (g (o + 4) (by omega)).trans he4
  replace he5 := (g (o + 5) (by omega)).trans he5
  replace he6 := (g (o + 6) (by omega)).trans he6
  replace he7 := (g (o + 7) (by omega)).trans he7
  refine C_aload_n hC 0 rfl dX10_init_67 ?_
  refine C_sipush hC (d := dX10_init_68) rfl ?_
  refine D_newZ (N := o + 8) (k := 7) (n := 1456) hC 208 dX10_init_71 ac_Z rfl (by decide) (by rw [hr]; exact ⟨Nat.le_of_ble_eq_true rfl, Nat.le_of_ble_eq_true rfl⟩) (fun q8 ea15 ee15 g ha8 he8 => ?_)
  replace i1 := fun i (h : i < o + 1) => (g i (by omega)).1.trans (i1 i h)
  replace i2 := fun i (h : i < o) => (g i (by omega)).2.trans (i2 i h)
  replace ha0 := (g o (by omega)).1.trans ha0
  replace es := (g o (by omega)).2.trans es
  replace ha1 := (g (o + 1) (by omega)).1.trans ha1
  replace he1 := (g (o + 1) (by omega)).2.trans he1
  replace ha2 := (g (o + 2) (by omega)).1.trans ha2
  replace he2 := (g (o + 2) (by omega)).2.trans he2
  replace ha3 := (g (o + 3) (by omega)).1.trans ha3
  replace he3 := (g (o + 3) (by omega)).2.trans he3
  replace ha4 := (g (o + 4) (by omega)).1.trans ha4
  replace he4 := (g (o + 4) (by omega)).2.trans he4
  replace ha5 := (g (o + 5) (by omega)).1.trans ha5
  replace he5 := (g (o + 5) (by omega)).2.trans he5
  replace ha6 := (g (o + 6) (by omega)).1.trans ha6
  replace he6 := (g (o + 6) (by omega)).2.trans he6
  replace ha7 := (g (o + 7) (by omega)).1.trans ha7
  replace he7 := (g (o + 7) (by omega)).2.trans he7
  refine D_putF (N := o + 9) hC hI ff_X10_33 (Or.inr ⟨_, rfl⟩) (o := o) (by omega) ha0 es (Nat.le_of_ble_eq_true rfl) dX10_init_73 (fun ee16 g es2 => ?_)
  replace es : ee16 o = .inr (10, [.null, .ref q1, .ref q2, .ref q3, .ref q4, .ref q5, .ref q6, .ref q7, .ref q8, .null, .null, .null, .null, .null, .null, .int 0, .int 0, .int 0, .int 0, .int 0]) := es2
  clear es2
  replace i2 := fun i (h : i < o) => (g i (by omega)).trans (i2 i h)
  replace he1 := (g (o + 1) (by omega)).trans he1
  replace he2 := (g (o + 2) (by omega)).trans he2
  replace he3 := (g (o + 3) (by omega)).trans he3
  replace he4 := (g (o + 4) (by omega)).trans he4
  replace he5 := (g (o + 5) (by omega)).trans he5
  replace he6 := (g (o + 6) (by omega)).trans he6
  replace he7 := (g (o + 7) (by omega)).trans he7
  replace he8 := (g (o + 8) (by omega)).trans he8
  refine C_aload_n hC 0 rfl dX10_init_76 ?_
  refine C_sipush hC (d := dX10_init_77) rfl ?_
  refine D_newZ (N := o + 9) (k := 8) (n := 1664) hC 208 dX10_init_80 ac_Z rfl (by decide) (by rw [hr]; exact ⟨Nat.le_of_ble_eq_true rfl, Nat.le_of_ble_eq_true rfl⟩) (fun q9 ea17 ee17 g ha9 he9 => ?_)
  replace i1 := fun i (h : i < o + 1) => (g i (by omega)).1.trans (i1 i h)
  replace i2 := fun i (h : i < o) => (g i (by omega)).2.trans (i2 i h)
  replace ha0 := (g o (by omega)).1.trans ha0
  replace es := (g o (by omega)).2.trans es
  replace ha1 := (g (o + 1) (by omega)).1.trans ha1
  replace he1 := (g (o + 1) (by omega)).2.trans he1
  replace ha2 := (g (o + 2) (by omega)).1.trans ha2
  replace he2 := (g (o + 2) (by omega)).2.trans he2
  replace ha3 := (g (o + 3) (by omega)).1.trans ha3
  replace he3 := (g (o + 3) (by omega)).2.trans he3
  replace ha4 := (g (o + 4) (by omega)).1.trans ha4
  replace he4 := (g (o + 4) (by omega)).2.trans he4
  replace ha5 := (g (o + 5) (by omega)).1.trans ha5
  replace he5 := (g (o + 5) (by omega)).2.trans he5
  replace ha6 := (g (o + 6) (by omega)).1.trans ha6
  replace he6 := (g (o + 6) (by omega)).2.trans he6
  replace ha7 := (g (o + 7) (by omega)).1.trans ha7
  replace he7 := (g (o + 7) (by omega)).2.trans he7
  replace ha8 := (g (o + 8) (by omega)).1.trans ha8
  replace he8 := (g (o + 8) (by omega)).2.trans he8
  refine D_putF (N := o + 10) hC hI ff_X10_37 (Or.inr ⟨_, rfl⟩) (o := o) (by omega) ha0 es (Nat.le_of_ble_eq_true rfl) dX10_init_82 (fun ee18 g es2 => ?_)
  replace es : ee18 o = .inr (10, [.null, .ref q1, .ref q2, .ref q3, .ref q4, .ref q5, .ref q6, .ref q7, .ref q8, .ref q9, .null, .null, .null, .null, .null, .int 0, .int 0, .int 0, .int 0, .int 0]) := es2
  clear es2
  replace i2 := fun i (h : i < o) => (g i (by omega)).trans (i2 i h)
  replace he1 := (g (o + 1) (by omega)).trans he1
  replace he2 := (g (o + 2) (by omega)).trans he2
  replace he3 := (g (o + 3) (by omega)).trans he3
  replace he4 := (g (o + 4) (by omega)).trans he4
  replace he5 := (g (o + 5) (by omega)).trans he5
  replace he6 := (g (o + 6) (by omega)).trans he6
  replace he7 := (g (o + 7) (by omega)).trans he7
  replace he8 := (g (o + 8) (by omega)).trans he8
  replace he9 := (g (o + 9) (by omega)).trans he9
  refine C_aload_n hC 0 rfl dX10_init_85 ?_
  refine C_sipush hC (d := dX10_init_86) rfl ?_
  refine D_newZ (N := o + 10) (k := 9) (n := 1872) hC 208 dX10_init_89 ac_Z rfl (by decide) (by rw [hr]; exact ⟨Nat.le_of_ble_eq_true rfl, Nat.le_of_ble_eq_true rfl⟩) (fun q10 ea19 ee19 g ha10 he10 => ?_)
  replace i1 := fun i (h : i < o + 1) => (g i (by omega)).1.trans (i1 i h)
  replace i2 := fun i (h : i < o) => (g i (by omega)).2.trans (i2 i h)
  replace ha0 := (g o (by omega)).1.trans ha0
  replace es := (g o (by omega)).2.trans es
  replace ha1 := (g (o + 1) (by omega)).1.trans ha1
  replace he1 := (g (o + 1) (by omega)).2.trans he1
  replace ha2 := (g (o + 2) (by omega)).1.trans ha2
  replace he2 := (g (o + 2) (by omega)).2.trans he2
  replace ha3 := (g (o + 3) (by omega)).1.trans ha3
  replace he3 := (g (o + 3) (by omega)).2.trans he3
  replace ha4 := (g (o + 4) (by omega)).1.trans ha4
  replace he4 := (g (o + 4) (by omega)).2.trans he4
  replace ha5 := (g (o + 5) (by omega)).1.trans ha5
  replace he5 := (g (o + 5) (by omega)).2.trans he5
  replace ha6 := (g (o + 6) (by omega)).1.trans ha6
  replace he6 := (g (o + 6) (by omega)).2.trans he6
  replace ha7 := (g (o + 7) (by omega)).1.trans ha7
  replace he7 := (g (o + 7) (by omega)).2.trans he7
  replace ha8 := (g (o + 8) (by omega)).1.trans ha8
  replace he8 := (g (o + 8) (by omega)).2.trans he8
  replace ha9 := (g (o + 9) (by omega)).1.trans ha9
  replace he9 := (g (o + 9) (by omega)).2.trans he9
  refine D_putF (N := o + 11) hC hI ff_X10_40 (Or.inr ⟨_, rfl⟩) (o := o) (by omega) ha0 es (Nat.le_of_ble_eq_true rfl) dX10_init_91 (fun ee20 g es2 => ?_)
  replace es : ee20 o = .inr (10, [.null, .ref q1, .ref q2, .ref q3, .ref q4, .ref q5, .ref q6, .ref q7, .ref q8, .ref q9, .ref q10, .null, .null, .null, .null, .int 0, .int 0, .int 0, .int 0, .int 0]) := es2
  clear es2
  replace i2 := fun i (h : i < o) => (g i (by omega)).trans (i2 i h)
  replace he1 := (g (o + 1) (by omega)).trans he1
  replace he2 := (g (o + 2) (by omega)).trans he2
  replace he3 := (g (o + 3) (by omega)).trans he3
  replace he4 := (g (o + 4) (by omega)).trans he4
  replace he5 := (g (o + 5) (by omega)).trans he5
  replace he6 := (g (o + 6) (by omega)).trans he6
  replace he7 := (g (o + 7) (by omega)).trans he7
  replace he8 := (g (o + 8) (by omega)).trans he8
  replace he9 := (g (o + 9) (by omega)).trans he9
  replace he10 := (g (o + 10) (by omega)).trans he10
  refine C_aload_n hC 0 rfl dX10_init_94 ?_
  refine C_sipush hC (d := dX10_init_95) rfl ?_
  refine D_newZ (N := o + 11) (k := 10) (n := 2080) hC 208 dX10_init_98 ac_Z rfl (by decide) (by rw [hr]; exact ⟨Nat.le_of_ble_eq_true rfl, Nat.le_of_ble_eq_true rfl⟩) (fun q11 ea21 ee21 g ha11 he11 => ?_)
  replace i1 := fun i (h : i < o + 1) => (g i (by omega)).1.trans (i1 i h)
  replace i2 := fun i (h : i < o) => (g i (by omega)).2.trans (i2 i h)
  replace ha0 := (g o (by omega)).1.trans ha0
  replace es := (g o (by omega)).2.trans es
  replace ha1 := (g (o + 1) (by omega)).1.trans ha1
  replace he1 := (g (o + 1) (by omega)).2.trans he1
  replace ha2 := (g (o + 2) (by omega)).1.trans ha2
  replace he2 := (g (o + 2) (by omega)).2.trans he2
  replace ha3 := (g (o + 3) (by omega)).1.trans ha3
  replace he3 := (g (o + 3) (by omega)).2.trans he3
  replace ha4 := (g (o + 4) (by omega)).1.trans ha4
  replace he4 := (g (o + 4) (by omega)).2.trans he4
  replace ha5 := (g (o + 5) (by omega)).1.trans ha5
  replace he5 := (g (o + 5) (by omega)).2.trans he5
  replace ha6 := (g (o + 6) (by omega)).1.trans ha6
  replace he6 := (g (o + 6) (by omega)).2.trans he6
  replace ha7 := (g (o + 7) (by omega)).1.trans ha7
  replace he7 := (g (o + 7) (by omega)).2.trans he7
  replace ha8 := (g (o + 8) (by omega)).1.trans ha8
  replace he8 := (g (o + 8) (by omega)).2.trans he8
  replace ha9 := (g (o + 9) (by omega)).1.trans ha9
  replace he9 := (g (o + 9) (by omega)).2.trans he9
  replace ha10 := (g (o + 10) (by omega)).1.trans ha10
  replace he10 := (g (o + 10) (by omega)).2.trans he10
  refine D_putF (N := o + 12) hC hI ff_X10_43 (Or.inr ⟨_, rfl⟩) (o := o) (by omega) ha0 es (Nat.le_of_ble_eq_true rfl) dX10_init_100 (fun ee22 g es2 => ?_)
  replace es : ee22 o = .inr (10, [.null, .ref q1, .ref q2, .ref q3, .ref q4, .ref q5, .ref q6, .ref q7, .ref q8, .ref q9, .ref q10, .ref q11, .null, .null, .null, .int 0, .int 0, .int 0, .int 0, .int 0]) := es2
  clear es2
  replace i2 := fun i (h : i < o) => (g i (by omega)).trans (i2 i h)
  replace he1 := (g (o + 1) (by omega)).trans he1
  replace he2 := (g (o + 2) (by omega)).trans he2
  replace he3 := (g (o + 3) (by omega)).trans he3
  replace he4 := (g (o + 4) (by omega)).trans he4
  replace he5 := (g (o + 5) (by omega)).trans he5
  replace he6 := (g (o + 6) (by omega)).trans he6
  replace he7 := (g (o + 7) (by omega)).trans he7
  replace he8 := (g (o + 8) (by omega)).trans he8
  replace he9 := (g (o + 9) (by omega)).trans he9
  replace he10 := (g (o + 10) (by omega)).trans he10
  replace he11 := (g (o + 11) (by omega)).trans he11
  refine C_aload_n hC 0 rfl dX10_init_103 ?_
  refine C_sipush hC (d := dX10_init_104) rfl ?_
  refine D_newI (N := o + 12) (k := 11) (n := 2288) hC 1664 dX10_init_107 ac_I rfl (by decide) (by rw [hr]; exact ⟨Nat.le_of_ble_eq_true rfl, Nat.le_of_ble_eq_true rfl⟩) (fun q12 ea23 ee23 g ha12 he12 => ?_)
  replace i1 := fun i (h : i < o + 1) => (g i (by omega)).1.trans (i1 i h)
  replace i2 := fun i (h : i < o) => (g i (by omega)).2.trans (i2 i h)
  replace ha0 := (g o (by omega)).1.trans ha0
  replace es := (g o (by omega)).2.trans es
  replace ha1 := (g (o + 1) (by omega)).1.trans ha1
  replace he1 := (g (o + 1) (by omega)).2.trans he1
  replace ha2 := (g (o + 2) (by omega)).1.trans ha2
  replace he2 := (g (o + 2) (by omega)).2.trans he2
  replace ha3 := (g (o + 3) (by omega)).1.trans ha3
  replace he3 := (g (o + 3) (by omega)).2.trans he3
  replace ha4 := (g (o + 4) (by omega)).1.trans ha4
  replace he4 := (g (o + 4) (by omega)).2.trans he4
  replace ha5 := (g (o + 5) (by omega)).1.trans ha5
  replace he5 := (g (o + 5) (by omega)).2.trans he5
  replace ha6 := (g (o + 6) (by omega)).1.trans ha6
  replace he6 := (g (o + 6) (by omega)).2.trans he6
  replace ha7 := (g (o + 7) (by omega)).1.trans ha7
  replace he7 := (g (o + 7) (by omega)).2.trans he7
  replace ha8 := (g (o + 8) (by omega)).1.trans ha8
  replace he8 := (g (o + 8) (by omega)).2.trans he8
  replace ha9 := (g (o + 9) (by omega)).1.trans ha9
  replace he9 := (g (o + 9) (by omega)).2.trans he9
  replace ha10 := (g (o + 10) (by omega)).1.trans ha10
  replace he10 := (g (o + 10) (by omega)).2.trans he10
  replace ha11 := (g (o + 11) (by omega)).1.trans ha11
  replace he11 := (g (o + 11) (by omega)).2.trans he11
  refine D_putF (N := o + 13) hC hI ff_X10_46 (Or.inr ⟨_, rfl⟩) (o := o) (by omega) ha0 es (Nat.le_of_ble_eq_true rfl) dX10_init_109 (fun ee24 g es2 => ?_)
  replace es : ee24 o = .inr (10, [.null, .ref q1, .ref q2, .ref q3, .ref q4, .ref q5, .ref q6, .ref q7, .ref q8, .ref q9, .ref q10, .ref q11, .ref q12, .null, .null, .int 0, .int 0, .int 0, .int 0, .int 0]) := es2
  clear es2
  replace i2 := fun i (h : i < o) => (g i (by omega)).trans (i2 i h)
  replace he1 := (g (o + 1) (by omega)).trans he1
  replace he2 := (g (o + 2) (by omega)).trans he2
  replace he3 := (g (o + 3) (by omega)).trans he3
  replace he4 := (g (o + 4) (by omega)).trans he4
  replace he5 := (g (o + 5) (by omega)).trans he5
  replace he6 := (g (o + 6) (by omega)).trans he6
  replace he7 := (g (o + 7) (by omega)).trans he7
  replace he8 := (g (o + 8) (by omega)).trans he8
  replace he9 := (g (o + 9) (by omega)).trans he9
  replace he10 := (g (o + 10) (by omega)).trans he10
  replace he11 := (g (o + 11) (by omega)).trans he11
  replace he12 := (g (o + 12) (by omega)).trans he12
  refine C_aload_n hC 0 rfl dX10_init_112 ?_
  refine C_sipush hC (d := dX10_init_113) rfl ?_
  refine D_newI (N := o + 13) (k := 12) (n := 3952) hC 208 dX10_init_116 ac_I rfl (by decide) (by rw [hr]; exact ⟨Nat.le_of_ble_eq_true rfl, Nat.le_of_ble_eq_true rfl⟩) (fun q13 ea25 ee25 g ha13 he13 => ?_)
  replace i1 := fun i (h : i < o + 1) => (g i (by omega)).1.trans (i1 i h)
  replace i2 := fun i (h : i < o) => (g i (by omega)).2.trans (i2 i h)
  replace ha0 := (g o (by omega)).1.trans ha0
  replace es := (g o (by omega)).2.trans es
  replace ha1 := (g (o + 1) (by omega)).1.trans ha1
  replace he1 := (g (o + 1) (by omega)).2.trans he1
  replace ha2 := (g (o + 2) (by omega)).1.trans ha2
  replace he2 := (g (o + 2) (by omega)).2.trans he2
  replace ha3 := (g (o + 3) (by omega)).1.trans ha3
  replace he3 := (g (o + 3) (by omega)).2.trans he3
  replace ha4 := (g (o + 4) (by omega)).1.trans ha4
  replace he4 := (g (o + 4) (by omega)).2.trans he4
  replace ha5 := (g (o + 5) (by omega)).1.trans ha5
  replace he5 := (g (o + 5) (by omega)).2.trans he5
  replace ha6 := (g (o + 6) (by omega)).1.trans ha6
  replace he6 := (g (o + 6) (by omega)).2.trans he6
  replace ha7 := (g (o + 7) (by omega)).1.trans ha7
  replace he7 := (g (o + 7) (by omega)).2.trans he7
  replace ha8 := (g (o + 8) (by omega)).1.trans ha8
  replace he8 := (g (o + 8) (by omega)).2.trans he8
  replace ha9 := (g (o + 9) (by omega)).1.trans ha9
  replace he9 := (g (o + 9) (by omega)).2.trans he9
  replace ha10 := (g (o + 10) (by omega)).1.trans ha10
  replace he10 := (g (o + 10) (by omega)).2.trans he10
  replace ha11 := (g (o + 11) (by omega)).1.trans ha11
  replace he11 := (g (o + 11) (by omega)).2.trans he11
  replace ha12 := (g (o + 12) (by omega)).1.trans ha12
  replace he12 := (g (o + 12) (by omega)).2.trans he12
  refine D_putF (N := o + 14) hC hI ff_X10_49 (Or.inr ⟨_, rfl⟩) (o := o) (by omega) ha0 es (Nat.le_of_ble_eq_true rfl) dX10_init_118 (fun ee26 g es2 => ?_)
  replace es : ee26 o = .inr (10, [.null, .ref q1, .ref q2, .ref q3, .ref q4, .ref q5, .ref q6, .ref q7, .ref q8, .ref q9, .ref q10, .ref q11, .ref q12, .ref q13, .null, .int 0, .int 0, .int 0, .int 0, .int 0]) := es2
  clear es2
  replace i2 := fun i (h : i < o) => (g i (by omega)).trans (i2 i h)
  replace he1 := (g (o + 1) (by omega)).trans he1
  replace he2 := (g (o + 2) (by omega)).trans he2
  replace he3 := (g (o + 3) (by omega)).trans he3
  replace he4 := (g (o + 4) (by omega)).trans he4
  replace he5 := (g (o + 5) (by omega)).trans he5
  replace he6 := (g (o + 6) (by omega)).trans he6
  replace he7 := (g (o + 7) (by omega)).trans he7
  replace he8 := (g (o + 8) (by omega)).trans he8
  replace he9 := (g (o + 9) (by omega)).trans he9
  replace he10 := (g (o + 10) (by omega)).trans he10
  replace he11 := (g (o + 11) (by omega)).trans he11
  replace he12 := (g (o + 12) (by omega)).trans he12
  replace he13 := (g (o + 13) (by omega)).trans he13
  refine C_aload_n hC 0 rfl dX10_init_121 ?_
  refine C_sipush hC (d := dX10_init_122) rfl ?_
  refine D_newI (N := o + 14) (k := 13) (n := 4160) hC 208 dX10_init_125 ac_I rfl (by decide) (by rw [hr]; exact ⟨Nat.le_of_ble_eq_true rfl, Nat.le_of_ble_eq_true rfl⟩) (fun q14 ea27 ee27 g ha14 he14 => ?_)
  replace i1 := fun i (h : i < o + 1) => (g i (by omega)).1.trans (i1 i h)
  replace i2 := fun i (h : i < o) => (g i (by omega)).2.trans (i2 i h)
  replace ha0 := (g o (by omega)).1.trans ha0
  replace es := (g o (by omega)).2.trans es
  replace ha1 := (g (o + 1) (by omega)).1.trans ha1
  replace he1 := (g (o + 1) (by omega)).2.trans he1
  replace ha2 := (g (o + 2) (by omega)).1.trans ha2
  replace he2 := (g (o + 2) (by omega)).2.trans he2
  replace ha3 := (g (o + 3) (by omega)).1.trans ha3
  replace he3 := (g (o + 3) (by omega)).2.trans he3
  replace ha4 := (g (o + 4) (by omega)).1.trans ha4
  replace he4 := (g (o + 4) (by omega)).2.trans he4
  replace ha5 := (g (o + 5) (by omega)).1.trans ha5
  replace he5 := (g (o + 5) (by omega)).2.trans he5
  replace ha6 := (g (o + 6) (by omega)).1.trans ha6
  replace he6 := (g (o + 6) (by omega)).2.trans he6
  replace ha7 := (g (o + 7) (by omega)).1.trans ha7
  replace he7 := (g (o + 7) (by omega)).2.trans he7
  replace ha8 := (g (o + 8) (by omega)).1.trans ha8
  replace he8 := (g (o + 8) (by omega)).2.trans he8
  replace ha9 := (g (o + 9) (by omega)).1.trans ha9
  replace he9 := (g (o + 9) (by omega)).2.trans he9
  replace ha10 := (g (o + 10) (by omega)).1.trans ha10
  replace he10 := (g (o + 10) (by omega)).2.trans he10
  replace ha11 := (g (o + 11) (by omega)).1.trans ha11
  replace he11 := (g (o + 11) (by omega)).2.trans he11
  replace ha12 := (g (o + 12) (by omega)).1.trans ha12
  replace he12 := (g (o + 12) (by omega)).2.trans he12
  replace ha13 := (g (o + 13) (by omega)).1.trans ha13
  replace he13 := (g (o + 13) (by omega)).2.trans he13
  refine D_putF (N := o + 15) hC hI ff_X10_52 (Or.inr ⟨_, rfl⟩) (o := o) (by omega) ha0 es (Nat.le_of_ble_eq_true rfl) dX10_init_127 (fun ee28 g es2 => ?_)
  replace es : ee28 o = .inr (10, [.null, .ref q1, .ref q2, .ref q3, .ref q4, .ref q5, .ref q6, .ref q7, .ref q8, .ref q9, .ref q10, .ref q11, .ref q12, .ref q13, .ref q14, .int 0, .int 0, .int 0, .int 0, .int 0]) := es2
  clear es2
  replace i2 := fun i (h : i < o) => (g i (by omega)).trans (i2 i h)
  replace he1 := (g (o + 1) (by omega)).trans he1
  replace he2 := (g (o + 2) (by omega)).trans he2
  replace he3 := (g (o + 3) (by omega)).trans he3
  replace he4 := (g (o + 4) (by omega)).trans he4
  replace he5 := (g (o + 5) (by omega)).trans he5
  replace he6 := (g (o + 6) (by omega)).trans he6
  replace he7 := (g (o + 7) (by omega)).trans he7
  replace he8 := (g (o + 8) (by omega)).trans he8
  replace he9 := (g (o + 9) (by omega)).trans he9
  replace he10 := (g (o + 10) (by omega)).trans he10
  replace he11 := (g (o + 11) (by omega)).trans he11
  replace he12 := (g (o + 12) (by omega)).trans he12
  replace he13 := (g (o + 13) (by omega)).trans he13
  replace he14 := (g (o + 14) (by omega)).trans he14
  refine C_aload_n hC 0 rfl dX10_init_130 ?_
  refine C_aload_n hC 1 rfl dX10_init_131 ?_
  refine D_putF (N := o + 15) hC hI ff_X10_55 (Or.inl ⟨_, rfl⟩) (o := o) (by omega) ha0 es (Nat.le_of_ble_eq_true rfl) dX10_init_132 (fun ee29 g es2 => ?_)
  replace es : ee29 o = .inr (10, [.ref t1, .ref q1, .ref q2, .ref q3, .ref q4, .ref q5, .ref q6, .ref q7, .ref q8, .ref q9, .ref q10, .ref q11, .ref q12, .ref q13, .ref q14, .int 0, .int 0, .int 0, .int 0, .int 0]) := es2
  clear es2
  replace i2 := fun i (h : i < o) => (g i (by omega)).trans (i2 i h)
  replace he1 := (g (o + 1) (by omega)).trans he1
  replace he2 := (g (o + 2) (by omega)).trans he2
  replace he3 := (g (o + 3) (by omega)).trans he3
  replace he4 := (g (o + 4) (by omega)).trans he4
  replace he5 := (g (o + 5) (by omega)).trans he5
  replace he6 := (g (o + 6) (by omega)).trans he6
  replace he7 := (g (o + 7) (by omega)).trans he7
  replace he8 := (g (o + 8) (by omega)).trans he8
  replace he9 := (g (o + 9) (by omega)).trans he9
  replace he10 := (g (o + 10) (by omega)).trans he10
  replace he11 := (g (o + 11) (by omega)).trans he11
  replace he12 := (g (o + 12) (by omega)).trans he12
  replace he13 := (g (o + 13) (by omega)).trans he13
  replace he14 := (g (o + 14) (by omega)).trans he14
  refine C_iconst hC dX10_init_135 ?_
  refine C_istore_n hC (lv' := [(2, .int (I 0)), (0, .ref a0), (1, .ref t1)]) (Nat.le_of_ble_eq_true rfl) rfl dX10_init_136 ?_
  have hloop : ∀ (r i : Nat), i + r = 208 → ∀ ee', (∀ x, x ≠ o + 13 → ee' x = ee29 x) → ee' (o + 13) = .inl ((gB G).2.1, 208, .inl (fun j => if j < i then I (j : Int) else 0)) → (∀ ee', (∀ x, x ≠ o + 13 → ee' x = ee29 x) → ee' (o + 13) = .inl ((gB G).2.1, 208, .inl (fun j => if j < 208 then I (j : Int) else 0)) → VC G md_X10_init 14 4368 (o + 15) ea27 ee' 157 [(2, .int (I ((208 : Nat) : Int))), (0, .ref a0), (1, .ref t1)] []) → VC G md_X10_init 14 4368 (o + 15) ea27 ee' 137 [(2, .int (I (i : Int))), (0, .ref a0), (1, .ref t1)] [] := by
    intro r
    induction r with
    | zero =>
      intro i hi ee' g he' kk
      have hi' : i = 208 := by omega
      subst hi'
      refine C_iload_n hC 0 rfl dX10_init_137 ?_
      refine C_sipush hC (d := dX10_init_138) rfl ?_
      exact C_icmp_ge hC 157 rfl dX10_init_141 ⟨⟨by omega, by omega⟩, ⟨by omega, by omega⟩, fun z => kk ee' g he', fun z => absurd z (by omega)⟩
    | succ r ih =>
      intro i hi ee' g he' kk
      refine C_iload_n hC 0 rfl dX10_init_137 ?_
      refine C_sipush hC (d := dX10_init_138) rfl ?_
      refine C_icmp_ge hC 157 rfl dX10_init_141 ⟨⟨by omega, by omega⟩, ⟨by omega, by omega⟩, fun z => absurd z (by omega), fun z => ?_⟩
      refine C_aload_n hC 1 rfl dX10_init_144 ?_
      refine C_get hC fr_X10_49 (o := o) (by omega) ha0 ((g o (by omega)).trans es) (v := .ref q13) rfl dX10_init_145 ?_
      refine C_iload_n hC 0 rfl dX10_init_148 ?_
      refine C_iload_n hC 0 rfl dX10_init_149 ?_
      refine D_ast hC (o := o + 13) (by omega) ha13 he' ⟨by omega, z⟩ (by decide) dX10_init_150 (fun ee9 g9 e9 => ?_)
      refine C_iinc hC (lv' := [(2, .int (I ((i : Int) + 1))), (0, .ref a0), (1, .ref t1)]) 0 rfl (Nat.le_of_ble_eq_true rfl) rfl dX10_init_151 ?_
      refine C_goto hC 137 rfl dX10_init_154 ?_
      exact ih (i + 1) (by omega) ee9 (fun x hx => (g9 x hx).trans (g x hx)) (by rw [e9, Int.toNat_natCast, upd_step (f := fun j => I (j : Int))]) kk
  have e0 : (fun _ => 0 : Nat → Int32) = fun j : Nat => if j < 0 then I (j : Int) else 0 := by funext j; rw [if_neg (Nat.not_lt_zero j)]
  have he13b := he13
  rw [e0] at he13b
  refine hloop 208 0 rfl ee29 (fun _ _ => rfl) he13b (fun ee9 g he13c => ?_)
  replace i2 := fun i (h : i < o) => (g i (by omega)).trans (i2 i h)
  replace es := (g o (by omega)).trans es
  replace he1 := (g (o + 1) (by omega)).trans he1
  replace he2 := (g (o + 2) (by omega)).trans he2
  replace he3 := (g (o + 3) (by omega)).trans he3
  replace he4 := (g (o + 4) (by omega)).trans he4
  replace he5 := (g (o + 5) (by omega)).trans he5
  replace he6 := (g (o + 6) (by omega)).trans he6
  replace he7 := (g (o + 7) (by omega)).trans he7
  replace he8 := (g (o + 8) (by omega)).trans he8
  replace he9 := (g (o + 9) (by omega)).trans he9
  replace he10 := (g (o + 10) (by omega)).trans he10
  replace he11 := (g (o + 11) (by omega)).trans he11
  replace he12 := (g (o + 12) (by omega)).trans he12
  replace he14 := (g (o + 14) (by omega)).trans he14
  clear he13
  have he13 := he13c
  refine C_vret (N := o + 15) hC hR rfl (by rw [hr]; exact ⟨Nat.le_refl _, Nat.le_refl _⟩) dX10_init_157 ⟨by omega, i1, i2, ?_⟩
  show Bl_X10 _ _ _ _ t1
  unfold Bl_X10
  rw [ha1, ha2, ha3, ha4, ha5, ha6, ha7, ha8, ha9, ha10, ha11, ha12, ha13, ha14]
  exact ⟨es, he1, he2, he3, he4, he5, he6, he7, he8, he9, he10, he11, he12, he13, he14⟩

def Bl_X8 (B : WB) (ea : Nat → Nat) (ee : Nat → va_E) (o : Nat) : Prop := ee o = .inr (8, [.ref (ea (o + 1)), .ref (ea (o + 2)), .ref (ea (o + 3)), .ref (ea (o + 4)), .ref (ea (o + 6)), .int (I 1)]) ∧ ee (o + 1) = .inl (B.2.1, 64, .inl (fun j => if j < 8 then I (-1) else 0)) ∧ ee (o + 2) = .inl (B.2.1, 8, .inl (fun j => if j < 1 then I 8 else 0)) ∧ ee (o + 3) = .inl (B.2.1, 8, .inl (fun j => if j < 8 then I (-1) else 0)) ∧ Bl_X5 B ea ee (o + 4) ∧ Bl_X5 B ea ee (o + 6)
theorem Bm_X8 {B : WB} {ea ea' : Nat → Nat} {ee ee' : Nat → va_E} {o : Nat} (g : ∀ i, o ≤ i → i < o + 8 → ea' i = ea i ∧ ee' i = ee i) (h : Bl_X8 B ea ee o) : Bl_X8 B ea' ee' o := by
  unfold Bl_X8 at h ⊢
  obtain ⟨h0, h1, h2, h3, h4, h5⟩ := h
  rw [(g (o + 1) (by omega) (by omega)).1, (g (o + 2) (by omega) (by omega)).1, (g (o + 3) (by omega) (by omega)).1, (g (o + 4) (by omega) (by omega)).1, (g (o + 6) (by omega) (by omega)).1]
  exact ⟨(g o (by omega) (by omega)).2.trans h0, (g (o + 1) (by omega) (by omega)).2.trans h1, (g (o + 2) (by omega) (by omega)).2.trans h2, (g (o + 3) (by omega) (by omega)).2.trans h3, Bm_X5 (fun i p1 p2 => g i (by omega) (by omega)) h4, Bm_X5 (fun i p1 p2 => g i (by omega) (by omega)) h5⟩
set_option maxRecDepth 20000 in
set_option maxHeartbeats 4000000 in
theorem ct_X8 {B : WB} {l : Launch} {o a0 : Nat} {ea : Nat → Nat} {ee : Nat → va_E} (hfl : l.stackTraces = false) (ha0 : ea o = a0) (es : ee o = .inr (8, [.null, .null, .null, .null, .null, .int 0])) : OkC B l md_X8_init 7 500 [.ref a0] (o + 1) ea ee (QB (fun ea ee => Bl_X8 B ea ee o) o 7 ea ee) := by
  refine OkC_of mk_X8_init hfl (Nat.le_of_ble_eq_true rfl) (fun G hC hR hB hr hg hI => ?_)
  subst hB; subst hg
  replace hI := hI rfl
  have i1 : ∀ i, i < o + 1 → ea i = ea i := fun _ _ => rfl
  have i2 : ∀ i, i < o → ee i = ee i := fun _ _ => rfl
  show VC G md_X8_init 0 0 (o + 1) ea ee 0 [(0, .ref a0)] []
  refine C_aload_n hC 0 rfl dX8_init_0 ?_
  refine C_oinit hC oi_X8_3 dX8_init_1 (R8_of hr) (Nat.le_of_ble_eq_true rfl) ?_
  refine C_aload_n hC 0 rfl dX8_init_4 ?_
  refine C_bipush hC (d := dX8_init_5) rfl ?_
  refine D_newI (N := o + 1) (k := 0) (n := 0) hC 64 dX8_init_7 ac_I rfl (by decide) (by rw [hr]; exact ⟨Nat.le_of_ble_eq_true rfl, Nat.le_of_ble_eq_true rfl⟩) (fun q1 ea1 ee1 g ha1 he1 => ?_)
  replace i1 := fun i (h : i < o + 1) => (g i (by omega)).1.trans (i1 i h)
  replace i2 := fun i (h : i < o) => (g i (by omega)).2.trans (i2 i h)
  replace ha0 := (g o (by omega)).1.trans ha0
  replace es := (g o (by omega)).2.trans es
  refine D_putF (N := o + 2) hC hI ff_X8_9 (Or.inr ⟨_, rfl⟩) (o := o) (by omega) ha0 es (Nat.le_of_ble_eq_true rfl) dX8_init_9 (fun ee2 g es2 => ?_)
  replace es : ee2 o = .inr (8, [.ref q1, .null, .null, .null, .null, .int 0]) := es2
  clear es2
  replace i2 := fun i (h : i < o) => (g i (by omega)).trans (i2 i h)
  replace he1 := (g (o + 1) (by omega)).trans he1
  refine C_aload_n hC 0 rfl dX8_init_12 ?_
  refine C_bipush hC (d := dX8_init_13) rfl ?_
  refine D_newI (N := o + 2) (k := 1) (n := 64) hC 8 dX8_init_15 ac_I rfl (by decide) (by rw [hr]; exact ⟨Nat.le_of_ble_eq_true rfl, Nat.le_of_ble_eq_true rfl⟩) (fun q2 ea3 ee3 g ha2 he2 => ?_)
  replace i1 := fun i (h : i < o + 1) => (g i (by omega)).1.trans (i1 i h)
  replace i2 := fun i (h : i < o) => (g i (by omega)).2.trans (i2 i h)
  replace ha0 := (g o (by omega)).1.trans ha0
  replace es := (g o (by omega)).2.trans es
  replace ha1 := (g (o + 1) (by omega)).1.trans ha1
  replace he1 := (g (o + 1) (by omega)).2.trans he1
  refine D_putF (N := o + 3) hC hI ff_X8_15 (Or.inr ⟨_, rfl⟩) (o := o) (by omega) ha0 es (Nat.le_of_ble_eq_true rfl) dX8_init_17 (fun ee4 g es2 => ?_)
  replace es : ee4 o = .inr (8, [.ref q1, .ref q2, .null, .null, .null, .int 0]) := es2
  clear es2
  replace i2 := fun i (h : i < o) => (g i (by omega)).trans (i2 i h)
  replace he1 := (g (o + 1) (by omega)).trans he1
  replace he2 := (g (o + 2) (by omega)).trans he2
  refine C_aload_n hC 0 rfl dX8_init_20 ?_
  refine C_bipush hC (d := dX8_init_21) rfl ?_
  refine D_newI (N := o + 3) (k := 2) (n := 72) hC 8 dX8_init_23 ac_I rfl (by decide) (by rw [hr]; exact ⟨Nat.le_of_ble_eq_true rfl, Nat.le_of_ble_eq_true rfl⟩) (fun q3 ea5 ee5 g ha3 he3 => ?_)
  replace i1 := fun i (h : i < o + 1) => (g i (by omega)).1.trans (i1 i h)
  replace i2 := fun i (h : i < o) => (g i (by omega)).2.trans (i2 i h)
  replace ha0 := (g o (by omega)).1.trans ha0
  replace es := (g o (by omega)).2.trans es
  replace ha1 := (g (o + 1) (by omega)).1.trans ha1
  replace he1 := (g (o + 1) (by omega)).2.trans he1
  replace ha2 := (g (o + 2) (by omega)).1.trans ha2
  replace he2 := (g (o + 2) (by omega)).2.trans he2
  refine D_putF (N := o + 4) hC hI ff_X8_18 (Or.inr ⟨_, rfl⟩) (o := o) (by omega) ha0 es (Nat.le_of_ble_eq_true rfl) dX8_init_25 (fun ee6 g es2 => ?_)
  replace es : ee6 o = .inr (8, [.ref q1, .ref q2, .ref q3, .null, .null, .int 0]) := es2
  clear es2
  replace i2 := fun i (h : i < o) => (g i (by omega)).trans (i2 i h)
  replace he1 := (g (o + 1) (by omega)).trans he1
  replace he2 := (g (o + 2) (by omega)).trans he2
  replace he3 := (g (o + 3) (by omega)).trans he3
  refine C_aload_n hC 0 rfl dX8_init_28 ?_
  refine D_new (N := o + 4) (k := 3) (n := 80) hC nw_X8_21 dX8_init_29 (by rw [hr]; exact ⟨Nat.le_of_ble_eq_true rfl, Nat.le_of_ble_eq_true rfl⟩) (fun q4 ea7 ee7 g ha4 he4 => ?_)
  replace i1 := fun i (h : i < o + 1) => (g i (by omega)).1.trans (i1 i h)
  replace i2 := fun i (h : i < o) => (g i (by omega)).2.trans (i2 i h)
  replace ha0 := (g o (by omega)).1.trans ha0
  replace es := (g o (by omega)).2.trans es
  replace ha1 := (g (o + 1) (by omega)).1.trans ha1
  replace he1 := (g (o + 1) (by omega)).2.trans he1
  replace ha2 := (g (o + 2) (by omega)).1.trans ha2
  replace he2 := (g (o + 2) (by omega)).2.trans he2
  replace ha3 := (g (o + 3) (by omega)).1.trans ha3
  replace he3 := (g (o + 3) (by omega)).2.trans he3
  refine C_dup hC rfl dX8_init_32 ?_
  refine C_init (N := o + 5) (k := 4) (n := 82) (kc := 1) (nc := 208) hC (As := []) li_X8_23 dX8_init_33 (d0 := md_X8_init.2.2.2.2) (by decide) (Rm_of hr) rfl (Nat.le_of_ble_eq_true rfl) (by rw [hr]; exact ⟨Nat.le_of_ble_eq_true rfl, Nat.le_of_ble_eq_true rfl⟩) (ct_X5 (o := o + 4) hfl ha4 he4) (fun N8 ea8 ee8 hq => ?_)
  obtain ⟨rfl, g1, g2, hb4⟩ := hq
  have g : Gr (o + 4) _ _ _ _ := fun i h => ⟨g1 i (by omega), g2 i h⟩
  replace i1 := fun i (h : i < o + 1) => (g i (by omega)).1.trans (i1 i h)
  replace i2 := fun i (h : i < o) => (g i (by omega)).2.trans (i2 i h)
  replace ha0 := (g o (by omega)).1.trans ha0
  replace es := (g o (by omega)).2.trans es
  replace ha1 := (g (o + 1) (by omega)).1.trans ha1
  replace he1 := (g (o + 1) (by omega)).2.trans he1
  replace ha2 := (g (o + 2) (by omega)).1.trans ha2
  replace he2 := (g (o + 2) (by omega)).2.trans he2
  replace ha3 := (g (o + 3) (by omega)).1.trans ha3
  replace he3 := (g (o + 3) (by omega)).2.trans he3
  replace ha4 := (g1 (o + 4) (by omega)).trans ha4
  clear he4 g1 g2
  refine D_putF (N := o + 6) hC hI ff_X8_24 (Or.inl ⟨_, rfl⟩) (o := o) (by omega) ha0 es (Nat.le_of_ble_eq_true rfl) dX8_init_36 (fun ee9 g es2 => ?_)
  replace es : ee9 o = .inr (8, [.ref q1, .ref q2, .ref q3, .ref q4, .null, .int 0]) := es2
  clear es2
  replace i2 := fun i (h : i < o) => (g i (by omega)).trans (i2 i h)
  replace he1 := (g (o + 1) (by omega)).trans he1
  replace he2 := (g (o + 2) (by omega)).trans he2
  replace he3 := (g (o + 3) (by omega)).trans he3
  replace hb4 := Bm_X5 (fun i _ h2 => ⟨rfl, g i (by omega)⟩) hb4
  refine C_aload_n hC 0 rfl dX8_init_39 ?_
  refine D_new (N := o + 6) (k := 5) (n := 290) hC nw_X8_21 dX8_init_40 (by rw [hr]; exact ⟨Nat.le_of_ble_eq_true rfl, Nat.le_of_ble_eq_true rfl⟩) (fun q6 ea10 ee10 g ha6 he6 => ?_)
  replace i1 := fun i (h : i < o + 1) => (g i (by omega)).1.trans (i1 i h)
  replace i2 := fun i (h : i < o) => (g i (by omega)).2.trans (i2 i h)
  replace ha0 := (g o (by omega)).1.trans ha0
  replace es := (g o (by omega)).2.trans es
  replace ha1 := (g (o + 1) (by omega)).1.trans ha1
  replace he1 := (g (o + 1) (by omega)).2.trans he1
  replace ha2 := (g (o + 2) (by omega)).1.trans ha2
  replace he2 := (g (o + 2) (by omega)).2.trans he2
  replace ha3 := (g (o + 3) (by omega)).1.trans ha3
  replace he3 := (g (o + 3) (by omega)).2.trans he3
  replace ha4 := (g (o + 4) (by omega)).1.trans ha4
  replace hb4 := Bm_X5 (fun i _ h2 => g i (by omega)) hb4
  refine C_dup hC rfl dX8_init_43 ?_
  refine C_init (N := o + 7) (k := 6) (n := 292) (kc := 1) (nc := 208) hC (As := []) li_X8_23 dX8_init_44 (d0 := md_X8_init.2.2.2.2) (by decide) (Rm_of hr) rfl (Nat.le_of_ble_eq_true rfl) (by rw [hr]; exact ⟨Nat.le_of_ble_eq_true rfl, Nat.le_of_ble_eq_true rfl⟩) (ct_X5 (o := o + 6) hfl ha6 he6) (fun N11 ea11 ee11 hq => ?_)
  obtain ⟨rfl, g1, g2, hb6⟩ := hq
  have g : Gr (o + 6) _ _ _ _ := fun i h => ⟨g1 i (by omega), g2 i h⟩
  replace i1 := fun i (h : i < o + 1) => (g i (by omega)).1.trans (i1 i h)
  replace i2 := fun i (h : i < o) => (g i (by omega)).2.trans (i2 i h)
  replace ha0 := (g o (by omega)).1.trans ha0
  replace es := (g o (by omega)).2.trans es
  replace ha1 := (g (o + 1) (by omega)).1.trans ha1
  replace he1 := (g (o + 1) (by omega)).2.trans he1
  replace ha2 := (g (o + 2) (by omega)).1.trans ha2
  replace he2 := (g (o + 2) (by omega)).2.trans he2
  replace ha3 := (g (o + 3) (by omega)).1.trans ha3
  replace he3 := (g (o + 3) (by omega)).2.trans he3
  replace ha4 := (g (o + 4) (by omega)).1.trans ha4
  replace hb4 := Bm_X5 (fun i _ h2 => g i (by omega)) hb4
  replace ha6 := (g1 (o + 6) (by omega)).trans ha6
  clear he6 g1 g2
  refine D_putF (N := o + 8) hC hI ff_X8_28 (Or.inl ⟨_, rfl⟩) (o := o) (by omega) ha0 es (Nat.le_of_ble_eq_true rfl) dX8_init_47 (fun ee12 g es2 => ?_)
  replace es : ee12 o = .inr (8, [.ref q1, .ref q2, .ref q3, .ref q4, .ref q6, .int 0]) := es2
  clear es2
  replace i2 := fun i (h : i < o) => (g i (by omega)).trans (i2 i h)
  replace he1 := (g (o + 1) (by omega)).trans he1
  replace he2 := (g (o + 2) (by omega)).trans he2
  replace he3 := (g (o + 3) (by omega)).trans he3
  replace hb4 := Bm_X5 (fun i _ h2 => ⟨rfl, g i (by omega)⟩) hb4
  replace hb6 := Bm_X5 (fun i _ h2 => ⟨rfl, g i (by omega)⟩) hb6
  refine C_aload_n hC 0 rfl dX8_init_50 ?_
  refine C_bipush hC (d := dX8_init_51) rfl ?_
  refine C_virt (N := o + 8) hC (As := [.int (I 8)]) lv_X8_31 dX8_init_53 (d0 := md_X8_init.2.2.2.2) (by decide) (Rm_of hr) (o := o) (by omega) ha0 es rfl rfl (Nat.le_of_ble_eq_true rfl) (k := 7) (n := 500) (kc := 0) (nc := 0) (by rw [hr]; exact ⟨Nat.le_of_ble_eq_true rfl, Nat.le_of_ble_eq_true rfl⟩) (ct_addFrame (o := o) hfl (by omega) ha0 ha1 ha2 es he1 he2) (fun N9 ea9 ee8 hq => ?_)
  obtain ⟨rfl, rfl, g, es8, he18, he28⟩ := hq
  replace i2 := fun i (h : i < o) => (g i (by omega) (by omega) (by omega)).trans (i2 i h)
  replace he3 := (g (o + 3) (by omega) (by omega) (by omega)).trans he3
  replace hb4 := Bm_X5 (fun i p1 h2 => ⟨rfl, g i (by omega) (by omega) (by omega)⟩) hb4
  replace hb6 := Bm_X5 (fun i p1 h2 => ⟨rfl, g i (by omega) (by omega) (by omega)⟩) hb6
  clear g es he1 he2
  refine C_iconst hC dX8_init_56 ?_
  refine C_istore_n hC (lv' := [(1, .int (I 0)), (0, .ref a0)]) (Nat.le_of_ble_eq_true rfl) rfl dX8_init_57 ?_
  have hloop : ∀ (r i : Nat), i + r = 8 → ∀ ee', (∀ x, x ≠ o + 3 → ee' x = ee8 x) → ee' (o + 3) = .inl ((gB G).2.1, 8, .inl (fun j => if j < i then I (-1) else 0)) → (∀ ee', (∀ x, x ≠ o + 3 → ee' x = ee8 x) → ee' (o + 3) = .inl ((gB G).2.1, 8, .inl (fun j => if j < 8 then I (-1) else 0)) → VC G md_X8_init 7 500 (o + 8) ea9 ee' 77 [(1, .int (I ((8 : Nat) : Int))), (0, .ref a0)] []) → VC G md_X8_init 7 500 (o + 8) ea9 ee' 58 [(1, .int (I (i : Int))), (0, .ref a0)] [] := by
    intro r
    induction r with
    | zero =>
      intro i hi ee' g he' kk
      have hi' : i = 8 := by omega
      subst hi'
      refine C_iload_n hC 0 rfl dX8_init_58 ?_
      refine C_bipush hC (d := dX8_init_59) rfl ?_
      exact C_icmp_ge hC 77 rfl dX8_init_61 ⟨⟨by omega, by omega⟩, ⟨by omega, by omega⟩, fun z => kk ee' g he', fun z => absurd z (by omega)⟩
    | succ r ih =>
      intro i hi ee' g he' kk
      refine C_iload_n hC 0 rfl dX8_init_58 ?_
      refine C_bipush hC (d := dX8_init_59) rfl ?_
      refine C_icmp_ge hC 77 rfl dX8_init_61 ⟨⟨by omega, by omega⟩, ⟨by omega, by omega⟩, fun z => absurd z (by omega), fun z => ?_⟩
      refine C_aload_n hC 1 rfl dX8_init_64 ?_
      refine C_get hC fr_X8_18 (o := o) (by omega) ha0 ((g o (by omega)).trans es8) (v := .ref q3) rfl dX8_init_65 ?_
      refine C_iload_n hC 0 rfl dX8_init_68 ?_
      refine C_iconst hC dX8_init_69 ?_
      refine D_ast hC (o := o + 3) (by omega) ha3 he' ⟨by omega, z⟩ (by decide) dX8_init_70 (fun ee9 g9 e9 => ?_)
      refine C_iinc hC (lv' := [(1, .int (I ((i : Int) + 1))), (0, .ref a0)]) 0 rfl (Nat.le_of_ble_eq_true rfl) rfl dX8_init_71 ?_
      refine C_goto hC 58 rfl dX8_init_74 ?_
      exact ih (i + 1) (by omega) ee9 (fun x hx => (g9 x hx).trans (g x hx)) (by rw [e9, Int.toNat_natCast, upd_step (f := fun _ => I (-1))]) kk
  have e0 : (fun _ => 0 : Nat → Int32) = fun j => if j < 0 then I (-1) else 0 := by funext j; rw [if_neg (Nat.not_lt_zero j)]
  rw [e0] at he3
  refine hloop 8 0 rfl ee8 (fun _ _ => rfl) he3 (fun ee9 g he3c => ?_)
  replace i2 := fun i (h : i < o) => (g i (by omega)).trans (i2 i h)
  have es := (g o (by omega)).trans es8
  have he1 := (g (o + 1) (by omega)).trans he18
  have he2 := (g (o + 2) (by omega)).trans he28
  replace hb4 := Bm_X5 (fun i p1 h2 => ⟨rfl, g i (by omega)⟩) hb4
  replace hb6 := Bm_X5 (fun i p1 h2 => ⟨rfl, g i (by omega)⟩) hb6
  clear he3
  have he3 := he3c
  refine C_vret (N := o + 8) hC hR rfl (by rw [hr]; exact ⟨Nat.le_refl _, Nat.le_refl _⟩) dX8_init_77 ⟨by omega, i1, i2, ?_⟩
  show Bl_X8 _ _ _ _
  unfold Bl_X8
  rw [ha1, ha2, ha3, ha4, ha6]
  exact ⟨es, he1, he2, he3, hb4, hb6⟩
def Bl_X6 (B : WB) (ea : Nat → Nat) (ee : Nat → va_E) (o : Nat) (t1 : Nat) (t2 : Nat) (t3 : Nat) : Prop := ee o = .inr (6, [.ref t1, .ref t2, .ref t3, .ref (ea (o + 1)), .ref (ea (o + 2)), .ref (ea (o + 5)), .int 0, .int 0]) ∧ ee (o + 1) = .inl (B.2.1, 1664, .inl (fun _ => 0)) ∧ Bl_X0 B ea ee (o + 2) ∧ Bl_X0 B ea ee (o + 5)
theorem Bm_X6 {B : WB} {ea ea' : Nat → Nat} {ee ee' : Nat → va_E} {o t1 t2 t3 : Nat} (g : ∀ i, o ≤ i → i < o + 8 → ea' i = ea i ∧ ee' i = ee i) (h : Bl_X6 B ea ee o t1 t2 t3) : Bl_X6 B ea' ee' o t1 t2 t3 := by
  unfold Bl_X6 at h ⊢
  obtain ⟨h0, h1, h2, h3⟩ := h
  rw [(g (o + 1) (by omega) (by omega)).1, (g (o + 2) (by omega) (by omega)).1, (g (o + 5) (by omega) (by omega)).1]
  exact ⟨(g o (by omega) (by omega)).2.trans h0, (g (o + 1) (by omega) (by omega)).2.trans h1, Bm_X0 (fun i p1 p2 => g i (by omega) (by omega)) h2, Bm_X0 (fun i p1 p2 => g i (by omega) (by omega)) h3⟩
set_option maxRecDepth 20000 in
set_option maxHeartbeats 4000000 in
theorem ct_X6 {B : WB} {l : Launch} {o a0 t1 t2 t3 : Nat} {ea : Nat → Nat} {ee : Nat → va_E} (hfl : l.stackTraces = false) (ha0 : ea o = a0) (es : ee o = .inr (6, [.null, .null, .null, .null, .null, .null, .int 0, .int 0])) : OkC B l md_X6_init 7 2504 [.ref a0, .ref t1, .ref t2, .ref t3] (o + 1) ea ee (QB (fun ea ee => Bl_X6 B ea ee o t1 t2 t3) o 7 ea ee) := by
  refine OkC_of mk_X6_init hfl (Nat.le_of_ble_eq_true rfl) (fun G hC hR hB hr hg hI => ?_)
  subst hB; subst hg
  replace hI := hI rfl
  have i1 : ∀ i, i < o + 1 → ea i = ea i := fun _ _ => rfl
  have i2 : ∀ i, i < o → ee i = ee i := fun _ _ => rfl
  show VC G md_X6_init 0 0 (o + 1) ea ee 0 [(0, .ref a0), (1, .ref t1), (2, .ref t2), (3, .ref t3)] []
  refine C_aload_n hC 0 rfl dX6_init_0 ?_
  refine C_oinit hC oi_X6_3 dX6_init_1 (R8_of hr) (Nat.le_of_ble_eq_true rfl) ?_
  refine C_aload_n hC 0 rfl dX6_init_4 ?_
  refine C_sipush hC (d := dX6_init_5) rfl ?_
  refine D_newI (N := o + 1) (k := 0) (n := 0) hC 1664 dX6_init_8 ac_I rfl (by decide) (by rw [hr]; exact ⟨Nat.le_of_ble_eq_true rfl, Nat.le_of_ble_eq_true rfl⟩) (fun q1 ea1 ee1 g ha1 he1 => ?_)
  replace i1 := fun i (h : i < o + 1) => (g i (by omega)).1.trans (i1 i h)
  replace i2 := fun i (h : i < o) => (g i (by omega)).2.trans (i2 i h)
  replace ha0 := (g o (by omega)).1.trans ha0
  replace es := (g o (by omega)).2.trans es
  refine D_putF (N := o + 2) hC hI ff_X6_9 (Or.inr ⟨_, rfl⟩) (o := o) (by omega) ha0 es (Nat.le_of_ble_eq_true rfl) dX6_init_10 (fun ee2 g es2 => ?_)
  replace es : ee2 o = .inr (6, [.null, .null, .null, .ref q1, .null, .null, .int 0, .int 0]) := es2
  clear es2
  replace i2 := fun i (h : i < o) => (g i (by omega)).trans (i2 i h)
  replace he1 := (g (o + 1) (by omega)).trans he1
  refine C_aload_n hC 0 rfl dX6_init_13 ?_
  refine D_new (N := o + 2) (k := 1) (n := 1664) hC nw_X6_15 dX6_init_14 (by rw [hr]; exact ⟨Nat.le_of_ble_eq_true rfl, Nat.le_of_ble_eq_true rfl⟩) (fun q2 ea3 ee3 g ha2 he2 => ?_)
  replace i1 := fun i (h : i < o + 1) => (g i (by omega)).1.trans (i1 i h)
  replace i2 := fun i (h : i < o) => (g i (by omega)).2.trans (i2 i h)
  replace ha0 := (g o (by omega)).1.trans ha0
  replace es := (g o (by omega)).2.trans es
  replace ha1 := (g (o + 1) (by omega)).1.trans ha1
  replace he1 := (g (o + 1) (by omega)).2.trans he1
  refine C_dup hC rfl dX6_init_17 ?_
  refine C_init (N := o + 3) (k := 2) (n := 1668) (kc := 2) (nc := 416) hC (As := []) li_X6_17 dX6_init_18 (d0 := md_X6_init.2.2.2.2) (by decide) (Rm_of hr) rfl (Nat.le_of_ble_eq_true rfl) (by rw [hr]; exact ⟨Nat.le_of_ble_eq_true rfl, Nat.le_of_ble_eq_true rfl⟩) (ct_X0 (o := o + 2) hfl ha2 he2) (fun N4 ea4 ee4 hq => ?_)
  obtain ⟨rfl, g1, g2, hb2⟩ := hq
  have g : Gr (o + 2) _ _ _ _ := fun i h => ⟨g1 i (by omega), g2 i h⟩
  replace i1 := fun i (h : i < o + 1) => (g i (by omega)).1.trans (i1 i h)
  replace i2 := fun i (h : i < o) => (g i (by omega)).2.trans (i2 i h)
  replace ha0 := (g o (by omega)).1.trans ha0
  replace es := (g o (by omega)).2.trans es
  replace ha1 := (g (o + 1) (by omega)).1.trans ha1
  replace he1 := (g (o + 1) (by omega)).2.trans he1
  replace ha2 := (g1 (o + 2) (by omega)).trans ha2
  clear he2 g1 g2
  refine D_putF (N := o + 5) hC hI ff_X6_18 (Or.inl ⟨_, rfl⟩) (o := o) (by omega) ha0 es (Nat.le_of_ble_eq_true rfl) dX6_init_21 (fun ee5 g es2 => ?_)
  replace es : ee5 o = .inr (6, [.null, .null, .null, .ref q1, .ref q2, .null, .int 0, .int 0]) := es2
  clear es2
  replace i2 := fun i (h : i < o) => (g i (by omega)).trans (i2 i h)
  replace he1 := (g (o + 1) (by omega)).trans he1
  replace hb2 := Bm_X0 (fun i _ h2 => ⟨rfl, g i (by omega)⟩) hb2
  refine C_aload_n hC 0 rfl dX6_init_24 ?_
  refine D_new (N := o + 5) (k := 4) (n := 2084) hC nw_X6_15 dX6_init_25 (by rw [hr]; exact ⟨Nat.le_of_ble_eq_true rfl, Nat.le_of_ble_eq_true rfl⟩) (fun q5 ea6 ee6 g ha5 he5 => ?_)
  replace i1 := fun i (h : i < o + 1) => (g i (by omega)).1.trans (i1 i h)
  replace i2 := fun i (h : i < o) => (g i (by omega)).2.trans (i2 i h)
  replace ha0 := (g o (by omega)).1.trans ha0
  replace es := (g o (by omega)).2.trans es
  replace ha1 := (g (o + 1) (by omega)).1.trans ha1
  replace he1 := (g (o + 1) (by omega)).2.trans he1
  replace ha2 := (g (o + 2) (by omega)).1.trans ha2
  replace hb2 := Bm_X0 (fun i _ h2 => g i (by omega)) hb2
  refine C_dup hC rfl dX6_init_28 ?_
  refine C_init (N := o + 6) (k := 5) (n := 2088) (kc := 2) (nc := 416) hC (As := []) li_X6_17 dX6_init_29 (d0 := md_X6_init.2.2.2.2) (by decide) (Rm_of hr) rfl (Nat.le_of_ble_eq_true rfl) (by rw [hr]; exact ⟨Nat.le_of_ble_eq_true rfl, Nat.le_of_ble_eq_true rfl⟩) (ct_X0 (o := o + 5) hfl ha5 he5) (fun N7 ea7 ee7 hq => ?_)
  obtain ⟨rfl, g1, g2, hb5⟩ := hq
  have g : Gr (o + 5) _ _ _ _ := fun i h => ⟨g1 i (by omega), g2 i h⟩
  replace i1 := fun i (h : i < o + 1) => (g i (by omega)).1.trans (i1 i h)
  replace i2 := fun i (h : i < o) => (g i (by omega)).2.trans (i2 i h)
  replace ha0 := (g o (by omega)).1.trans ha0
  replace es := (g o (by omega)).2.trans es
  replace ha1 := (g (o + 1) (by omega)).1.trans ha1
  replace he1 := (g (o + 1) (by omega)).2.trans he1
  replace ha2 := (g (o + 2) (by omega)).1.trans ha2
  replace hb2 := Bm_X0 (fun i _ h2 => g i (by omega)) hb2
  replace ha5 := (g1 (o + 5) (by omega)).trans ha5
  clear he5 g1 g2
  refine D_putF (N := o + 8) hC hI ff_X6_22 (Or.inl ⟨_, rfl⟩) (o := o) (by omega) ha0 es (Nat.le_of_ble_eq_true rfl) dX6_init_32 (fun ee8 g es2 => ?_)
  replace es : ee8 o = .inr (6, [.null, .null, .null, .ref q1, .ref q2, .ref q5, .int 0, .int 0]) := es2
  clear es2
  replace i2 := fun i (h : i < o) => (g i (by omega)).trans (i2 i h)
  replace he1 := (g (o + 1) (by omega)).trans he1
  replace hb2 := Bm_X0 (fun i _ h2 => ⟨rfl, g i (by omega)⟩) hb2
  replace hb5 := Bm_X0 (fun i _ h2 => ⟨rfl, g i (by omega)⟩) hb5
  refine C_aload_n hC 0 rfl dX6_init_35 ?_
  refine C_aload_n hC 1 rfl dX6_init_36 ?_
  refine D_putF (N := o + 8) hC hI ff_X6_25 (Or.inl ⟨_, rfl⟩) (o := o) (by omega) ha0 es (Nat.le_of_ble_eq_true rfl) dX6_init_37 (fun ee9 g es2 => ?_)
  replace es : ee9 o = .inr (6, [.ref t1, .null, .null, .ref q1, .ref q2, .ref q5, .int 0, .int 0]) := es2
  clear es2
  replace i2 := fun i (h : i < o) => (g i (by omega)).trans (i2 i h)
  replace he1 := (g (o + 1) (by omega)).trans he1
  replace hb2 := Bm_X0 (fun i _ h2 => ⟨rfl, g i (by omega)⟩) hb2
  replace hb5 := Bm_X0 (fun i _ h2 => ⟨rfl, g i (by omega)⟩) hb5
  refine C_aload_n hC 0 rfl dX6_init_40 ?_
  refine C_aload_n hC 2 rfl dX6_init_41 ?_
  refine D_putF (N := o + 8) hC hI ff_X6_29 (Or.inl ⟨_, rfl⟩) (o := o) (by omega) ha0 es (Nat.le_of_ble_eq_true rfl) dX6_init_42 (fun ee10 g es2 => ?_)
  replace es : ee10 o = .inr (6, [.ref t1, .ref t2, .null, .ref q1, .ref q2, .ref q5, .int 0, .int 0]) := es2
  clear es2
  replace i2 := fun i (h : i < o) => (g i (by omega)).trans (i2 i h)
  replace he1 := (g (o + 1) (by omega)).trans he1
  replace hb2 := Bm_X0 (fun i _ h2 => ⟨rfl, g i (by omega)⟩) hb2
  replace hb5 := Bm_X0 (fun i _ h2 => ⟨rfl, g i (by omega)⟩) hb5
  refine C_aload_n hC 0 rfl dX6_init_45 ?_
  refine C_aload_n hC 3 rfl dX6_init_46 ?_
  refine D_putF (N := o + 8) hC hI ff_X6_33 (Or.inl ⟨_, rfl⟩) (o := o) (by omega) ha0 es (Nat.le_of_ble_eq_true rfl) dX6_init_47 (fun ee11 g es2 => ?_)
  replace es : ee11 o = .inr (6, [.ref t1, .ref t2, .ref t3, .ref q1, .ref q2, .ref q5, .int 0, .int 0]) := es2
  clear es2
  replace i2 := fun i (h : i < o) => (g i (by omega)).trans (i2 i h)
  replace he1 := (g (o + 1) (by omega)).trans he1
  replace hb2 := Bm_X0 (fun i _ h2 => ⟨rfl, g i (by omega)⟩) hb2
  replace hb5 := Bm_X0 (fun i _ h2 => ⟨rfl, g i (by omega)⟩) hb5
  refine C_vret (N := o + 8) hC hR rfl (by rw [hr]; exact ⟨Nat.le_refl _, Nat.le_refl _⟩) dX6_init_50 ⟨by omega, i1, i2, ?_⟩
  show Bl_X6 _ _ _ _ t1 t2 t3
  unfold Bl_X6
  rw [ha1, ha2, ha5]
  exact ⟨es, he1, hb2, hb5⟩
def Bl_X1 (B : WB) (ea : Nat → Nat) (ee : Nat → va_E) (o : Nat) (t1 : Nat) (t2 : Nat) (t3 : Nat) (t4 : Nat) : Prop := ee o = .inr (1, [.ref t1, .ref t2, .ref t3, .ref t4, .ref (ea (o + 1)), .ref (ea (o + 4)), .int (I (2 : Int)), .int 0, .int 0]) ∧ Bl_X0 B ea ee (o + 1) ∧ Bl_X0 B ea ee (o + 4)
theorem Bm_X1 {B : WB} {ea ea' : Nat → Nat} {ee ee' : Nat → va_E} {o t1 t2 t3 t4 : Nat} (g : ∀ i, o ≤ i → i < o + 7 → ea' i = ea i ∧ ee' i = ee i) (h : Bl_X1 B ea ee o t1 t2 t3 t4) : Bl_X1 B ea' ee' o t1 t2 t3 t4 := by
  unfold Bl_X1 at h ⊢
  obtain ⟨h0, h1, h2⟩ := h
  rw [(g (o + 1) (by omega) (by omega)).1, (g (o + 4) (by omega) (by omega)).1]
  exact ⟨(g o (by omega) (by omega)).2.trans h0, Bm_X0 (fun i p1 p2 => g i (by omega) (by omega)) h1, Bm_X0 (fun i p1 p2 => g i (by omega) (by omega)) h2⟩
set_option maxRecDepth 20000 in
set_option maxHeartbeats 4000000 in
theorem ct_X1 {B : WB} {l : Launch} {o a0 t1 t2 t3 t4 : Nat} {ea : Nat → Nat} {ee : Nat → va_E} (hfl : l.stackTraces = false) (ha0 : ea o = a0) (es : ee o = .inr (1, [.null, .null, .null, .null, .null, .null, .int 0, .int 0, .int 0])) : OkC B l md_X1_init 6 840 [.ref a0, .ref t1, .ref t2, .ref t3, .ref t4] (o + 1) ea ee (QB (fun ea ee => Bl_X1 B ea ee o t1 t2 t3 t4) o 6 ea ee) := by
  refine OkC_of mk_X1_init hfl (Nat.le_of_ble_eq_true rfl) (fun G hC hR hB hr hg hI => ?_)
  subst hB; subst hg
  replace hI := hI rfl
  have i1 : ∀ i, i < o + 1 → ea i = ea i := fun _ _ => rfl
  have i2 : ∀ i, i < o → ee i = ee i := fun _ _ => rfl
  show VC G md_X1_init 0 0 (o + 1) ea ee 0 [(0, .ref a0), (1, .ref t1), (2, .ref t2), (3, .ref t3), (4, .ref t4)] []
  refine C_aload_n hC 0 rfl dX1_init_0 ?_
  refine C_oinit hC oi_X1_3 dX1_init_1 (R8_of hr) (Nat.le_of_ble_eq_true rfl) ?_
  refine C_aload_n hC 0 rfl dX1_init_4 ?_
  refine D_new (N := o + 1) (k := 0) (n := 0) hC nw_X1_9 dX1_init_5 (by rw [hr]; exact ⟨Nat.le_of_ble_eq_true rfl, Nat.le_of_ble_eq_true rfl⟩) (fun q1 ea1 ee1 g ha1 he1 => ?_)
  replace i1 := fun i (h : i < o + 1) => (g i (by omega)).1.trans (i1 i h)
  replace i2 := fun i (h : i < o) => (g i (by omega)).2.trans (i2 i h)
  replace ha0 := (g o (by omega)).1.trans ha0
  replace es := (g o (by omega)).2.trans es
  refine C_dup hC rfl dX1_init_8 ?_
  refine C_init (N := o + 2) (k := 1) (n := 4) (kc := 2) (nc := 416) hC (As := []) li_X1_11 dX1_init_9 (d0 := md_X1_init.2.2.2.2) (by decide) (Rm_of hr) rfl (Nat.le_of_ble_eq_true rfl) (by rw [hr]; exact ⟨Nat.le_of_ble_eq_true rfl, Nat.le_of_ble_eq_true rfl⟩) (ct_X0 (o := o + 1) hfl ha1 he1) (fun N2 ea2 ee2 hq => ?_)
  obtain ⟨rfl, g1, g2, hb1⟩ := hq
  have g : Gr (o + 1) _ _ _ _ := fun i h => ⟨g1 i (by omega), g2 i h⟩
  replace i1 := fun i (h : i < o + 1) => (g i (by omega)).1.trans (i1 i h)
  replace i2 := fun i (h : i < o) => (g i (by omega)).2.trans (i2 i h)
  replace ha0 := (g o (by omega)).1.trans ha0
  replace es := (g o (by omega)).2.trans es
  replace ha1 := (g1 (o + 1) (by omega)).trans ha1
  clear he1 g1 g2
  refine D_putF (N := o + 4) hC hI ff_X1_12 (Or.inl ⟨_, rfl⟩) (o := o) (by omega) ha0 es (Nat.le_of_ble_eq_true rfl) dX1_init_12 (fun ee3 g es2 => ?_)
  replace es : ee3 o = .inr (1, [.null, .null, .null, .null, .ref q1, .null, .int 0, .int 0, .int 0]) := es2
  clear es2
  replace i2 := fun i (h : i < o) => (g i (by omega)).trans (i2 i h)
  replace hb1 := Bm_X0 (fun i _ h2 => ⟨rfl, g i (by omega)⟩) hb1
  refine C_aload_n hC 0 rfl dX1_init_15 ?_
  refine D_new (N := o + 4) (k := 3) (n := 420) hC nw_X1_9 dX1_init_16 (by rw [hr]; exact ⟨Nat.le_of_ble_eq_true rfl, Nat.le_of_ble_eq_true rfl⟩) (fun q4 ea4 ee4 g ha4 he4 => ?_)
  replace i1 := fun i (h : i < o + 1) => (g i (by omega)).1.trans (i1 i h)
  replace i2 := fun i (h : i < o) => (g i (by omega)).2.trans (i2 i h)
  replace ha0 := (g o (by omega)).1.trans ha0
  replace es := (g o (by omega)).2.trans es
  replace ha1 := (g (o + 1) (by omega)).1.trans ha1
  replace hb1 := Bm_X0 (fun i _ h2 => g i (by omega)) hb1
  refine C_dup hC rfl dX1_init_19 ?_
  refine C_init (N := o + 5) (k := 4) (n := 424) (kc := 2) (nc := 416) hC (As := []) li_X1_11 dX1_init_20 (d0 := md_X1_init.2.2.2.2) (by decide) (Rm_of hr) rfl (Nat.le_of_ble_eq_true rfl) (by rw [hr]; exact ⟨Nat.le_of_ble_eq_true rfl, Nat.le_of_ble_eq_true rfl⟩) (ct_X0 (o := o + 4) hfl ha4 he4) (fun N5 ea5 ee5 hq => ?_)
  obtain ⟨rfl, g1, g2, hb4⟩ := hq
  have g : Gr (o + 4) _ _ _ _ := fun i h => ⟨g1 i (by omega), g2 i h⟩
  replace i1 := fun i (h : i < o + 1) => (g i (by omega)).1.trans (i1 i h)
  replace i2 := fun i (h : i < o) => (g i (by omega)).2.trans (i2 i h)
  replace ha0 := (g o (by omega)).1.trans ha0
  replace es := (g o (by omega)).2.trans es
  replace ha1 := (g (o + 1) (by omega)).1.trans ha1
  replace hb1 := Bm_X0 (fun i _ h2 => g i (by omega)) hb1
  replace ha4 := (g1 (o + 4) (by omega)).trans ha4
  clear he4 g1 g2
  refine D_putF (N := o + 7) hC hI ff_X1_18 (Or.inl ⟨_, rfl⟩) (o := o) (by omega) ha0 es (Nat.le_of_ble_eq_true rfl) dX1_init_23 (fun ee6 g es2 => ?_)
  replace es : ee6 o = .inr (1, [.null, .null, .null, .null, .ref q1, .ref q4, .int 0, .int 0, .int 0]) := es2
  clear es2
  replace i2 := fun i (h : i < o) => (g i (by omega)).trans (i2 i h)
  replace hb1 := Bm_X0 (fun i _ h2 => ⟨rfl, g i (by omega)⟩) hb1
  replace hb4 := Bm_X0 (fun i _ h2 => ⟨rfl, g i (by omega)⟩) hb4
  refine C_aload_n hC 0 rfl dX1_init_26 ?_
  refine C_iconst hC dX1_init_27 ?_
  refine D_put (N := o + 7) hC fk_X1_21 (Or.inl rfl) (o := o) (by omega) ha0 es (Nat.le_of_ble_eq_true rfl) dX1_init_28 (fun ee7 g es2 => ?_)
  replace es : ee7 o = .inr (1, [.null, .null, .null, .null, .ref q1, .ref q4, .int (I (2 : Int)), .int 0, .int 0]) := es2
  clear es2
  replace i2 := fun i (h : i < o) => (g i (by omega)).trans (i2 i h)
  replace hb1 := Bm_X0 (fun i _ h2 => ⟨rfl, g i (by omega)⟩) hb1
  replace hb4 := Bm_X0 (fun i _ h2 => ⟨rfl, g i (by omega)⟩) hb4
  refine C_aload_n hC 0 rfl dX1_init_31 ?_
  refine C_aload_n hC 1 rfl dX1_init_32 ?_
  refine D_putF (N := o + 7) hC hI ff_X1_25 (Or.inl ⟨_, rfl⟩) (o := o) (by omega) ha0 es (Nat.le_of_ble_eq_true rfl) dX1_init_33 (fun ee8 g es2 => ?_)
  replace es : ee8 o = .inr (1, [.ref t1, .null, .null, .null, .ref q1, .ref q4, .int (I (2 : Int)), .int 0, .int 0]) := es2
  clear es2
  replace i2 := fun i (h : i < o) => (g i (by omega)).trans (i2 i h)
  replace hb1 := Bm_X0 (fun i _ h2 => ⟨rfl, g i (by omega)⟩) hb1
  replace hb4 := Bm_X0 (fun i _ h2 => ⟨rfl, g i (by omega)⟩) hb4
  refine C_aload_n hC 0 rfl dX1_init_36 ?_
  refine C_aload_n hC 2 rfl dX1_init_37 ?_
  refine D_putF (N := o + 7) hC hI ff_X1_29 (Or.inl ⟨_, rfl⟩) (o := o) (by omega) ha0 es (Nat.le_of_ble_eq_true rfl) dX1_init_38 (fun ee9 g es2 => ?_)
  replace es : ee9 o = .inr (1, [.ref t1, .ref t2, .null, .null, .ref q1, .ref q4, .int (I (2 : Int)), .int 0, .int 0]) := es2
  clear es2
  replace i2 := fun i (h : i < o) => (g i (by omega)).trans (i2 i h)
  replace hb1 := Bm_X0 (fun i _ h2 => ⟨rfl, g i (by omega)⟩) hb1
  replace hb4 := Bm_X0 (fun i _ h2 => ⟨rfl, g i (by omega)⟩) hb4
  refine C_aload_n hC 0 rfl dX1_init_41 ?_
  refine C_aload_n hC 3 rfl dX1_init_42 ?_
  refine D_putF (N := o + 7) hC hI ff_X1_33 (Or.inl ⟨_, rfl⟩) (o := o) (by omega) ha0 es (Nat.le_of_ble_eq_true rfl) dX1_init_43 (fun ee10 g es2 => ?_)
  replace es : ee10 o = .inr (1, [.ref t1, .ref t2, .ref t3, .null, .ref q1, .ref q4, .int (I (2 : Int)), .int 0, .int 0]) := es2
  clear es2
  replace i2 := fun i (h : i < o) => (g i (by omega)).trans (i2 i h)
  replace hb1 := Bm_X0 (fun i _ h2 => ⟨rfl, g i (by omega)⟩) hb1
  replace hb4 := Bm_X0 (fun i _ h2 => ⟨rfl, g i (by omega)⟩) hb4
  refine C_aload_n hC 0 rfl dX1_init_46 ?_
  refine C_aload hC 4 rfl dX1_init_47 ?_
  refine D_putF (N := o + 7) hC hI ff_X1_37 (Or.inl ⟨_, rfl⟩) (o := o) (by omega) ha0 es (Nat.le_of_ble_eq_true rfl) dX1_init_49 (fun ee11 g es2 => ?_)
  replace es : ee11 o = .inr (1, [.ref t1, .ref t2, .ref t3, .ref t4, .ref q1, .ref q4, .int (I (2 : Int)), .int 0, .int 0]) := es2
  clear es2
  replace i2 := fun i (h : i < o) => (g i (by omega)).trans (i2 i h)
  replace hb1 := Bm_X0 (fun i _ h2 => ⟨rfl, g i (by omega)⟩) hb1
  replace hb4 := Bm_X0 (fun i _ h2 => ⟨rfl, g i (by omega)⟩) hb4
  refine C_vret (N := o + 7) hC hR rfl (by rw [hr]; exact ⟨Nat.le_refl _, Nat.le_refl _⟩) dX1_init_52 ⟨by omega, i1, i2, ?_⟩
  show Bl_X1 _ _ _ _ t1 t2 t3 t4
  unfold Bl_X1
  rw [ha1, ha4]
  exact ⟨es, hb1, hb4⟩
def Bl_X2 (B : WB) (ea : Nat → Nat) (ee : Nat → va_E) (o : Nat) (t1 : Nat) (t2 : Nat) (t3 : Nat) : Prop := ee o = .inr (2, [.ref t1, .ref t2, .ref t3, .ref (ea (o + 1)), .ref (ea (o + 4))]) ∧ Bl_X0 B ea ee (o + 1) ∧ ee (o + 4) = .inl (B.2.1, 208, .inl (fun _ => 0))
theorem Bm_X2 {B : WB} {ea ea' : Nat → Nat} {ee ee' : Nat → va_E} {o t1 t2 t3 : Nat} (g : ∀ i, o ≤ i → i < o + 5 → ea' i = ea i ∧ ee' i = ee i) (h : Bl_X2 B ea ee o t1 t2 t3) : Bl_X2 B ea' ee' o t1 t2 t3 := by
  unfold Bl_X2 at h ⊢
  obtain ⟨h0, h1, h2⟩ := h
  rw [(g (o + 1) (by omega) (by omega)).1, (g (o + 4) (by omega) (by omega)).1]
  exact ⟨(g o (by omega) (by omega)).2.trans h0, Bm_X0 (fun i p1 p2 => g i (by omega) (by omega)) h1, (g (o + 4) (by omega) (by omega)).2.trans h2⟩
set_option maxRecDepth 20000 in
set_option maxHeartbeats 4000000 in
theorem ct_X2 {B : WB} {l : Launch} {o a0 t1 t2 t3 : Nat} {ea : Nat → Nat} {ee : Nat → va_E} (hfl : l.stackTraces = false) (ha0 : ea o = a0) (es : ee o = .inr (2, [.null, .null, .null, .null, .null])) : OkC B l md_X2_init 4 628 [.ref a0, .ref t1, .ref t2, .ref t3] (o + 1) ea ee (QB (fun ea ee => Bl_X2 B ea ee o t1 t2 t3) o 4 ea ee) := by
  refine OkC_of mk_X2_init hfl (Nat.le_of_ble_eq_true rfl) (fun G hC hR hB hr hg hI => ?_)
  subst hB; subst hg
  replace hI := hI rfl
  have i1 : ∀ i, i < o + 1 → ea i = ea i := fun _ _ => rfl
  have i2 : ∀ i, i < o → ee i = ee i := fun _ _ => rfl
  show VC G md_X2_init 0 0 (o + 1) ea ee 0 [(0, .ref a0), (1, .ref t1), (2, .ref t2), (3, .ref t3)] []
  refine C_aload_n hC 0 rfl dX2_init_0 ?_
  refine C_oinit hC oi_X2_3 dX2_init_1 (R8_of hr) (Nat.le_of_ble_eq_true rfl) ?_
  refine C_aload_n hC 0 rfl dX2_init_4 ?_
  refine D_new (N := o + 1) (k := 0) (n := 0) hC nw_X2_9 dX2_init_5 (by rw [hr]; exact ⟨Nat.le_of_ble_eq_true rfl, Nat.le_of_ble_eq_true rfl⟩) (fun q1 ea1 ee1 g ha1 he1 => ?_)
  replace i1 := fun i (h : i < o + 1) => (g i (by omega)).1.trans (i1 i h)
  replace i2 := fun i (h : i < o) => (g i (by omega)).2.trans (i2 i h)
  replace ha0 := (g o (by omega)).1.trans ha0
  replace es := (g o (by omega)).2.trans es
  refine C_dup hC rfl dX2_init_8 ?_
  refine C_init (N := o + 2) (k := 1) (n := 4) (kc := 2) (nc := 416) hC (As := []) li_X2_11 dX2_init_9 (d0 := md_X2_init.2.2.2.2) (by decide) (Rm_of hr) rfl (Nat.le_of_ble_eq_true rfl) (by rw [hr]; exact ⟨Nat.le_of_ble_eq_true rfl, Nat.le_of_ble_eq_true rfl⟩) (ct_X0 (o := o + 1) hfl ha1 he1) (fun N2 ea2 ee2 hq => ?_)
  obtain ⟨rfl, g1, g2, hb1⟩ := hq
  have g : Gr (o + 1) _ _ _ _ := fun i h => ⟨g1 i (by omega), g2 i h⟩
  replace i1 := fun i (h : i < o + 1) => (g i (by omega)).1.trans (i1 i h)
  replace i2 := fun i (h : i < o) => (g i (by omega)).2.trans (i2 i h)
  replace ha0 := (g o (by omega)).1.trans ha0
  replace es := (g o (by omega)).2.trans es
  replace ha1 := (g1 (o + 1) (by omega)).trans ha1
  clear he1 g1 g2
  refine D_putF (N := o + 4) hC hI ff_X2_12 (Or.inl ⟨_, rfl⟩) (o := o) (by omega) ha0 es (Nat.le_of_ble_eq_true rfl) dX2_init_12 (fun ee3 g es2 => ?_)
  replace es : ee3 o = .inr (2, [.null, .null, .null, .ref q1, .null]) := es2
  clear es2
  replace i2 := fun i (h : i < o) => (g i (by omega)).trans (i2 i h)
  replace hb1 := Bm_X0 (fun i _ h2 => ⟨rfl, g i (by omega)⟩) hb1
  refine C_aload_n hC 0 rfl dX2_init_15 ?_
  refine C_sipush hC (d := dX2_init_16) rfl ?_
  refine D_newI (N := o + 4) (k := 3) (n := 420) hC 208 dX2_init_19 ac_I rfl (by decide) (by rw [hr]; exact ⟨Nat.le_of_ble_eq_true rfl, Nat.le_of_ble_eq_true rfl⟩) (fun q4 ea4 ee4 g ha4 he4 => ?_)
  replace i1 := fun i (h : i < o + 1) => (g i (by omega)).1.trans (i1 i h)
  replace i2 := fun i (h : i < o) => (g i (by omega)).2.trans (i2 i h)
  replace ha0 := (g o (by omega)).1.trans ha0
  replace es := (g o (by omega)).2.trans es
  replace ha1 := (g (o + 1) (by omega)).1.trans ha1
  replace hb1 := Bm_X0 (fun i _ h2 => g i (by omega)) hb1
  refine D_putF (N := o + 5) hC hI ff_X2_18 (Or.inr ⟨_, rfl⟩) (o := o) (by omega) ha0 es (Nat.le_of_ble_eq_true rfl) dX2_init_21 (fun ee5 g es2 => ?_)
  replace es : ee5 o = .inr (2, [.null, .null, .null, .ref q1, .ref q4]) := es2
  clear es2
  replace i2 := fun i (h : i < o) => (g i (by omega)).trans (i2 i h)
  replace hb1 := Bm_X0 (fun i _ h2 => ⟨rfl, g i (by omega)⟩) hb1
  replace he4 := (g (o + 4) (by omega)).trans he4
  refine C_aload_n hC 0 rfl dX2_init_24 ?_
  refine C_aload_n hC 1 rfl dX2_init_25 ?_
  refine D_putF (N := o + 5) hC hI ff_X2_22 (Or.inl ⟨_, rfl⟩) (o := o) (by omega) ha0 es (Nat.le_of_ble_eq_true rfl) dX2_init_26 (fun ee6 g es2 => ?_)
  replace es : ee6 o = .inr (2, [.ref t1, .null, .null, .ref q1, .ref q4]) := es2
  clear es2
  replace i2 := fun i (h : i < o) => (g i (by omega)).trans (i2 i h)
  replace hb1 := Bm_X0 (fun i _ h2 => ⟨rfl, g i (by omega)⟩) hb1
  replace he4 := (g (o + 4) (by omega)).trans he4
  refine C_aload_n hC 0 rfl dX2_init_29 ?_
  refine C_aload_n hC 2 rfl dX2_init_30 ?_
  refine D_putF (N := o + 5) hC hI ff_X2_26 (Or.inl ⟨_, rfl⟩) (o := o) (by omega) ha0 es (Nat.le_of_ble_eq_true rfl) dX2_init_31 (fun ee7 g es2 => ?_)
  replace es : ee7 o = .inr (2, [.ref t1, .ref t2, .null, .ref q1, .ref q4]) := es2
  clear es2
  replace i2 := fun i (h : i < o) => (g i (by omega)).trans (i2 i h)
  replace hb1 := Bm_X0 (fun i _ h2 => ⟨rfl, g i (by omega)⟩) hb1
  replace he4 := (g (o + 4) (by omega)).trans he4
  refine C_aload_n hC 0 rfl dX2_init_34 ?_
  refine C_aload_n hC 3 rfl dX2_init_35 ?_
  refine D_putF (N := o + 5) hC hI ff_X2_30 (Or.inl ⟨_, rfl⟩) (o := o) (by omega) ha0 es (Nat.le_of_ble_eq_true rfl) dX2_init_36 (fun ee8 g es2 => ?_)
  replace es : ee8 o = .inr (2, [.ref t1, .ref t2, .ref t3, .ref q1, .ref q4]) := es2
  clear es2
  replace i2 := fun i (h : i < o) => (g i (by omega)).trans (i2 i h)
  replace hb1 := Bm_X0 (fun i _ h2 => ⟨rfl, g i (by omega)⟩) hb1
  replace he4 := (g (o + 4) (by omega)).trans he4
  refine C_vret (N := o + 5) hC hR rfl (by rw [hr]; exact ⟨Nat.le_refl _, Nat.le_refl _⟩) dX2_init_39 ⟨by omega, i1, i2, ?_⟩
  show Bl_X2 _ _ _ _ t1 t2 t3
  unfold Bl_X2
  rw [ha1, ha4]
  exact ⟨es, hb1, he4⟩
def Bl_X3 (B : WB) (ea : Nat → Nat) (ee : Nat → va_E) (o : Nat) (t1 : Nat) (t2 : Nat) (t3 : Nat) (t4 : Nat) : Prop := ee o = .inr (3, [.ref t1, .ref t2, .ref t3, .ref t4, .ref (ea (o + 1)), .int 0, .ref (ea (o + 2)), .ref (ea (o + 5)), .ref (ea (o + 6))]) ∧ ee (o + 1) = .inl (B.2.1, 400, .inl (fun _ => 0)) ∧ Bl_X0 B ea ee (o + 2) ∧ ee (o + 5) = .inl (B.2.1, 208, .inl (fun _ => 0)) ∧ ee (o + 6) = .inl (B.2.1, 400, .inl (fun _ => 0))
theorem Bm_X3 {B : WB} {ea ea' : Nat → Nat} {ee ee' : Nat → va_E} {o t1 t2 t3 t4 : Nat} (g : ∀ i, o ≤ i → i < o + 7 → ea' i = ea i ∧ ee' i = ee i) (h : Bl_X3 B ea ee o t1 t2 t3 t4) : Bl_X3 B ea' ee' o t1 t2 t3 t4 := by
  unfold Bl_X3 at h ⊢
  obtain ⟨h0, h1, h2, h3, h4⟩ := h
  rw [(g (o + 1) (by omega) (by omega)).1, (g (o + 2) (by omega) (by omega)).1, (g (o + 5) (by omega) (by omega)).1, (g (o + 6) (by omega) (by omega)).1]
  exact ⟨(g o (by omega) (by omega)).2.trans h0, (g (o + 1) (by omega) (by omega)).2.trans h1, Bm_X0 (fun i p1 p2 => g i (by omega) (by omega)) h2, (g (o + 5) (by omega) (by omega)).2.trans h3, (g (o + 6) (by omega) (by omega)).2.trans h4⟩
set_option maxRecDepth 20000 in
set_option maxHeartbeats 4000000 in
theorem ct_X3 {B : WB} {l : Launch} {o a0 t1 t2 t3 t4 : Nat} {ea : Nat → Nat} {ee : Nat → va_E} (hfl : l.stackTraces = false) (ha0 : ea o = a0) (es : ee o = .inr (3, [.null, .null, .null, .null, .null, .int 0, .null, .null, .null])) : OkC B l md_X3_init 6 1428 [.ref a0, .ref t1, .ref t2, .ref t3, .ref t4] (o + 1) ea ee (QB (fun ea ee => Bl_X3 B ea ee o t1 t2 t3 t4) o 6 ea ee) := by
  refine OkC_of mk_X3_init hfl (Nat.le_of_ble_eq_true rfl) (fun G hC hR hB hr hg hI => ?_)
  subst hB; subst hg
  replace hI := hI rfl
  have i1 : ∀ i, i < o + 1 → ea i = ea i := fun _ _ => rfl
  have i2 : ∀ i, i < o → ee i = ee i := fun _ _ => rfl
  show VC G md_X3_init 0 0 (o + 1) ea ee 0 [(0, .ref a0), (1, .ref t1), (2, .ref t2), (3, .ref t3), (4, .ref t4)] []
  refine C_aload_n hC 0 rfl dX3_init_0 ?_
  refine C_oinit hC oi_X3_3 dX3_init_1 (R8_of hr) (Nat.le_of_ble_eq_true rfl) ?_
  refine C_aload_n hC 0 rfl dX3_init_4 ?_
  refine C_sipush hC (d := dX3_init_5) rfl ?_
  refine D_newI (N := o + 1) (k := 0) (n := 0) hC 400 dX3_init_8 ac_I rfl (by decide) (by rw [hr]; exact ⟨Nat.le_of_ble_eq_true rfl, Nat.le_of_ble_eq_true rfl⟩) (fun q1 ea1 ee1 g ha1 he1 => ?_)
  replace i1 := fun i (h : i < o + 1) => (g i (by omega)).1.trans (i1 i h)
  replace i2 := fun i (h : i < o) => (g i (by omega)).2.trans (i2 i h)
  replace ha0 := (g o (by omega)).1.trans ha0
  replace es := (g o (by omega)).2.trans es
  refine D_putF (N := o + 2) hC hI ff_X3_9 (Or.inr ⟨_, rfl⟩) (o := o) (by omega) ha0 es (Nat.le_of_ble_eq_true rfl) dX3_init_10 (fun ee2 g es2 => ?_)
  replace es : ee2 o = .inr (3, [.null, .null, .null, .null, .ref q1, .int 0, .null, .null, .null]) := es2
  clear es2
  replace i2 := fun i (h : i < o) => (g i (by omega)).trans (i2 i h)
  replace he1 := (g (o + 1) (by omega)).trans he1
  refine C_aload_n hC 0 rfl dX3_init_13 ?_
  refine D_new (N := o + 2) (k := 1) (n := 400) hC nw_X3_15 dX3_init_14 (by rw [hr]; exact ⟨Nat.le_of_ble_eq_true rfl, Nat.le_of_ble_eq_true rfl⟩) (fun q2 ea3 ee3 g ha2 he2 => ?_)
  replace i1 := fun i (h : i < o + 1) => (g i (by omega)).1.trans (i1 i h)
  replace i2 := fun i (h : i < o) => (g i (by omega)).2.trans (i2 i h)
  replace ha0 := (g o (by omega)).1.trans ha0
  replace es := (g o (by omega)).2.trans es
  replace ha1 := (g (o + 1) (by omega)).1.trans ha1
  replace he1 := (g (o + 1) (by omega)).2.trans he1
  refine C_dup hC rfl dX3_init_17 ?_
  refine C_init (N := o + 3) (k := 2) (n := 404) (kc := 2) (nc := 416) hC (As := []) li_X3_17 dX3_init_18 (d0 := md_X3_init.2.2.2.2) (by decide) (Rm_of hr) rfl (Nat.le_of_ble_eq_true rfl) (by rw [hr]; exact ⟨Nat.le_of_ble_eq_true rfl, Nat.le_of_ble_eq_true rfl⟩) (ct_X0 (o := o + 2) hfl ha2 he2) (fun N4 ea4 ee4 hq => ?_)
  obtain ⟨rfl, g1, g2, hb2⟩ := hq
  have g : Gr (o + 2) _ _ _ _ := fun i h => ⟨g1 i (by omega), g2 i h⟩
  replace i1 := fun i (h : i < o + 1) => (g i (by omega)).1.trans (i1 i h)
  replace i2 := fun i (h : i < o) => (g i (by omega)).2.trans (i2 i h)
  replace ha0 := (g o (by omega)).1.trans ha0
  replace es := (g o (by omega)).2.trans es
  replace ha1 := (g (o + 1) (by omega)).1.trans ha1
  replace he1 := (g (o + 1) (by omega)).2.trans he1
  replace ha2 := (g1 (o + 2) (by omega)).trans ha2
  clear he2 g1 g2
  refine D_putF (N := o + 5) hC hI ff_X3_18 (Or.inl ⟨_, rfl⟩) (o := o) (by omega) ha0 es (Nat.le_of_ble_eq_true rfl) dX3_init_21 (fun ee5 g es2 => ?_)
  replace es : ee5 o = .inr (3, [.null, .null, .null, .null, .ref q1, .int 0, .ref q2, .null, .null]) := es2
  clear es2
  replace i2 := fun i (h : i < o) => (g i (by omega)).trans (i2 i h)
  replace he1 := (g (o + 1) (by omega)).trans he1
  replace hb2 := Bm_X0 (fun i _ h2 => ⟨rfl, g i (by omega)⟩) hb2
  refine C_aload_n hC 0 rfl dX3_init_24 ?_
  refine C_sipush hC (d := dX3_init_25) rfl ?_
  refine D_newI (N := o + 5) (k := 4) (n := 820) hC 208 dX3_init_28 ac_I rfl (by decide) (by rw [hr]; exact ⟨Nat.le_of_ble_eq_true rfl, Nat.le_of_ble_eq_true rfl⟩) (fun q5 ea6 ee6 g ha5 he5 => ?_)
  replace i1 := fun i (h : i < o + 1) => (g i (by omega)).1.trans (i1 i h)
  replace i2 := fun i (h : i < o) => (g i (by omega)).2.trans (i2 i h)
  replace ha0 := (g o (by omega)).1.trans ha0
  replace es := (g o (by omega)).2.trans es
  replace ha1 := (g (o + 1) (by omega)).1.trans ha1
  replace he1 := (g (o + 1) (by omega)).2.trans he1
  replace ha2 := (g (o + 2) (by omega)).1.trans ha2
  replace hb2 := Bm_X0 (fun i _ h2 => g i (by omega)) hb2
  refine D_putF (N := o + 6) hC hI ff_X3_22 (Or.inr ⟨_, rfl⟩) (o := o) (by omega) ha0 es (Nat.le_of_ble_eq_true rfl) dX3_init_30 (fun ee7 g es2 => ?_)
  replace es : ee7 o = .inr (3, [.null, .null, .null, .null, .ref q1, .int 0, .ref q2, .ref q5, .null]) := es2
  clear es2
  replace i2 := fun i (h : i < o) => (g i (by omega)).trans (i2 i h)
  replace he1 := (g (o + 1) (by omega)).trans he1
  replace hb2 := Bm_X0 (fun i _ h2 => ⟨rfl, g i (by omega)⟩) hb2
  replace he5 := (g (o + 5) (by omega)).trans he5
  refine C_aload_n hC 0 rfl dX3_init_33 ?_
  refine C_sipush hC (d := dX3_init_34) rfl ?_
  refine D_newI (N := o + 6) (k := 5) (n := 1028) hC 400 dX3_init_37 ac_I rfl (by decide) (by rw [hr]; exact ⟨Nat.le_of_ble_eq_true rfl, Nat.le_of_ble_eq_true rfl⟩) (fun q6 ea8 ee8 g ha6 he6 => ?_)
  replace i1 := fun i (h : i < o + 1) => (g i (by omega)).1.trans (i1 i h)
  replace i2 := fun i (h : i < o) => (g i (by omega)).2.trans (i2 i h)
  replace ha0 := (g o (by omega)).1.trans ha0
  replace es := (g o (by omega)).2.trans es
  replace ha1 := (g (o + 1) (by omega)).1.trans ha1
  replace he1 := (g (o + 1) (by omega)).2.trans he1
  replace ha2 := (g (o + 2) (by omega)).1.trans ha2
  replace hb2 := Bm_X0 (fun i _ h2 => g i (by omega)) hb2
  replace ha5 := (g (o + 5) (by omega)).1.trans ha5
  replace he5 := (g (o + 5) (by omega)).2.trans he5
  refine D_putF (N := o + 7) hC hI ff_X3_25 (Or.inr ⟨_, rfl⟩) (o := o) (by omega) ha0 es (Nat.le_of_ble_eq_true rfl) dX3_init_39 (fun ee9 g es2 => ?_)
  replace es : ee9 o = .inr (3, [.null, .null, .null, .null, .ref q1, .int 0, .ref q2, .ref q5, .ref q6]) := es2
  clear es2
  replace i2 := fun i (h : i < o) => (g i (by omega)).trans (i2 i h)
  replace he1 := (g (o + 1) (by omega)).trans he1
  replace hb2 := Bm_X0 (fun i _ h2 => ⟨rfl, g i (by omega)⟩) hb2
  replace he5 := (g (o + 5) (by omega)).trans he5
  replace he6 := (g (o + 6) (by omega)).trans he6
  refine C_aload_n hC 0 rfl dX3_init_42 ?_
  refine C_aload_n hC 1 rfl dX3_init_43 ?_
  refine D_putF (N := o + 7) hC hI ff_X3_28 (Or.inl ⟨_, rfl⟩) (o := o) (by omega) ha0 es (Nat.le_of_ble_eq_true rfl) dX3_init_44 (fun ee10 g es2 => ?_)
  replace es : ee10 o = .inr (3, [.ref t1, .null, .null, .null, .ref q1, .int 0, .ref q2, .ref q5, .ref q6]) := es2
  clear es2
  replace i2 := fun i (h : i < o) => (g i (by omega)).trans (i2 i h)
  replace he1 := (g (o + 1) (by omega)).trans he1
  replace hb2 := Bm_X0 (fun i _ h2 => ⟨rfl, g i (by omega)⟩) hb2
  replace he5 := (g (o + 5) (by omega)).trans he5
  replace he6 := (g (o + 6) (by omega)).trans he6
  refine C_aload_n hC 0 rfl dX3_init_47 ?_
  refine C_aload_n hC 2 rfl dX3_init_48 ?_
  refine D_putF (N := o + 7) hC hI ff_X3_32 (Or.inl ⟨_, rfl⟩) (o := o) (by omega) ha0 es (Nat.le_of_ble_eq_true rfl) dX3_init_49 (fun ee11 g es2 => ?_)
  replace es : ee11 o = .inr (3, [.ref t1, .ref t2, .null, .null, .ref q1, .int 0, .ref q2, .ref q5, .ref q6]) := es2
  clear es2
  replace i2 := fun i (h : i < o) => (g i (by omega)).trans (i2 i h)
  replace he1 := (g (o + 1) (by omega)).trans he1
  replace hb2 := Bm_X0 (fun i _ h2 => ⟨rfl, g i (by omega)⟩) hb2
  replace he5 := (g (o + 5) (by omega)).trans he5
  replace he6 := (g (o + 6) (by omega)).trans he6
  refine C_aload_n hC 0 rfl dX3_init_52 ?_
  refine C_aload_n hC 3 rfl dX3_init_53 ?_
  refine D_putF (N := o + 7) hC hI ff_X3_36 (Or.inl ⟨_, rfl⟩) (o := o) (by omega) ha0 es (Nat.le_of_ble_eq_true rfl) dX3_init_54 (fun ee12 g es2 => ?_)
  replace es : ee12 o = .inr (3, [.ref t1, .ref t2, .ref t3, .null, .ref q1, .int 0, .ref q2, .ref q5, .ref q6]) := es2
  clear es2
  replace i2 := fun i (h : i < o) => (g i (by omega)).trans (i2 i h)
  replace he1 := (g (o + 1) (by omega)).trans he1
  replace hb2 := Bm_X0 (fun i _ h2 => ⟨rfl, g i (by omega)⟩) hb2
  replace he5 := (g (o + 5) (by omega)).trans he5
  replace he6 := (g (o + 6) (by omega)).trans he6
  refine C_aload_n hC 0 rfl dX3_init_57 ?_
  refine C_aload hC 4 rfl dX3_init_58 ?_
  refine D_putF (N := o + 7) hC hI ff_X3_40 (Or.inl ⟨_, rfl⟩) (o := o) (by omega) ha0 es (Nat.le_of_ble_eq_true rfl) dX3_init_60 (fun ee13 g es2 => ?_)
  replace es : ee13 o = .inr (3, [.ref t1, .ref t2, .ref t3, .ref t4, .ref q1, .int 0, .ref q2, .ref q5, .ref q6]) := es2
  clear es2
  replace i2 := fun i (h : i < o) => (g i (by omega)).trans (i2 i h)
  replace he1 := (g (o + 1) (by omega)).trans he1
  replace hb2 := Bm_X0 (fun i _ h2 => ⟨rfl, g i (by omega)⟩) hb2
  replace he5 := (g (o + 5) (by omega)).trans he5
  replace he6 := (g (o + 6) (by omega)).trans he6
  refine C_vret (N := o + 7) hC hR rfl (by rw [hr]; exact ⟨Nat.le_refl _, Nat.le_refl _⟩) dX3_init_63 ⟨by omega, i1, i2, ?_⟩
  show Bl_X3 _ _ _ _ t1 t2 t3 t4
  unfold Bl_X3
  rw [ha1, ha2, ha5, ha6]
  exact ⟨es, he1, hb2, he5, he6⟩
def Bl_X9 (B : WB) (ea : Nat → Nat) (ee : Nat → va_E) (o : Nat) (t1 : Nat) (t2 : Nat) (t3 : Nat) : Prop := ee o = .inr (9, [.ref t1, .ref t2, .ref t3, .ref (ea (o + 1)), .ref (ea (o + 4)), .ref (ea (o + 7)), .ref (ea (o + 10)), .ref (ea (o + 11))]) ∧ Bl_X0 B ea ee (o + 1) ∧ Bl_X0 B ea ee (o + 4) ∧ Bl_X0 B ea ee (o + 7) ∧ ee (o + 10) = .inl (B.2.1, 208, .inl (fun _ => 0)) ∧ Bl_X0 B ea ee (o + 11)
theorem Bm_X9 {B : WB} {ea ea' : Nat → Nat} {ee ee' : Nat → va_E} {o t1 t2 t3 : Nat} (g : ∀ i, o ≤ i → i < o + 14 → ea' i = ea i ∧ ee' i = ee i) (h : Bl_X9 B ea ee o t1 t2 t3) : Bl_X9 B ea' ee' o t1 t2 t3 := by
  unfold Bl_X9 at h ⊢
  obtain ⟨h0, h1, h2, h3, h4, h5⟩ := h
  rw [(g (o + 1) (by omega) (by omega)).1, (g (o + 4) (by omega) (by omega)).1, (g (o + 7) (by omega) (by omega)).1, (g (o + 10) (by omega) (by omega)).1, (g (o + 11) (by omega) (by omega)).1]
  exact ⟨(g o (by omega) (by omega)).2.trans h0, Bm_X0 (fun i p1 p2 => g i (by omega) (by omega)) h1, Bm_X0 (fun i p1 p2 => g i (by omega) (by omega)) h2, Bm_X0 (fun i p1 p2 => g i (by omega) (by omega)) h3, (g (o + 10) (by omega) (by omega)).2.trans h4, Bm_X0 (fun i p1 p2 => g i (by omega) (by omega)) h5⟩
set_option maxRecDepth 20000 in
set_option maxHeartbeats 4000000 in
theorem ct_X9 {B : WB} {l : Launch} {o a0 t1 t2 t3 : Nat} {ea : Nat → Nat} {ee : Nat → va_E} (hfl : l.stackTraces = false) (ha0 : ea o = a0) (es : ee o = .inr (9, [.null, .null, .null, .null, .null, .null, .null, .null])) : OkC B l md_X9_init 13 1888 [.ref a0, .ref t1, .ref t2, .ref t3] (o + 1) ea ee (QB (fun ea ee => Bl_X9 B ea ee o t1 t2 t3) o 13 ea ee) := by
  refine OkC_of mk_X9_init hfl (Nat.le_of_ble_eq_true rfl) (fun G hC hR hB hr hg hI => ?_)
  subst hB; subst hg
  replace hI := hI rfl
  have i1 : ∀ i, i < o + 1 → ea i = ea i := fun _ _ => rfl
  have i2 : ∀ i, i < o → ee i = ee i := fun _ _ => rfl
  show VC G md_X9_init 0 0 (o + 1) ea ee 0 [(0, .ref a0), (1, .ref t1), (2, .ref t2), (3, .ref t3)] []
  refine C_aload_n hC 0 rfl dX9_init_0 ?_
  refine C_oinit hC oi_X9_3 dX9_init_1 (R8_of hr) (Nat.le_of_ble_eq_true rfl) ?_
  refine C_aload_n hC 0 rfl dX9_init_4 ?_
  refine D_new (N := o + 1) (k := 0) (n := 0) hC nw_X9_9 dX9_init_5 (by rw [hr]; exact ⟨Nat.le_of_ble_eq_true rfl, Nat.le_of_ble_eq_true rfl⟩) (fun q1 ea1 ee1 g ha1 he1 => ?_)
  replace i1 := fun i (h : i < o + 1) => (g i (by omega)).1.trans (i1 i h)
  replace i2 := fun i (h : i < o) => (g i (by omega)).2.trans (i2 i h)
  replace ha0 := (g o (by omega)).1.trans ha0
  replace es := (g o (by omega)).2.trans es
  refine C_dup hC rfl dX9_init_8 ?_
  refine C_init (N := o + 2) (k := 1) (n := 4) (kc := 2) (nc := 416) hC (As := []) li_X9_11 dX9_init_9 (d0 := md_X9_init.2.2.2.2) (by decide) (Rm_of hr) rfl (Nat.le_of_ble_eq_true rfl) (by rw [hr]; exact ⟨Nat.le_of_ble_eq_true rfl, Nat.le_of_ble_eq_true rfl⟩) (ct_X0 (o := o + 1) hfl ha1 he1) (fun N2 ea2 ee2 hq => ?_)
  obtain ⟨rfl, g1, g2, hb1⟩ := hq
  have g : Gr (o + 1) _ _ _ _ := fun i h => ⟨g1 i (by omega), g2 i h⟩
  replace i1 := fun i (h : i < o + 1) => (g i (by omega)).1.trans (i1 i h)
  replace i2 := fun i (h : i < o) => (g i (by omega)).2.trans (i2 i h)
  replace ha0 := (g o (by omega)).1.trans ha0
  replace es := (g o (by omega)).2.trans es
  replace ha1 := (g1 (o + 1) (by omega)).trans ha1
  clear he1 g1 g2
  refine D_putF (N := o + 4) hC hI ff_X9_12 (Or.inl ⟨_, rfl⟩) (o := o) (by omega) ha0 es (Nat.le_of_ble_eq_true rfl) dX9_init_12 (fun ee3 g es2 => ?_)
  replace es : ee3 o = .inr (9, [.null, .null, .null, .ref q1, .null, .null, .null, .null]) := es2
  clear es2
  replace i2 := fun i (h : i < o) => (g i (by omega)).trans (i2 i h)
  replace hb1 := Bm_X0 (fun i _ h2 => ⟨rfl, g i (by omega)⟩) hb1
  refine C_aload_n hC 0 rfl dX9_init_15 ?_
  refine D_new (N := o + 4) (k := 3) (n := 420) hC nw_X9_9 dX9_init_16 (by rw [hr]; exact ⟨Nat.le_of_ble_eq_true rfl, Nat.le_of_ble_eq_true rfl⟩) (fun q4 ea4 ee4 g ha4 he4 => ?_)
  replace i1 := fun i (h : i < o + 1) => (g i (by omega)).1.trans (i1 i h)
  replace i2 := fun i (h : i < o) => (g i (by omega)).2.trans (i2 i h)
  replace ha0 := (g o (by omega)).1.trans ha0
  replace es := (g o (by omega)).2.trans es
  replace ha1 := (g (o + 1) (by omega)).1.trans ha1
  replace hb1 := Bm_X0 (fun i _ h2 => g i (by omega)) hb1
  refine C_dup hC rfl dX9_init_19 ?_
  refine C_init (N := o + 5) (k := 4) (n := 424) (kc := 2) (nc := 416) hC (As := []) li_X9_11 dX9_init_20 (d0 := md_X9_init.2.2.2.2) (by decide) (Rm_of hr) rfl (Nat.le_of_ble_eq_true rfl) (by rw [hr]; exact ⟨Nat.le_of_ble_eq_true rfl, Nat.le_of_ble_eq_true rfl⟩) (ct_X0 (o := o + 4) hfl ha4 he4) (fun N5 ea5 ee5 hq => ?_)
  obtain ⟨rfl, g1, g2, hb4⟩ := hq
  have g : Gr (o + 4) _ _ _ _ := fun i h => ⟨g1 i (by omega), g2 i h⟩
  replace i1 := fun i (h : i < o + 1) => (g i (by omega)).1.trans (i1 i h)
  replace i2 := fun i (h : i < o) => (g i (by omega)).2.trans (i2 i h)
  replace ha0 := (g o (by omega)).1.trans ha0
  replace es := (g o (by omega)).2.trans es
  replace ha1 := (g (o + 1) (by omega)).1.trans ha1
  replace hb1 := Bm_X0 (fun i _ h2 => g i (by omega)) hb1
  replace ha4 := (g1 (o + 4) (by omega)).trans ha4
  clear he4 g1 g2
  refine D_putF (N := o + 7) hC hI ff_X9_18 (Or.inl ⟨_, rfl⟩) (o := o) (by omega) ha0 es (Nat.le_of_ble_eq_true rfl) dX9_init_23 (fun ee6 g es2 => ?_)
  replace es : ee6 o = .inr (9, [.null, .null, .null, .ref q1, .ref q4, .null, .null, .null]) := es2
  clear es2
  replace i2 := fun i (h : i < o) => (g i (by omega)).trans (i2 i h)
  replace hb1 := Bm_X0 (fun i _ h2 => ⟨rfl, g i (by omega)⟩) hb1
  replace hb4 := Bm_X0 (fun i _ h2 => ⟨rfl, g i (by omega)⟩) hb4
  refine C_aload_n hC 0 rfl dX9_init_26 ?_
  refine D_new (N := o + 7) (k := 6) (n := 840) hC nw_X9_9 dX9_init_27 (by rw [hr]; exact ⟨Nat.le_of_ble_eq_true rfl, Nat.le_of_ble_eq_true rfl⟩) (fun q7 ea7 ee7 g ha7 he7 => ?_)
  replace i1 := fun i (h : i < o + 1) => (g i (by omega)).1.trans (i1 i h)
  replace i2 := fun i (h : i < o) => (g i (by omega)).2.trans (i2 i h)
  replace ha0 := (g o (by omega)).1.trans ha0
  replace es := (g o (by omega)).2.trans es
  replace ha1 := (g (o + 1) (by omega)).1.trans ha1
  replace hb1 := Bm_X0 (fun i _ h2 => g i (by omega)) hb1
  replace ha4 := (g (o + 4) (by omega)).1.trans ha4
  replace hb4 := Bm_X0 (fun i _ h2 => g i (by omega)) hb4
  refine C_dup hC rfl dX9_init_30 ?_
  refine C_init (N := o + 8) (k := 7) (n := 844) (kc := 2) (nc := 416) hC (As := []) li_X9_11 dX9_init_31 (d0 := md_X9_init.2.2.2.2) (by decide) (Rm_of hr) rfl (Nat.le_of_ble_eq_true rfl) (by rw [hr]; exact ⟨Nat.le_of_ble_eq_true rfl, Nat.le_of_ble_eq_true rfl⟩) (ct_X0 (o := o + 7) hfl ha7 he7) (fun N8 ea8 ee8 hq => ?_)
  obtain ⟨rfl, g1, g2, hb7⟩ := hq
  have g : Gr (o + 7) _ _ _ _ := fun i h => ⟨g1 i (by omega), g2 i h⟩
  replace i1 := fun i (h : i < o + 1) => (g i (by omega)).1.trans (i1 i h)
  replace i2 := fun i (h : i < o) => (g i (by omega)).2.trans (i2 i h)
  replace ha0 := (g o (by omega)).1.trans ha0
  replace es := (g o (by omega)).2.trans es
  replace ha1 := (g (o + 1) (by omega)).1.trans ha1
  replace hb1 := Bm_X0 (fun i _ h2 => g i (by omega)) hb1
  replace ha4 := (g (o + 4) (by omega)).1.trans ha4
  replace hb4 := Bm_X0 (fun i _ h2 => g i (by omega)) hb4
  replace ha7 := (g1 (o + 7) (by omega)).trans ha7
  clear he7 g1 g2
  refine D_putF (N := o + 10) hC hI ff_X9_21 (Or.inl ⟨_, rfl⟩) (o := o) (by omega) ha0 es (Nat.le_of_ble_eq_true rfl) dX9_init_34 (fun ee9 g es2 => ?_)
  replace es : ee9 o = .inr (9, [.null, .null, .null, .ref q1, .ref q4, .ref q7, .null, .null]) := es2
  clear es2
  replace i2 := fun i (h : i < o) => (g i (by omega)).trans (i2 i h)
  replace hb1 := Bm_X0 (fun i _ h2 => ⟨rfl, g i (by omega)⟩) hb1
  replace hb4 := Bm_X0 (fun i _ h2 => ⟨rfl, g i (by omega)⟩) hb4
  replace hb7 := Bm_X0 (fun i _ h2 => ⟨rfl, g i (by omega)⟩) hb7
  refine C_aload_n hC 0 rfl dX9_init_37 ?_
  refine C_sipush hC (d := dX9_init_38) rfl ?_
  refine D_newI (N := o + 10) (k := 9) (n := 1260) hC 208 dX9_init_41 ac_I rfl (by decide) (by rw [hr]; exact ⟨Nat.le_of_ble_eq_true rfl, Nat.le_of_ble_eq_true rfl⟩) (fun q10 ea10 ee10 g ha10 he10 => ?_)
  replace i1 := fun i (h : i < o + 1) => (g i (by omega)).1.trans (i1 i h)
  replace i2 := fun i (h : i < o) => (g i (by omega)).2.trans (i2 i h)
  replace ha0 := (g o (by omega)).1.trans ha0
  replace es := (g o (by omega)).2.trans es
  replace ha1 := (g (o + 1) (by omega)).1.trans ha1
  replace hb1 := Bm_X0 (fun i _ h2 => g i (by omega)) hb1
  replace ha4 := (g (o + 4) (by omega)).1.trans ha4
  replace hb4 := Bm_X0 (fun i _ h2 => g i (by omega)) hb4
  replace ha7 := (g (o + 7) (by omega)).1.trans ha7
  replace hb7 := Bm_X0 (fun i _ h2 => g i (by omega)) hb7
  refine D_putF (N := o + 11) hC hI ff_X9_24 (Or.inr ⟨_, rfl⟩) (o := o) (by omega) ha0 es (Nat.le_of_ble_eq_true rfl) dX9_init_43 (fun ee11 g es2 => ?_)
  replace es : ee11 o = .inr (9, [.null, .null, .null, .ref q1, .ref q4, .ref q7, .ref q10, .null]) := es2
  clear es2
  replace i2 := fun i (h : i < o) => (g i (by omega)).trans (i2 i h)
  replace hb1 := Bm_X0 (fun i _ h2 => ⟨rfl, g i (by omega)⟩) hb1
  replace hb4 := Bm_X0 (fun i _ h2 => ⟨rfl, g i (by omega)⟩) hb4
  replace hb7 := Bm_X0 (fun i _ h2 => ⟨rfl, g i (by omega)⟩) hb7
  replace he10 := (g (o + 10) (by omega)).trans he10
  refine C_aload_n hC 0 rfl dX9_init_46 ?_
  refine D_new (N := o + 11) (k := 10) (n := 1468) hC nw_X9_9 dX9_init_47 (by rw [hr]; exact ⟨Nat.le_of_ble_eq_true rfl, Nat.le_of_ble_eq_true rfl⟩) (fun q11 ea12 ee12 g ha11 he11 => ?_)
  replace i1 := fun i (h : i < o + 1) => (g i (by omega)).1.trans (i1 i h)
  replace i2 := fun i (h : i < o) => (g i (by omega)).2.trans (i2 i h)
  replace ha0 := (g o (by omega)).1.trans ha0
  replace es := (g o (by omega)).2.trans es
  replace ha1 := (g (o + 1) (by omega)).1.trans ha1
  replace hb1 := Bm_X0 (fun i _ h2 => g i (by omega)) hb1
  replace ha4 := (g (o + 4) (by omega)).1.trans ha4
  replace hb4 := Bm_X0 (fun i _ h2 => g i (by omega)) hb4
  replace ha7 := (g (o + 7) (by omega)).1.trans ha7
  replace hb7 := Bm_X0 (fun i _ h2 => g i (by omega)) hb7
  replace ha10 := (g (o + 10) (by omega)).1.trans ha10
  replace he10 := (g (o + 10) (by omega)).2.trans he10
  refine C_dup hC rfl dX9_init_50 ?_
  refine C_init (N := o + 12) (k := 11) (n := 1472) (kc := 2) (nc := 416) hC (As := []) li_X9_11 dX9_init_51 (d0 := md_X9_init.2.2.2.2) (by decide) (Rm_of hr) rfl (Nat.le_of_ble_eq_true rfl) (by rw [hr]; exact ⟨Nat.le_of_ble_eq_true rfl, Nat.le_of_ble_eq_true rfl⟩) (ct_X0 (o := o + 11) hfl ha11 he11) (fun N13 ea13 ee13 hq => ?_)
  obtain ⟨rfl, g1, g2, hb11⟩ := hq
  have g : Gr (o + 11) _ _ _ _ := fun i h => ⟨g1 i (by omega), g2 i h⟩
  replace i1 := fun i (h : i < o + 1) => (g i (by omega)).1.trans (i1 i h)
  replace i2 := fun i (h : i < o) => (g i (by omega)).2.trans (i2 i h)
  replace ha0 := (g o (by omega)).1.trans ha0
  replace es := (g o (by omega)).2.trans es
  replace ha1 := (g (o + 1) (by omega)).1.trans ha1
  replace hb1 := Bm_X0 (fun i _ h2 => g i (by omega)) hb1
  replace ha4 := (g (o + 4) (by omega)).1.trans ha4
  replace hb4 := Bm_X0 (fun i _ h2 => g i (by omega)) hb4
  replace ha7 := (g (o + 7) (by omega)).1.trans ha7
  replace hb7 := Bm_X0 (fun i _ h2 => g i (by omega)) hb7
  replace ha10 := (g (o + 10) (by omega)).1.trans ha10
  replace he10 := (g (o + 10) (by omega)).2.trans he10
  replace ha11 := (g1 (o + 11) (by omega)).trans ha11
  clear he11 g1 g2
  refine D_putF (N := o + 14) hC hI ff_X9_28 (Or.inl ⟨_, rfl⟩) (o := o) (by omega) ha0 es (Nat.le_of_ble_eq_true rfl) dX9_init_54 (fun ee14 g es2 => ?_)
  replace es : ee14 o = .inr (9, [.null, .null, .null, .ref q1, .ref q4, .ref q7, .ref q10, .ref q11]) := es2
  clear es2
  replace i2 := fun i (h : i < o) => (g i (by omega)).trans (i2 i h)
  replace hb1 := Bm_X0 (fun i _ h2 => ⟨rfl, g i (by omega)⟩) hb1
  replace hb4 := Bm_X0 (fun i _ h2 => ⟨rfl, g i (by omega)⟩) hb4
  replace hb7 := Bm_X0 (fun i _ h2 => ⟨rfl, g i (by omega)⟩) hb7
  replace he10 := (g (o + 10) (by omega)).trans he10
  replace hb11 := Bm_X0 (fun i _ h2 => ⟨rfl, g i (by omega)⟩) hb11
  refine C_aload_n hC 0 rfl dX9_init_57 ?_
  refine C_aload_n hC 1 rfl dX9_init_58 ?_
  refine D_putF (N := o + 14) hC hI ff_X9_31 (Or.inl ⟨_, rfl⟩) (o := o) (by omega) ha0 es (Nat.le_of_ble_eq_true rfl) dX9_init_59 (fun ee15 g es2 => ?_)
  replace es : ee15 o = .inr (9, [.ref t1, .null, .null, .ref q1, .ref q4, .ref q7, .ref q10, .ref q11]) := es2
  clear es2
  replace i2 := fun i (h : i < o) => (g i (by omega)).trans (i2 i h)
  replace hb1 := Bm_X0 (fun i _ h2 => ⟨rfl, g i (by omega)⟩) hb1
  replace hb4 := Bm_X0 (fun i _ h2 => ⟨rfl, g i (by omega)⟩) hb4
  replace hb7 := Bm_X0 (fun i _ h2 => ⟨rfl, g i (by omega)⟩) hb7
  replace he10 := (g (o + 10) (by omega)).trans he10
  replace hb11 := Bm_X0 (fun i _ h2 => ⟨rfl, g i (by omega)⟩) hb11
  refine C_aload_n hC 0 rfl dX9_init_62 ?_
  refine C_aload_n hC 2 rfl dX9_init_63 ?_
  refine D_putF (N := o + 14) hC hI ff_X9_35 (Or.inl ⟨_, rfl⟩) (o := o) (by omega) ha0 es (Nat.le_of_ble_eq_true rfl) dX9_init_64 (fun ee16 g es2 => ?_)
  replace es : ee16 o = .inr (9, [.ref t1, .ref t2, .null, .ref q1, .ref q4, .ref q7, .ref q10, .ref q11]) := es2
  clear es2
  replace i2 := fun i (h : i < o) => (g i (by omega)).trans (i2 i h)
  replace hb1 := Bm_X0 (fun i _ h2 => ⟨rfl, g i (by omega)⟩) hb1
  replace hb4 := Bm_X0 (fun i _ h2 => ⟨rfl, g i (by omega)⟩) hb4
  replace hb7 := Bm_X0 (fun i _ h2 => ⟨rfl, g i (by omega)⟩) hb7
  replace he10 := (g (o + 10) (by omega)).trans he10
  replace hb11 := Bm_X0 (fun i _ h2 => ⟨rfl, g i (by omega)⟩) hb11
  refine C_aload_n hC 0 rfl dX9_init_67 ?_
  refine C_aload_n hC 3 rfl dX9_init_68 ?_
  refine D_putF (N := o + 14) hC hI ff_X9_39 (Or.inl ⟨_, rfl⟩) (o := o) (by omega) ha0 es (Nat.le_of_ble_eq_true rfl) dX9_init_69 (fun ee17 g es2 => ?_)
  replace es : ee17 o = .inr (9, [.ref t1, .ref t2, .ref t3, .ref q1, .ref q4, .ref q7, .ref q10, .ref q11]) := es2
  clear es2
  replace i2 := fun i (h : i < o) => (g i (by omega)).trans (i2 i h)
  replace hb1 := Bm_X0 (fun i _ h2 => ⟨rfl, g i (by omega)⟩) hb1
  replace hb4 := Bm_X0 (fun i _ h2 => ⟨rfl, g i (by omega)⟩) hb4
  replace hb7 := Bm_X0 (fun i _ h2 => ⟨rfl, g i (by omega)⟩) hb7
  replace he10 := (g (o + 10) (by omega)).trans he10
  replace hb11 := Bm_X0 (fun i _ h2 => ⟨rfl, g i (by omega)⟩) hb11
  refine C_vret (N := o + 14) hC hR rfl (by rw [hr]; exact ⟨Nat.le_refl _, Nat.le_refl _⟩) dX9_init_72 ⟨by omega, i1, i2, ?_⟩
  show Bl_X9 _ _ _ _ t1 t2 t3
  unfold Bl_X9
  rw [ha1, ha4, ha7, ha10, ha11]
  exact ⟨es, hb1, hb4, hb7, he10, hb11⟩
def Bl_X11 (B : WB) (ea : Nat → Nat) (ee : Nat → va_E) (o : Nat) : Prop := ee o = .inr (11, [.ref (ea (o + 1)), .ref (ea (o + 6)), .ref (ea (o + 21)), .ref (ea (o + 29)), .ref (ea (o + 31)), .ref (ea (o + 39)), .ref (ea (o + 46)), .ref (ea (o + 51)), .ref (ea (o + 58))]) ∧ Bl_X4 B ea ee (o + 1) ∧ Bl_X10 B ea ee (o + 6) (ea (o + 1)) ∧ Bl_X8 B ea ee (o + 21) ∧ Bl_X7 B ea ee (o + 29) (ea (o + 6)) ∧ Bl_X6 B ea ee (o + 31) (ea (o + 6)) (ea (o + 21)) (ea (o + 29)) ∧ Bl_X1 B ea ee (o + 39) (ea (o + 6)) (ea (o + 21)) (ea (o + 29)) (ea (o + 31)) ∧ Bl_X2 B ea ee (o + 46) (ea (o + 6)) (ea (o + 29)) (ea (o + 39)) ∧ Bl_X3 B ea ee (o + 51) (ea (o + 6)) (ea (o + 29)) (ea (o + 39)) (ea (o + 31)) ∧ Bl_X9 B ea ee (o + 58) (ea (o + 6)) (ea (o + 21)) (ea (o + 29))
theorem Bm_X11 {B : WB} {ea ea' : Nat → Nat} {ee ee' : Nat → va_E} {o : Nat} (g : ∀ i, o ≤ i → i < o + 72 → ea' i = ea i ∧ ee' i = ee i) (h : Bl_X11 B ea ee o) : Bl_X11 B ea' ee' o := by
  unfold Bl_X11 at h ⊢
  obtain ⟨h0, h1, h2, h3, h4, h5, h6, h7, h8, h9⟩ := h
  rw [(g (o + 1) (by omega) (by omega)).1, (g (o + 6) (by omega) (by omega)).1, (g (o + 21) (by omega) (by omega)).1, (g (o + 29) (by omega) (by omega)).1, (g (o + 31) (by omega) (by omega)).1, (g (o + 39) (by omega) (by omega)).1, (g (o + 46) (by omega) (by omega)).1, (g (o + 51) (by omega) (by omega)).1, (g (o + 58) (by omega) (by omega)).1]
  exact ⟨(g o (by omega) (by omega)).2.trans h0, Bm_X4 (fun i p1 p2 => g i (by omega) (by omega)) h1, Bm_X10 (fun i p1 p2 => g i (by omega) (by omega)) h2, Bm_X8 (fun i p1 p2 => g i (by omega) (by omega)) h3, Bm_X7 (fun i p1 p2 => g i (by omega) (by omega)) h4, Bm_X6 (fun i p1 p2 => g i (by omega) (by omega)) h5, Bm_X1 (fun i p1 p2 => g i (by omega) (by omega)) h6, Bm_X2 (fun i p1 p2 => g i (by omega) (by omega)) h7, Bm_X3 (fun i p1 p2 => g i (by omega) (by omega)) h8, Bm_X9 (fun i p1 p2 => g i (by omega) (by omega)) h9⟩
set_option maxRecDepth 20000 in
set_option maxHeartbeats 4000000 in
theorem ct_X11 {B : WB} {l : Launch} {o a0 : Nat} {ea : Nat → Nat} {ee : Nat → va_E} (hfl : l.stackTraces = false) (ha0 : ea o = a0) (es : ee o = .inr (11, [.null, .null, .null, .null, .null, .null, .null, .null, .null])) : OkC B l md_X11_init 71 12484 [.ref a0] (o + 1) ea ee (QB (fun ea ee => Bl_X11 B ea ee o) o 71 ea ee) := by
  refine OkC_of mk_X11_init hfl (Nat.le_of_ble_eq_true rfl) (fun G hC hR hB hr hg hI => ?_)
  subst hB; subst hg
  replace hI := hI rfl
  have i1 : ∀ i, i < o + 1 → ea i = ea i := fun _ _ => rfl
  have i2 : ∀ i, i < o → ee i = ee i := fun _ _ => rfl
  show VC G md_X11_init 0 0 (o + 1) ea ee 0 [(0, .ref a0)] []
  refine C_aload_n hC 0 rfl dX11_init_0 ?_
  refine C_oinit hC oi_X11_3 dX11_init_1 (R8_of hr) (Nat.le_of_ble_eq_true rfl) ?_
  refine C_aload_n hC 0 rfl dX11_init_4 ?_
  refine D_new (N := o + 1) (k := 0) (n := 0) hC nw_X11_9 dX11_init_5 (by rw [hr]; exact ⟨Nat.le_of_ble_eq_true rfl, Nat.le_of_ble_eq_true rfl⟩) (fun q1 ea1 ee1 g ha1 he1 => ?_)
  replace i1 := fun i (h : i < o + 1) => (g i (by omega)).1.trans (i1 i h)
  replace i2 := fun i (h : i < o) => (g i (by omega)).2.trans (i2 i h)
  replace ha0 := (g o (by omega)).1.trans ha0
  replace es := (g o (by omega)).2.trans es
  refine C_dup hC rfl dX11_init_8 ?_
  refine C_init (N := o + 2) (k := 1) (n := 5) (kc := 4) (nc := 48) hC (As := []) li_X11_11 dX11_init_9 (d0 := md_X11_init.2.2.2.2) (by decide) (Rm_of hr) rfl (Nat.le_of_ble_eq_true rfl) (by rw [hr]; exact ⟨Nat.le_of_ble_eq_true rfl, Nat.le_of_ble_eq_true rfl⟩) (ct_X4 (o := o + 1) hfl ha1 he1) (fun N2 ea2 ee2 hq => ?_)
  obtain ⟨rfl, g1, g2, hb1⟩ := hq
  have g : Gr (o + 1) _ _ _ _ := fun i h => ⟨g1 i (by omega), g2 i h⟩
  replace i1 := fun i (h : i < o + 1) => (g i (by omega)).1.trans (i1 i h)
  replace i2 := fun i (h : i < o) => (g i (by omega)).2.trans (i2 i h)
  replace ha0 := (g o (by omega)).1.trans ha0
  replace es := (g o (by omega)).2.trans es
  replace ha1 := (g1 (o + 1) (by omega)).trans ha1
  clear he1 g1 g2
  refine D_putF (N := o + 6) hC hI ff_X11_12 (Or.inl ⟨_, rfl⟩) (o := o) (by omega) ha0 es (Nat.le_of_ble_eq_true rfl) dX11_init_12 (fun ee3 g es2 => ?_)
  replace es : ee3 o = .inr (11, [.ref q1, .null, .null, .null, .null, .null, .null, .null, .null]) := es2
  clear es2
  replace i2 := fun i (h : i < o) => (g i (by omega)).trans (i2 i h)
  replace hb1 := Bm_X4 (fun i _ h2 => ⟨rfl, g i (by omega)⟩) hb1
  refine C_aload_n hC 0 rfl dX11_init_15 ?_
  refine D_new (N := o + 6) (k := 5) (n := 53) hC nw_X11_16 dX11_init_16 (by rw [hr]; exact ⟨Nat.le_of_ble_eq_true rfl, Nat.le_of_ble_eq_true rfl⟩) (fun q6 ea4 ee4 g ha6 he6 => ?_)
  replace i1 := fun i (h : i < o + 1) => (g i (by omega)).1.trans (i1 i h)
  replace i2 := fun i (h : i < o) => (g i (by omega)).2.trans (i2 i h)
  replace ha0 := (g o (by omega)).1.trans ha0
  replace es := (g o (by omega)).2.trans es
  replace ha1 := (g (o + 1) (by omega)).1.trans ha1
  replace hb1 := Bm_X4 (fun i _ h2 => g i (by omega)) hb1
  refine C_dup hC rfl dX11_init_19 ?_
  refine C_aload_n hC 0 rfl dX11_init_20 ?_
  refine C_get (N := o + 7) hC fr_X11_12 (o := o) (by omega) ha0 es rfl dX11_init_21 ?_
  refine C_init (N := o + 7) (k := 6) (n := 73) (kc := 14) (nc := 4368) hC (As := [.ref q1]) li_X11_18 dX11_init_24 (d0 := md_X11_init.2.2.2.2) (by decide) (Rm_of hr) rfl (Nat.le_of_ble_eq_true rfl) (by rw [hr]; exact ⟨Nat.le_of_ble_eq_true rfl, Nat.le_of_ble_eq_true rfl⟩) (ct_X10 (o := o + 6) hfl ha6 he6) (fun N5 ea5 ee5 hq => ?_)
  obtain ⟨rfl, g1, g2, hb6⟩ := hq
  have g : Gr (o + 6) _ _ _ _ := fun i h => ⟨g1 i (by omega), g2 i h⟩
  replace i1 := fun i (h : i < o + 1) => (g i (by omega)).1.trans (i1 i h)
  replace i2 := fun i (h : i < o) => (g i (by omega)).2.trans (i2 i h)
  replace ha0 := (g o (by omega)).1.trans ha0
  replace es := (g o (by omega)).2.trans es
  replace ha1 := (g (o + 1) (by omega)).1.trans ha1
  replace hb1 := Bm_X4 (fun i _ h2 => g i (by omega)) hb1
  replace ha6 := (g1 (o + 6) (by omega)).trans ha6
  clear he6 g1 g2
  refine D_putF (N := o + 21) hC hI ff_X11_21 (Or.inl ⟨_, rfl⟩) (o := o) (by omega) ha0 es (Nat.le_of_ble_eq_true rfl) dX11_init_27 (fun ee6 g es2 => ?_)
  replace es : ee6 o = .inr (11, [.ref q1, .ref q6, .null, .null, .null, .null, .null, .null, .null]) := es2
  clear es2
  replace i2 := fun i (h : i < o) => (g i (by omega)).trans (i2 i h)
  replace hb1 := Bm_X4 (fun i _ h2 => ⟨rfl, g i (by omega)⟩) hb1
  replace hb6 := Bm_X10 (fun i _ h2 => ⟨rfl, g i (by omega)⟩) hb6
  refine C_aload_n hC 0 rfl dX11_init_30 ?_
  refine D_new (N := o + 21) (k := 20) (n := 4441) hC nw_X11_25 dX11_init_31 (by rw [hr]; exact ⟨Nat.le_of_ble_eq_true rfl, Nat.le_of_ble_eq_true rfl⟩) (fun q21 ea7 ee7 g ha21 he21 => ?_)
  replace i1 := fun i (h : i < o + 1) => (g i (by omega)).1.trans (i1 i h)
  replace i2 := fun i (h : i < o) => (g i (by omega)).2.trans (i2 i h)
  replace ha0 := (g o (by omega)).1.trans ha0
  replace es := (g o (by omega)).2.trans es
  replace ha1 := (g (o + 1) (by omega)).1.trans ha1
  replace hb1 := Bm_X4 (fun i _ h2 => g i (by omega)) hb1
  replace ha6 := (g (o + 6) (by omega)).1.trans ha6
  replace hb6 := Bm_X10 (fun i _ h2 => g i (by omega)) hb6
  refine C_dup hC rfl dX11_init_34 ?_
  refine C_init (N := o + 22) (k := 21) (n := 4447) (kc := 7) (nc := 500) hC (As := []) li_X11_27 dX11_init_35 (d0 := md_X11_init.2.2.2.2) (by decide) (Rm_of hr) rfl (Nat.le_of_ble_eq_true rfl) (by rw [hr]; exact ⟨Nat.le_of_ble_eq_true rfl, Nat.le_of_ble_eq_true rfl⟩) (ct_X8 (o := o + 21) hfl ha21 he21) (fun N8 ea8 ee8 hq => ?_)
  obtain ⟨rfl, g1, g2, hb21⟩ := hq
  have g : Gr (o + 21) _ _ _ _ := fun i h => ⟨g1 i (by omega), g2 i h⟩
  replace i1 := fun i (h : i < o + 1) => (g i (by omega)).1.trans (i1 i h)
  replace i2 := fun i (h : i < o) => (g i (by omega)).2.trans (i2 i h)
  replace ha0 := (g o (by omega)).1.trans ha0
  replace es := (g o (by omega)).2.trans es
  replace ha1 := (g (o + 1) (by omega)).1.trans ha1
  replace hb1 := Bm_X4 (fun i _ h2 => g i (by omega)) hb1
  replace ha6 := (g (o + 6) (by omega)).1.trans ha6
  replace hb6 := Bm_X10 (fun i _ h2 => g i (by omega)) hb6
  replace ha21 := (g1 (o + 21) (by omega)).trans ha21
  clear he21 g1 g2
  refine D_putF (N := o + 29) hC hI ff_X11_28 (Or.inl ⟨_, rfl⟩) (o := o) (by omega) ha0 es (Nat.le_of_ble_eq_true rfl) dX11_init_38 (fun ee9 g es2 => ?_)
  replace es : ee9 o = .inr (11, [.ref q1, .ref q6, .ref q21, .null, .null, .null, .null, .null, .null]) := es2
  clear es2
  replace i2 := fun i (h : i < o) => (g i (by omega)).trans (i2 i h)
  replace hb1 := Bm_X4 (fun i _ h2 => ⟨rfl, g i (by omega)⟩) hb1
  replace hb6 := Bm_X10 (fun i _ h2 => ⟨rfl, g i (by omega)⟩) hb6
  replace hb21 := Bm_X8 (fun i _ h2 => ⟨rfl, g i (by omega)⟩) hb21
  refine C_aload_n hC 0 rfl dX11_init_41 ?_
  refine D_new (N := o + 29) (k := 28) (n := 4947) hC nw_X11_32 dX11_init_42 (by rw [hr]; exact ⟨Nat.le_of_ble_eq_true rfl, Nat.le_of_ble_eq_true rfl⟩) (fun q29 ea10 ee10 g ha29 he29 => ?_)
  replace i1 := fun i (h : i < o + 1) => (g i (by omega)).1.trans (i1 i h)
  replace i2 := fun i (h : i < o) => (g i (by omega)).2.trans (i2 i h)
  replace ha0 := (g o (by omega)).1.trans ha0
  replace es := (g o (by omega)).2.trans es
  replace ha1 := (g (o + 1) (by omega)).1.trans ha1
  replace hb1 := Bm_X4 (fun i _ h2 => g i (by omega)) hb1
  replace ha6 := (g (o + 6) (by omega)).1.trans ha6
  replace hb6 := Bm_X10 (fun i _ h2 => g i (by omega)) hb6
  replace ha21 := (g (o + 21) (by omega)).1.trans ha21
  replace hb21 := Bm_X8 (fun i _ h2 => g i (by omega)) hb21
  refine C_dup hC rfl dX11_init_45 ?_
  refine C_aload_n hC 0 rfl dX11_init_46 ?_
  refine C_get (N := o + 30) hC fr_X11_21 (o := o) (by omega) ha0 es rfl dX11_init_47 ?_
  refine C_init (N := o + 30) (k := 29) (n := 4949) (kc := 1) (nc := 208) hC (As := [.ref q6]) li_X11_34 dX11_init_50 (d0 := md_X11_init.2.2.2.2) (by decide) (Rm_of hr) rfl (Nat.le_of_ble_eq_true rfl) (by rw [hr]; exact ⟨Nat.le_of_ble_eq_true rfl, Nat.le_of_ble_eq_true rfl⟩) (ct_X7 (o := o + 29) hfl ha29 he29) (fun N11 ea11 ee11 hq => ?_)
  obtain ⟨rfl, g1, g2, hb29⟩ := hq
  have g : Gr (o + 29) _ _ _ _ := fun i h => ⟨g1 i (by omega), g2 i h⟩
  replace i1 := fun i (h : i < o + 1) => (g i (by omega)).1.trans (i1 i h)
  replace i2 := fun i (h : i < o) => (g i (by omega)).2.trans (i2 i h)
  replace ha0 := (g o (by omega)).1.trans ha0
  replace es := (g o (by omega)).2.trans es
  replace ha1 := (g (o + 1) (by omega)).1.trans ha1
  replace hb1 := Bm_X4 (fun i _ h2 => g i (by omega)) hb1
  replace ha6 := (g (o + 6) (by omega)).1.trans ha6
  replace hb6 := Bm_X10 (fun i _ h2 => g i (by omega)) hb6
  replace ha21 := (g (o + 21) (by omega)).1.trans ha21
  replace hb21 := Bm_X8 (fun i _ h2 => g i (by omega)) hb21
  replace ha29 := (g1 (o + 29) (by omega)).trans ha29
  clear he29 g1 g2
  refine D_putF (N := o + 31) hC hI ff_X11_37 (Or.inl ⟨_, rfl⟩) (o := o) (by omega) ha0 es (Nat.le_of_ble_eq_true rfl) dX11_init_53 (fun ee12 g es2 => ?_)
  replace es : ee12 o = .inr (11, [.ref q1, .ref q6, .ref q21, .ref q29, .null, .null, .null, .null, .null]) := es2
  clear es2
  replace i2 := fun i (h : i < o) => (g i (by omega)).trans (i2 i h)
  replace hb1 := Bm_X4 (fun i _ h2 => ⟨rfl, g i (by omega)⟩) hb1
  replace hb6 := Bm_X10 (fun i _ h2 => ⟨rfl, g i (by omega)⟩) hb6
  replace hb21 := Bm_X8 (fun i _ h2 => ⟨rfl, g i (by omega)⟩) hb21
  replace hb29 := Bm_X7 (fun i _ h2 => ⟨rfl, g i (by omega)⟩) hb29
  refine C_aload_n hC 0 rfl dX11_init_56 ?_
  refine D_new (N := o + 31) (k := 30) (n := 5157) hC nw_X11_41 dX11_init_57 (by rw [hr]; exact ⟨Nat.le_of_ble_eq_true rfl, Nat.le_of_ble_eq_true rfl⟩) (fun q31 ea13 ee13 g ha31 he31 => ?_)
  replace i1 := fun i (h : i < o + 1) => (g i (by omega)).1.trans (i1 i h)
  replace i2 := fun i (h : i < o) => (g i (by omega)).2.trans (i2 i h)
  replace ha0 := (g o (by omega)).1.trans ha0
  replace es := (g o (by omega)).2.trans es
  replace ha1 := (g (o + 1) (by omega)).1.trans ha1
  replace hb1 := Bm_X4 (fun i _ h2 => g i (by omega)) hb1
  replace ha6 := (g (o + 6) (by omega)).1.trans ha6
  replace hb6 := Bm_X10 (fun i _ h2 => g i (by omega)) hb6
  replace ha21 := (g (o + 21) (by omega)).1.trans ha21
  replace hb21 := Bm_X8 (fun i _ h2 => g i (by omega)) hb21
  replace ha29 := (g (o + 29) (by omega)).1.trans ha29
  replace hb29 := Bm_X7 (fun i _ h2 => g i (by omega)) hb29
  refine C_dup hC rfl dX11_init_60 ?_
  refine C_aload_n hC 0 rfl dX11_init_61 ?_
  refine C_get (N := o + 32) hC fr_X11_21 (o := o) (by omega) ha0 es rfl dX11_init_62 ?_
  refine C_aload_n hC 0 rfl dX11_init_65 ?_
  refine C_get (N := o + 32) hC fr_X11_28 (o := o) (by omega) ha0 es rfl dX11_init_66 ?_
  refine C_aload_n hC 0 rfl dX11_init_69 ?_
  refine C_get (N := o + 32) hC fr_X11_37 (o := o) (by omega) ha0 es rfl dX11_init_70 ?_
  refine C_init (N := o + 32) (k := 31) (n := 5165) (kc := 7) (nc := 2504) hC (As := [.ref q6, .ref q21, .ref q29]) li_X11_43 dX11_init_73 (d0 := md_X11_init.2.2.2.2) (by decide) (Rm_of hr) rfl (Nat.le_of_ble_eq_true rfl) (by rw [hr]; exact ⟨Nat.le_of_ble_eq_true rfl, Nat.le_of_ble_eq_true rfl⟩) (ct_X6 (o := o + 31) hfl ha31 he31) (fun N14 ea14 ee14 hq => ?_)
  obtain ⟨rfl, g1, g2, hb31⟩ := hq
  have g : Gr (o + 31) _ _ _ _ := fun i h => ⟨g1 i (by omega), g2 i h⟩
  replace i1 := fun i (h : i < o + 1) => (g i (by omega)).1.trans (i1 i h)
  replace i2 := fun i (h : i < o) => (g i (by omega)).2.trans (i2 i h)
  replace ha0 := (g o (by omega)).1.trans ha0
  replace es := (g o (by omega)).2.trans es
  replace ha1 := (g (o + 1) (by omega)).1.trans ha1
  replace hb1 := Bm_X4 (fun i _ h2 => g i (by omega)) hb1
  replace ha6 := (g (o + 6) (by omega)).1.trans ha6
  replace hb6 := Bm_X10 (fun i _ h2 => g i (by omega)) hb6
  replace ha21 := (g (o + 21) (by omega)).1.trans ha21
  replace hb21 := Bm_X8 (fun i _ h2 => g i (by omega)) hb21
  replace ha29 := (g (o + 29) (by omega)).1.trans ha29
  replace hb29 := Bm_X7 (fun i _ h2 => g i (by omega)) hb29
  replace ha31 := (g1 (o + 31) (by omega)).trans ha31
  clear he31 g1 g2
  refine D_putF (N := o + 39) hC hI ff_X11_46 (Or.inl ⟨_, rfl⟩) (o := o) (by omega) ha0 es (Nat.le_of_ble_eq_true rfl) dX11_init_76 (fun ee15 g es2 => ?_)
  replace es : ee15 o = .inr (11, [.ref q1, .ref q6, .ref q21, .ref q29, .ref q31, .null, .null, .null, .null]) := es2
  clear es2
  replace i2 := fun i (h : i < o) => (g i (by omega)).trans (i2 i h)
  replace hb1 := Bm_X4 (fun i _ h2 => ⟨rfl, g i (by omega)⟩) hb1
  replace hb6 := Bm_X10 (fun i _ h2 => ⟨rfl, g i (by omega)⟩) hb6
  replace hb21 := Bm_X8 (fun i _ h2 => ⟨rfl, g i (by omega)⟩) hb21
  replace hb29 := Bm_X7 (fun i _ h2 => ⟨rfl, g i (by omega)⟩) hb29
  replace hb31 := Bm_X6 (fun i _ h2 => ⟨rfl, g i (by omega)⟩) hb31
  refine C_aload_n hC 0 rfl dX11_init_79 ?_
  refine D_new (N := o + 39) (k := 38) (n := 7669) hC nw_X11_50 dX11_init_80 (by rw [hr]; exact ⟨Nat.le_of_ble_eq_true rfl, Nat.le_of_ble_eq_true rfl⟩) (fun q39 ea16 ee16 g ha39 he39 => ?_)
  replace i1 := fun i (h : i < o + 1) => (g i (by omega)).1.trans (i1 i h)
  replace i2 := fun i (h : i < o) => (g i (by omega)).2.trans (i2 i h)
  replace ha0 := (g o (by omega)).1.trans ha0
  replace es := (g o (by omega)).2.trans es
  replace ha1 := (g (o + 1) (by omega)).1.trans ha1
  replace hb1 := Bm_X4 (fun i _ h2 => g i (by omega)) hb1
  replace ha6 := (g (o + 6) (by omega)).1.trans ha6
  replace hb6 := Bm_X10 (fun i _ h2 => g i (by omega)) hb6
  replace ha21 := (g (o + 21) (by omega)).1.trans ha21
  replace hb21 := Bm_X8 (fun i _ h2 => g i (by omega)) hb21
  replace ha29 := (g (o + 29) (by omega)).1.trans ha29
  replace hb29 := Bm_X7 (fun i _ h2 => g i (by omega)) hb29
  replace ha31 := (g (o + 31) (by omega)).1.trans ha31
  replace hb31 := Bm_X6 (fun i _ h2 => g i (by omega)) hb31
  refine C_dup hC rfl dX11_init_83 ?_
  refine C_aload_n hC 0 rfl dX11_init_84 ?_
  refine C_get (N := o + 40) hC fr_X11_21 (o := o) (by omega) ha0 es rfl dX11_init_85 ?_
  refine C_aload_n hC 0 rfl dX11_init_88 ?_
  refine C_get (N := o + 40) hC fr_X11_28 (o := o) (by omega) ha0 es rfl dX11_init_89 ?_
  refine C_aload_n hC 0 rfl dX11_init_92 ?_
  refine C_get (N := o + 40) hC fr_X11_37 (o := o) (by omega) ha0 es rfl dX11_init_93 ?_
  refine C_aload_n hC 0 rfl dX11_init_96 ?_
  refine C_get (N := o + 40) hC fr_X11_46 (o := o) (by omega) ha0 es rfl dX11_init_97 ?_
  refine C_init (N := o + 40) (k := 39) (n := 7678) (kc := 6) (nc := 840) hC (As := [.ref q6, .ref q21, .ref q29, .ref q31]) li_X11_52 dX11_init_100 (d0 := md_X11_init.2.2.2.2) (by decide) (Rm_of hr) rfl (Nat.le_of_ble_eq_true rfl) (by rw [hr]; exact ⟨Nat.le_of_ble_eq_true rfl, Nat.le_of_ble_eq_true rfl⟩) (ct_X1 (o := o + 39) hfl ha39 he39) (fun N17 ea17 ee17 hq => ?_)
  obtain ⟨rfl, g1, g2, hb39⟩ := hq
  have g : Gr (o + 39) _ _ _ _ := fun i h => ⟨g1 i (by omega), g2 i h⟩
  replace i1 := fun i (h : i < o + 1) => (g i (by omega)).1.trans (i1 i h)
  replace i2 := fun i (h : i < o) => (g i (by omega)).2.trans (i2 i h)
  replace ha0 := (g o (by omega)).1.trans ha0
  replace es := (g o (by omega)).2.trans es
  replace ha1 := (g (o + 1) (by omega)).1.trans ha1
  replace hb1 := Bm_X4 (fun i _ h2 => g i (by omega)) hb1
  replace ha6 := (g (o + 6) (by omega)).1.trans ha6
  replace hb6 := Bm_X10 (fun i _ h2 => g i (by omega)) hb6
  replace ha21 := (g (o + 21) (by omega)).1.trans ha21
  replace hb21 := Bm_X8 (fun i _ h2 => g i (by omega)) hb21
  replace ha29 := (g (o + 29) (by omega)).1.trans ha29
  replace hb29 := Bm_X7 (fun i _ h2 => g i (by omega)) hb29
  replace ha31 := (g (o + 31) (by omega)).1.trans ha31
  replace hb31 := Bm_X6 (fun i _ h2 => g i (by omega)) hb31
  replace ha39 := (g1 (o + 39) (by omega)).trans ha39
  clear he39 g1 g2
  refine D_putF (N := o + 46) hC hI ff_X11_55 (Or.inl ⟨_, rfl⟩) (o := o) (by omega) ha0 es (Nat.le_of_ble_eq_true rfl) dX11_init_103 (fun ee18 g es2 => ?_)
  replace es : ee18 o = .inr (11, [.ref q1, .ref q6, .ref q21, .ref q29, .ref q31, .ref q39, .null, .null, .null]) := es2
  clear es2
  replace i2 := fun i (h : i < o) => (g i (by omega)).trans (i2 i h)
  replace hb1 := Bm_X4 (fun i _ h2 => ⟨rfl, g i (by omega)⟩) hb1
  replace hb6 := Bm_X10 (fun i _ h2 => ⟨rfl, g i (by omega)⟩) hb6
  replace hb21 := Bm_X8 (fun i _ h2 => ⟨rfl, g i (by omega)⟩) hb21
  replace hb29 := Bm_X7 (fun i _ h2 => ⟨rfl, g i (by omega)⟩) hb29
  replace hb31 := Bm_X6 (fun i _ h2 => ⟨rfl, g i (by omega)⟩) hb31
  replace hb39 := Bm_X1 (fun i _ h2 => ⟨rfl, g i (by omega)⟩) hb39
  refine C_aload_n hC 0 rfl dX11_init_106 ?_
  refine D_new (N := o + 46) (k := 45) (n := 8518) hC nw_X11_59 dX11_init_107 (by rw [hr]; exact ⟨Nat.le_of_ble_eq_true rfl, Nat.le_of_ble_eq_true rfl⟩) (fun q46 ea19 ee19 g ha46 he46 => ?_)
  replace i1 := fun i (h : i < o + 1) => (g i (by omega)).1.trans (i1 i h)
  replace i2 := fun i (h : i < o) => (g i (by omega)).2.trans (i2 i h)
  replace ha0 := (g o (by omega)).1.trans ha0
  replace es := (g o (by omega)).2.trans es
  replace ha1 := (g (o + 1) (by omega)).1.trans ha1
  replace hb1 := Bm_X4 (fun i _ h2 => g i (by omega)) hb1
  replace ha6 := (g (o + 6) (by omega)).1.trans ha6
  replace hb6 := Bm_X10 (fun i _ h2 => g i (by omega)) hb6
  replace ha21 := (g (o + 21) (by omega)).1.trans ha21
  replace hb21 := Bm_X8 (fun i _ h2 => g i (by omega)) hb21
  replace ha29 := (g (o + 29) (by omega)).1.trans ha29
  replace hb29 := Bm_X7 (fun i _ h2 => g i (by omega)) hb29
  replace ha31 := (g (o + 31) (by omega)).1.trans ha31
  replace hb31 := Bm_X6 (fun i _ h2 => g i (by omega)) hb31
  replace ha39 := (g (o + 39) (by omega)).1.trans ha39
  replace hb39 := Bm_X1 (fun i _ h2 => g i (by omega)) hb39
  refine C_dup hC rfl dX11_init_110 ?_
  refine C_aload_n hC 0 rfl dX11_init_111 ?_
  refine C_get (N := o + 47) hC fr_X11_21 (o := o) (by omega) ha0 es rfl dX11_init_112 ?_
  refine C_aload_n hC 0 rfl dX11_init_115 ?_
  refine C_get (N := o + 47) hC fr_X11_37 (o := o) (by omega) ha0 es rfl dX11_init_116 ?_
  refine C_aload_n hC 0 rfl dX11_init_119 ?_
  refine C_get (N := o + 47) hC fr_X11_55 (o := o) (by omega) ha0 es rfl dX11_init_120 ?_
  refine C_init (N := o + 47) (k := 46) (n := 8523) (kc := 4) (nc := 628) hC (As := [.ref q6, .ref q29, .ref q39]) li_X11_61 dX11_init_123 (d0 := md_X11_init.2.2.2.2) (by decide) (Rm_of hr) rfl (Nat.le_of_ble_eq_true rfl) (by rw [hr]; exact ⟨Nat.le_of_ble_eq_true rfl, Nat.le_of_ble_eq_true rfl⟩) (ct_X2 (o := o + 46) hfl ha46 he46) (fun N20 ea20 ee20 hq => ?_)
  obtain ⟨rfl, g1, g2, hb46⟩ := hq
  have g : Gr (o + 46) _ _ _ _ := fun i h => ⟨g1 i (by omega), g2 i h⟩
  replace i1 := fun i (h : i < o + 1) => (g i (by omega)).1.trans (i1 i h)
  replace i2 := fun i (h : i < o) => (g i (by omega)).2.trans (i2 i h)
  replace ha0 := (g o (by omega)).1.trans ha0
  replace es := (g o (by omega)).2.trans es
  replace ha1 := (g (o + 1) (by omega)).1.trans ha1
  replace hb1 := Bm_X4 (fun i _ h2 => g i (by omega)) hb1
  replace ha6 := (g (o + 6) (by omega)).1.trans ha6
  replace hb6 := Bm_X10 (fun i _ h2 => g i (by omega)) hb6
  replace ha21 := (g (o + 21) (by omega)).1.trans ha21
  replace hb21 := Bm_X8 (fun i _ h2 => g i (by omega)) hb21
  replace ha29 := (g (o + 29) (by omega)).1.trans ha29
  replace hb29 := Bm_X7 (fun i _ h2 => g i (by omega)) hb29
  replace ha31 := (g (o + 31) (by omega)).1.trans ha31
  replace hb31 := Bm_X6 (fun i _ h2 => g i (by omega)) hb31
  replace ha39 := (g (o + 39) (by omega)).1.trans ha39
  replace hb39 := Bm_X1 (fun i _ h2 => g i (by omega)) hb39
  replace ha46 := (g1 (o + 46) (by omega)).trans ha46
  clear he46 g1 g2
  refine D_putF (N := o + 51) hC hI ff_X11_64 (Or.inl ⟨_, rfl⟩) (o := o) (by omega) ha0 es (Nat.le_of_ble_eq_true rfl) dX11_init_126 (fun ee21 g es2 => ?_)
  replace es : ee21 o = .inr (11, [.ref q1, .ref q6, .ref q21, .ref q29, .ref q31, .ref q39, .ref q46, .null, .null]) := es2
  clear es2
  replace i2 := fun i (h : i < o) => (g i (by omega)).trans (i2 i h)
  replace hb1 := Bm_X4 (fun i _ h2 => ⟨rfl, g i (by omega)⟩) hb1
  replace hb6 := Bm_X10 (fun i _ h2 => ⟨rfl, g i (by omega)⟩) hb6
  replace hb21 := Bm_X8 (fun i _ h2 => ⟨rfl, g i (by omega)⟩) hb21
  replace hb29 := Bm_X7 (fun i _ h2 => ⟨rfl, g i (by omega)⟩) hb29
  replace hb31 := Bm_X6 (fun i _ h2 => ⟨rfl, g i (by omega)⟩) hb31
  replace hb39 := Bm_X1 (fun i _ h2 => ⟨rfl, g i (by omega)⟩) hb39
  replace hb46 := Bm_X2 (fun i _ h2 => ⟨rfl, g i (by omega)⟩) hb46
  refine C_aload_n hC 0 rfl dX11_init_129 ?_
  refine D_new (N := o + 51) (k := 50) (n := 9151) hC nw_X11_68 dX11_init_130 (by rw [hr]; exact ⟨Nat.le_of_ble_eq_true rfl, Nat.le_of_ble_eq_true rfl⟩) (fun q51 ea22 ee22 g ha51 he51 => ?_)
  replace i1 := fun i (h : i < o + 1) => (g i (by omega)).1.trans (i1 i h)
  replace i2 := fun i (h : i < o) => (g i (by omega)).2.trans (i2 i h)
  replace ha0 := (g o (by omega)).1.trans ha0
  replace es := (g o (by omega)).2.trans es
  replace ha1 := (g (o + 1) (by omega)).1.trans ha1
  replace hb1 := Bm_X4 (fun i _ h2 => g i (by omega)) hb1
  replace ha6 := (g (o + 6) (by omega)).1.trans ha6
  replace hb6 := Bm_X10 (fun i _ h2 => g i (by omega)) hb6
  replace ha21 := (g (o + 21) (by omega)).1.trans ha21
  replace hb21 := Bm_X8 (fun i _ h2 => g i (by omega)) hb21
  replace ha29 := (g (o + 29) (by omega)).1.trans ha29
  replace hb29 := Bm_X7 (fun i _ h2 => g i (by omega)) hb29
  replace ha31 := (g (o + 31) (by omega)).1.trans ha31
  replace hb31 := Bm_X6 (fun i _ h2 => g i (by omega)) hb31
  replace ha39 := (g (o + 39) (by omega)).1.trans ha39
  replace hb39 := Bm_X1 (fun i _ h2 => g i (by omega)) hb39
  replace ha46 := (g (o + 46) (by omega)).1.trans ha46
  replace hb46 := Bm_X2 (fun i _ h2 => g i (by omega)) hb46
  refine C_dup hC rfl dX11_init_133 ?_
  refine C_aload_n hC 0 rfl dX11_init_134 ?_
  refine C_get (N := o + 52) hC fr_X11_21 (o := o) (by omega) ha0 es rfl dX11_init_135 ?_
  refine C_aload_n hC 0 rfl dX11_init_138 ?_
  refine C_get (N := o + 52) hC fr_X11_37 (o := o) (by omega) ha0 es rfl dX11_init_139 ?_
  refine C_aload_n hC 0 rfl dX11_init_142 ?_
  refine C_get (N := o + 52) hC fr_X11_55 (o := o) (by omega) ha0 es rfl dX11_init_143 ?_
  refine C_aload_n hC 0 rfl dX11_init_146 ?_
  refine C_get (N := o + 52) hC fr_X11_46 (o := o) (by omega) ha0 es rfl dX11_init_147 ?_
  refine C_init (N := o + 52) (k := 51) (n := 9160) (kc := 6) (nc := 1428) hC (As := [.ref q6, .ref q29, .ref q39, .ref q31]) li_X11_70 dX11_init_150 (d0 := md_X11_init.2.2.2.2) (by decide) (Rm_of hr) rfl (Nat.le_of_ble_eq_true rfl) (by rw [hr]; exact ⟨Nat.le_of_ble_eq_true rfl, Nat.le_of_ble_eq_true rfl⟩) (ct_X3 (o := o + 51) hfl ha51 he51) (fun N23 ea23 ee23 hq => ?_)
  obtain ⟨rfl, g1, g2, hb51⟩ := hq
  have g : Gr (o + 51) _ _ _ _ := fun i h => ⟨g1 i (by omega), g2 i h⟩
  replace i1 := fun i (h : i < o + 1) => (g i (by omega)).1.trans (i1 i h)
  replace i2 := fun i (h : i < o) => (g i (by omega)).2.trans (i2 i h)
  replace ha0 := (g o (by omega)).1.trans ha0
  replace es := (g o (by omega)).2.trans es
  replace ha1 := (g (o + 1) (by omega)).1.trans ha1
  replace hb1 := Bm_X4 (fun i _ h2 => g i (by omega)) hb1
  replace ha6 := (g (o + 6) (by omega)).1.trans ha6
  replace hb6 := Bm_X10 (fun i _ h2 => g i (by omega)) hb6
  replace ha21 := (g (o + 21) (by omega)).1.trans ha21
  replace hb21 := Bm_X8 (fun i _ h2 => g i (by omega)) hb21
  replace ha29 := (g (o + 29) (by omega)).1.trans ha29
  replace hb29 := Bm_X7 (fun i _ h2 => g i (by omega)) hb29
  replace ha31 := (g (o + 31) (by omega)).1.trans ha31
  replace hb31 := Bm_X6 (fun i _ h2 => g i (by omega)) hb31
  replace ha39 := (g (o + 39) (by omega)).1.trans ha39
  replace hb39 := Bm_X1 (fun i _ h2 => g i (by omega)) hb39
  replace ha46 := (g (o + 46) (by omega)).1.trans ha46
  replace hb46 := Bm_X2 (fun i _ h2 => g i (by omega)) hb46
  replace ha51 := (g1 (o + 51) (by omega)).trans ha51
  clear he51 g1 g2
  refine D_putF (N := o + 58) hC hI ff_X11_73 (Or.inl ⟨_, rfl⟩) (o := o) (by omega) ha0 es (Nat.le_of_ble_eq_true rfl) dX11_init_153 (fun ee24 g es2 => ?_)
  replace es : ee24 o = .inr (11, [.ref q1, .ref q6, .ref q21, .ref q29, .ref q31, .ref q39, .ref q46, .ref q51, .null]) := es2
  clear es2
  replace i2 := fun i (h : i < o) => (g i (by omega)).trans (i2 i h)
  replace hb1 := Bm_X4 (fun i _ h2 => ⟨rfl, g i (by omega)⟩) hb1
  replace hb6 := Bm_X10 (fun i _ h2 => ⟨rfl, g i (by omega)⟩) hb6
  replace hb21 := Bm_X8 (fun i _ h2 => ⟨rfl, g i (by omega)⟩) hb21
  replace hb29 := Bm_X7 (fun i _ h2 => ⟨rfl, g i (by omega)⟩) hb29
  replace hb31 := Bm_X6 (fun i _ h2 => ⟨rfl, g i (by omega)⟩) hb31
  replace hb39 := Bm_X1 (fun i _ h2 => ⟨rfl, g i (by omega)⟩) hb39
  replace hb46 := Bm_X2 (fun i _ h2 => ⟨rfl, g i (by omega)⟩) hb46
  replace hb51 := Bm_X3 (fun i _ h2 => ⟨rfl, g i (by omega)⟩) hb51
  refine C_aload_n hC 0 rfl dX11_init_156 ?_
  refine D_new (N := o + 58) (k := 57) (n := 10588) hC nw_X11_77 dX11_init_157 (by rw [hr]; exact ⟨Nat.le_of_ble_eq_true rfl, Nat.le_of_ble_eq_true rfl⟩) (fun q58 ea25 ee25 g ha58 he58 => ?_)
  replace i1 := fun i (h : i < o + 1) => (g i (by omega)).1.trans (i1 i h)
  replace i2 := fun i (h : i < o) => (g i (by omega)).2.trans (i2 i h)
  replace ha0 := (g o (by omega)).1.trans ha0
  replace es := (g o (by omega)).2.trans es
  replace ha1 := (g (o + 1) (by omega)).1.trans ha1
  replace hb1 := Bm_X4 (fun i _ h2 => g i (by omega)) hb1
  replace ha6 := (g (o + 6) (by omega)).1.trans ha6
  replace hb6 := Bm_X10 (fun i _ h2 => g i (by omega)) hb6
  replace ha21 := (g (o + 21) (by omega)).1.trans ha21
  replace hb21 := Bm_X8 (fun i _ h2 => g i (by omega)) hb21
  replace ha29 := (g (o + 29) (by omega)).1.trans ha29
  replace hb29 := Bm_X7 (fun i _ h2 => g i (by omega)) hb29
  replace ha31 := (g (o + 31) (by omega)).1.trans ha31
  replace hb31 := Bm_X6 (fun i _ h2 => g i (by omega)) hb31
  replace ha39 := (g (o + 39) (by omega)).1.trans ha39
  replace hb39 := Bm_X1 (fun i _ h2 => g i (by omega)) hb39
  replace ha46 := (g (o + 46) (by omega)).1.trans ha46
  replace hb46 := Bm_X2 (fun i _ h2 => g i (by omega)) hb46
  replace ha51 := (g (o + 51) (by omega)).1.trans ha51
  replace hb51 := Bm_X3 (fun i _ h2 => g i (by omega)) hb51
  refine C_dup hC rfl dX11_init_160 ?_
  refine C_aload_n hC 0 rfl dX11_init_161 ?_
  refine C_get (N := o + 59) hC fr_X11_21 (o := o) (by omega) ha0 es rfl dX11_init_162 ?_
  refine C_aload_n hC 0 rfl dX11_init_165 ?_
  refine C_get (N := o + 59) hC fr_X11_28 (o := o) (by omega) ha0 es rfl dX11_init_166 ?_
  refine C_aload_n hC 0 rfl dX11_init_169 ?_
  refine C_get (N := o + 59) hC fr_X11_37 (o := o) (by omega) ha0 es rfl dX11_init_170 ?_
  refine C_init (N := o + 59) (k := 58) (n := 10596) (kc := 13) (nc := 1888) hC (As := [.ref q6, .ref q21, .ref q29]) li_X11_79 dX11_init_173 (d0 := md_X11_init.2.2.2.2) (by decide) (Rm_of hr) rfl (Nat.le_of_ble_eq_true rfl) (by rw [hr]; exact ⟨Nat.le_of_ble_eq_true rfl, Nat.le_of_ble_eq_true rfl⟩) (ct_X9 (o := o + 58) hfl ha58 he58) (fun N26 ea26 ee26 hq => ?_)
  obtain ⟨rfl, g1, g2, hb58⟩ := hq
  have g : Gr (o + 58) _ _ _ _ := fun i h => ⟨g1 i (by omega), g2 i h⟩
  replace i1 := fun i (h : i < o + 1) => (g i (by omega)).1.trans (i1 i h)
  replace i2 := fun i (h : i < o) => (g i (by omega)).2.trans (i2 i h)
  replace ha0 := (g o (by omega)).1.trans ha0
  replace es := (g o (by omega)).2.trans es
  replace ha1 := (g (o + 1) (by omega)).1.trans ha1
  replace hb1 := Bm_X4 (fun i _ h2 => g i (by omega)) hb1
  replace ha6 := (g (o + 6) (by omega)).1.trans ha6
  replace hb6 := Bm_X10 (fun i _ h2 => g i (by omega)) hb6
  replace ha21 := (g (o + 21) (by omega)).1.trans ha21
  replace hb21 := Bm_X8 (fun i _ h2 => g i (by omega)) hb21
  replace ha29 := (g (o + 29) (by omega)).1.trans ha29
  replace hb29 := Bm_X7 (fun i _ h2 => g i (by omega)) hb29
  replace ha31 := (g (o + 31) (by omega)).1.trans ha31
  replace hb31 := Bm_X6 (fun i _ h2 => g i (by omega)) hb31
  replace ha39 := (g (o + 39) (by omega)).1.trans ha39
  replace hb39 := Bm_X1 (fun i _ h2 => g i (by omega)) hb39
  replace ha46 := (g (o + 46) (by omega)).1.trans ha46
  replace hb46 := Bm_X2 (fun i _ h2 => g i (by omega)) hb46
  replace ha51 := (g (o + 51) (by omega)).1.trans ha51
  replace hb51 := Bm_X3 (fun i _ h2 => g i (by omega)) hb51
  replace ha58 := (g1 (o + 58) (by omega)).trans ha58
  clear he58 g1 g2
  refine D_putF (N := o + 72) hC hI ff_X11_80 (Or.inl ⟨_, rfl⟩) (o := o) (by omega) ha0 es (Nat.le_of_ble_eq_true rfl) dX11_init_176 (fun ee27 g es2 => ?_)
  replace es : ee27 o = .inr (11, [.ref q1, .ref q6, .ref q21, .ref q29, .ref q31, .ref q39, .ref q46, .ref q51, .ref q58]) := es2
  clear es2
  replace i2 := fun i (h : i < o) => (g i (by omega)).trans (i2 i h)
  replace hb1 := Bm_X4 (fun i _ h2 => ⟨rfl, g i (by omega)⟩) hb1
  replace hb6 := Bm_X10 (fun i _ h2 => ⟨rfl, g i (by omega)⟩) hb6
  replace hb21 := Bm_X8 (fun i _ h2 => ⟨rfl, g i (by omega)⟩) hb21
  replace hb29 := Bm_X7 (fun i _ h2 => ⟨rfl, g i (by omega)⟩) hb29
  replace hb31 := Bm_X6 (fun i _ h2 => ⟨rfl, g i (by omega)⟩) hb31
  replace hb39 := Bm_X1 (fun i _ h2 => ⟨rfl, g i (by omega)⟩) hb39
  replace hb46 := Bm_X2 (fun i _ h2 => ⟨rfl, g i (by omega)⟩) hb46
  replace hb51 := Bm_X3 (fun i _ h2 => ⟨rfl, g i (by omega)⟩) hb51
  replace hb58 := Bm_X9 (fun i _ h2 => ⟨rfl, g i (by omega)⟩) hb58
  refine C_vret (N := o + 72) hC hR rfl (by rw [hr]; exact ⟨Nat.le_refl _, Nat.le_refl _⟩) dX11_init_179 ⟨by omega, i1, i2, ?_⟩
  show Bl_X11 _ _ _ _
  unfold Bl_X11
  rw [ha1, ha6, ha21, ha29, ha31, ha39, ha46, ha51, ha58]
  exact ⟨es, hb1, hb6, hb21, hb29, hb31, hb39, hb46, hb51, hb58⟩
