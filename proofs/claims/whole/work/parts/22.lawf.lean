def L_law_4119 (G : GT) (b qo : Nat) (k n : Nat) (x4 : Int) (M : Mem) (f : Nat → Int64) : Prop := V G md_law k n (Xo (gB G) qo f) M 4119 [(0, .ref b), (1, .ref (ad (gB G) 0)), (2, .ref (ad (gB G) 72)), (3, .ref qo), (4, .int (I x4))] []
def T_law_4119 (G : GT) (b L : Nat) (xs : Nat → Int32) (qo : Nat) (k n : Nat) (x4 : Int) (M : Mem) (f : Nat → Int64) : Prop := OkI (gB G) (gl G) md_X11_isMarking 0 0 [.ref (ad (gB G) 0)] (Xo (gB G) qo f) M (fun r4120 M1 => inR r4120 → OkI (gB G) (gl G) md_X13_isMarking 0 0 [.ref (ad (gB G) 72)] (Xo (gB G) qo f) M1 (fun r4124 M2 => inR r4124 → (inR r4120 ∧ inR r4124 ∧ (r4120 = r4124 → L_law_23 G b qo k n (x4 + 5) M2 f) ∧ (r4120 ≠ r4124 → False))) NoX) NoX
set_option maxRecDepth 100000 in
set_option maxHeartbeats 4000000 in
theorem go_law_4119 {G : GT} {b L : Nat} {xs : Nat → Int32} {qo k n : Nat} {x4 : Int} {M : Mem} {f : Nat → Int64} (hC : Cx G md_law) (hz : Lz G b L xs) (hk : k + 40 ≤ 601024 ∧ n + 400 ≤ 7293034) (kk : T_law_4119 G b L xs qo k n x4 M f) : L_law_4119 G b qo k n x4 M f := by
  unfold T_law_4119 at kk
  unfold L_law_4119
  refine V_aload_n hC 1 rfl dL_law_4119 ?_
  refine V_cVi hC (As := []) lv_L_432 dL_law_4120 (d0 := 60) (by decide) (Rm_law hz) rv_0 rfl (Nat.le_of_ble_eq_true rfl) (kl hz (by omega) (by omega)) kk (fun r9 M9 z kk => ?_)
  replace kk := kk z
  refine V_aload_n hC 2 rfl dL_law_4123 ?_
  refine V_cVi hC (As := []) lv_L_436 dL_law_4124 (d0 := 60) (by decide) (Rm_law hz) rv_72 rfl (Nat.le_of_ble_eq_true rfl) (kl hz (by omega) (by omega)) kk (fun r9 M9 z kk => ?_)
  replace kk := kk z
  obtain ⟨ha, hb, k1, k2⟩ := kk
  refine V_icmp_eq hC 4661 rfl dL_law_4127 ⟨ha, hb, fun z => ?_, fun z => ?_⟩
  · replace kk := k1 z; clear k1 k2
    refine V_iinc hC (lv' := [(4, _), (0, _), (1, _), (2, _), (3, _)]) 4 rfl (Nat.le_of_ble_eq_true rfl) rfl dL_law_4661 ?_
    refine V_goto hC 23 rfl dL_law_4664 ?_
    exact V_sub [1, 2, 3, 4, 0] rfl kk
  · replace kk := k2 z; clear k1 k2
    refine V_iconst hC dL_law_4130 ?_
    exact kk.elim
def L_law_4132 (G : GT) (b qo : Nat) (k n : Nat) (x4 : Int) (M : Mem) (f : Nat → Int64) : Prop := V G md_law k n (Xo (gB G) qo f) M 4132 [(0, .ref b), (1, .ref (ad (gB G) 0)), (2, .ref (ad (gB G) 72)), (3, .ref qo), (4, .int (I x4))] []
def T_law_4132 (G : GT) (b L : Nat) (xs : Nat → Int32) (qo : Nat) (k n : Nat) (x4 : Int) (M : Mem) (f : Nat → Int64) : Prop := OkI (gB G) (gl G) md_X11_tenure 0 0 [.ref (ad (gB G) 0)] (Xo (gB G) qo f) M (fun r4133 M1 => inR r4133 → OkI (gB G) (gl G) md_X13_tenure 0 0 [.ref (ad (gB G) 72)] (Xo (gB G) qo f) M1 (fun r4137 M2 => inR r4137 → (inR r4133 ∧ inR r4137 ∧ (r4133 = r4137 → L_law_23 G b qo k n (x4 + 5) M2 f) ∧ (r4133 ≠ r4137 → False))) NoX) NoX
set_option maxRecDepth 100000 in
set_option maxHeartbeats 4000000 in
theorem go_law_4132 {G : GT} {b L : Nat} {xs : Nat → Int32} {qo k n : Nat} {x4 : Int} {M : Mem} {f : Nat → Int64} (hC : Cx G md_law) (hz : Lz G b L xs) (hk : k + 40 ≤ 601024 ∧ n + 400 ≤ 7293034) (kk : T_law_4132 G b L xs qo k n x4 M f) : L_law_4132 G b qo k n x4 M f := by
  unfold T_law_4132 at kk
  unfold L_law_4132
  refine V_aload_n hC 1 rfl dL_law_4132 ?_
  refine V_cVi hC (As := []) lv_L_437 dL_law_4133 (d0 := 60) (by decide) (Rm_law hz) rv_0 rfl (Nat.le_of_ble_eq_true rfl) (kl hz (by omega) (by omega)) kk (fun r9 M9 z kk => ?_)
  replace kk := kk z
  refine V_aload_n hC 2 rfl dL_law_4136 ?_
  refine V_cVi hC (As := []) lv_L_440 dL_law_4137 (d0 := 60) (by decide) (Rm_law hz) rv_72 rfl (Nat.le_of_ble_eq_true rfl) (kl hz (by omega) (by omega)) kk (fun r9 M9 z kk => ?_)
  replace kk := kk z
  obtain ⟨ha, hb, k1, k2⟩ := kk
  refine V_icmp_eq hC 4661 rfl dL_law_4140 ⟨ha, hb, fun z => ?_, fun z => ?_⟩
  · replace kk := k1 z; clear k1 k2
    refine V_iinc hC (lv' := [(4, _), (0, _), (1, _), (2, _), (3, _)]) 4 rfl (Nat.le_of_ble_eq_true rfl) rfl dL_law_4661 ?_
    refine V_goto hC 23 rfl dL_law_4664 ?_
    exact V_sub [1, 2, 3, 4, 0] rfl kk
  · replace kk := k2 z; clear k1 k2
    refine V_iconst hC dL_law_4143 ?_
    exact kk.elim
def L_law_4145 (G : GT) (b qo : Nat) (k n : Nat) (x4 : Int) (M : Mem) (f : Nat → Int64) : Prop := V G md_law k n (Xo (gB G) qo f) M 4145 [(0, .ref b), (1, .ref (ad (gB G) 0)), (2, .ref (ad (gB G) 72)), (3, .ref qo), (4, .int (I x4))] []
def T_law_4145 (G : GT) (b L : Nat) (xs : Nat → Int32) (qo : Nat) (k n : Nat) (x4 : Int) (M : Mem) (f : Nat → Int64) : Prop := OkI (gB G) (gl G) md_X11_imageLength 0 0 [.ref (ad (gB G) 0)] (Xo (gB G) qo f) M (fun r4146 M1 => inR r4146 → OkI (gB G) (gl G) md_X13_imageLength 0 0 [.ref (ad (gB G) 72)] (Xo (gB G) qo f) M1 (fun r4150 M2 => inR r4150 → (inR r4146 ∧ inR r4150 ∧ (r4146 = r4150 → L_law_23 G b qo k n (x4 + 5) M2 f) ∧ (r4146 ≠ r4150 → False))) NoX) NoX
set_option maxRecDepth 100000 in
set_option maxHeartbeats 4000000 in
theorem go_law_4145 {G : GT} {b L : Nat} {xs : Nat → Int32} {qo k n : Nat} {x4 : Int} {M : Mem} {f : Nat → Int64} (hC : Cx G md_law) (hz : Lz G b L xs) (hk : k + 40 ≤ 601024 ∧ n + 400 ≤ 7293034) (kk : T_law_4145 G b L xs qo k n x4 M f) : L_law_4145 G b qo k n x4 M f := by
  unfold T_law_4145 at kk
  unfold L_law_4145
  refine V_aload_n hC 1 rfl dL_law_4145 ?_
  refine V_cVi hC (As := []) lv_L_441 dL_law_4146 (d0 := 60) (by decide) (Rm_law hz) rv_0 rfl (Nat.le_of_ble_eq_true rfl) (kl hz (by omega) (by omega)) kk (fun r9 M9 z kk => ?_)
  replace kk := kk z
  refine V_aload_n hC 2 rfl dL_law_4149 ?_
  refine V_cVi hC (As := []) lv_L_444 dL_law_4150 (d0 := 60) (by decide) (Rm_law hz) rv_72 rfl (Nat.le_of_ble_eq_true rfl) (kl hz (by omega) (by omega)) kk (fun r9 M9 z kk => ?_)
  replace kk := kk z
  obtain ⟨ha, hb, k1, k2⟩ := kk
  refine V_icmp_eq hC 4661 rfl dL_law_4153 ⟨ha, hb, fun z => ?_, fun z => ?_⟩
  · replace kk := k1 z; clear k1 k2
    refine V_iinc hC (lv' := [(4, _), (0, _), (1, _), (2, _), (3, _)]) 4 rfl (Nat.le_of_ble_eq_true rfl) rfl dL_law_4661 ?_
    refine V_goto hC 23 rfl dL_law_4664 ?_
    exact V_sub [1, 2, 3, 4, 0] rfl kk
  · replace kk := k2 z; clear k1 k2
    refine V_iconst hC dL_law_4156 ?_
    exact kk.elim
def L_law_4158 (G : GT) (b qo : Nat) (k n : Nat) (x4 : Int) (M : Mem) (f : Nat → Int64) : Prop := V G md_law k n (Xo (gB G) qo f) M 4158 [(0, .ref b), (1, .ref (ad (gB G) 0)), (2, .ref (ad (gB G) 72)), (3, .ref qo), (4, .int (I x4))] []
def T_law_4158 (G : GT) (b L : Nat) (xs : Nat → Int32) (qo : Nat) (k n : Nat) (x4 : Int) (M : Mem) (f : Nat → Int64) : Prop := ((0 ≤ (x4 + (1 : Int)) ∧ (x4 + (1 : Int)) < (L : Int)) ∧ (inR ((xs (x4 + (1 : Int)).toNat).toInt) → OkW (gB G) (gl G) md_L_imageAt hh_L_imageAt [.ref (ad (gB G) 0), .int (I ((xs (x4 + (1 : Int)).toNat).toInt)), .ref qo] qo f M (fun r4166 M1 f1 => inR r4166 → ((0 ≤ (x4 + (1 : Int)) ∧ (x4 + (1 : Int)) < (L : Int)) ∧ (inR ((xs (x4 + (1 : Int)).toNat).toInt) → OkI (gB G) (gl G) md_X13_imageAt 0 0 [.ref (ad (gB G) 72), .int (I ((xs (x4 + (1 : Int)).toNat).toInt))] (Xo (gB G) qo f1) M1 (fun r4178 M2 => inR r4178 → OkI (gB G) (gl G) md_X13_thrown 0 0 [.ref (ad (gB G) 72)] (Xo (gB G) qo f1) M2 (fun r4184 M3 => inR r4184 → (inR r4184 ∧ inR r4166 ∧ (r4184 = r4166 → (inR r4166 ∧ (r4166 ≠ 0 → L_law_23 G b qo (k + 1) (n + 6) (x4 + 5) M3 f1) ∧ (r4166 = 0 → (∀ z4205 : Int, inR z4205 → (z4205 = 0 ↔ (f1 0) = (I r4178).toInt64) → (inR z4205 ∧ (z4205 = 0 → L_law_23 G b qo (k + 1) (n + 6) (x4 + 5) M3 f1) ∧ (z4205 ≠ 0 → False)))))) ∧ (r4184 ≠ r4166 → False))) NoX) NoX)))))
set_option maxRecDepth 100000 in
set_option maxHeartbeats 4000000 in
theorem go_law_4158 {G : GT} {b L : Nat} {xs : Nat → Int32} {qo k n : Nat} {x4 : Int} {M : Mem} {f : Nat → Int64} (hC : Cx G md_law) (hz : Lz G b L xs) (hk : k + 40 ≤ 601024 ∧ n + 400 ≤ 7293034) (kk : T_law_4158 G b L xs qo k n x4 M f) : L_law_4158 G b qo k n x4 M f := by
  unfold T_law_4158 at kk
  unfold L_law_4158
  refine V_aload_n hC 1 rfl dL_law_4158 ?_
  refine V_aload_n hC 0 rfl dL_law_4159 ?_
  refine V_iload hC 4 rfl dL_law_4160 ?_
  refine V_iconst hC dL_law_4162 ?_
  refine V_iadd hC dL_law_4163 ?_
  obtain ⟨hi, kk⟩ := kk
  refine V_sld hC hz hi dL_law_4164 (fun z => ?_)
  replace kk := kk z
  refine V_aload_n hC 3 rfl dL_law_4165 ?_
  refine V_cW hC (As := [_, _, _]) lw_445 dL_law_4166 (d0 := 60) (by decide) (Rm_law hz) rfl (Nat.le_of_ble_eq_true rfl) (kl hz (by omega) (by omega)) kk (fun r9 M9 f9 z kk => ?_)
  replace kk := kk z
  refine V_istore hC (lv' := [(5, _), (0, _), (1, _), (2, _), (3, _), (4, _)]) (Nat.le_of_ble_eq_true rfl) rfl dL_law_4169 ?_
  refine V_aload_n hC 3 rfl dL_law_4171 ?_
  refine V_aload_n hC 1 rfl dL_law_4172 ?_
  refine V_iload hC 5 rfl dL_law_4173 ?_
  refine V_iconst hC dL_law_4175 ?_
  refine V_iadd hC dL_law_4176 ?_
  obtain ⟨hi, kk⟩ := kk
  refine V_sld hC hz hi dL_law_4177 (fun z => ?_)
  replace kk := kk z
  refine V_cVi hC (As := [_]) lv_L_447 dL_law_4178 (d0 := 60) (by decide) (Rm_law hz) rv_72 rfl (Nat.le_of_ble_eq_true rfl) (kl hz (by omega) (by omega)) kk (fun r9 M9 z kk => ?_)
  replace kk := kk z
  refine V_istore hC (lv' := [(6, _), (5, _), (0, _), (1, _), (2, _), (3, _), (4, _)]) (Nat.le_of_ble_eq_true rfl) rfl dL_law_4181 ?_
  refine V_aload_n hC 4 rfl dL_law_4183 ?_
  refine V_cVi hC (As := []) lv_L_212 dL_law_4184 (d0 := 60) (by decide) (Rm_law hz) rv_72 rfl (Nat.le_of_ble_eq_true rfl) (kl hz (by omega) (by omega)) kk (fun r9 M9 z kk => ?_)
  replace kk := kk z
  refine V_iload hC 1 rfl dL_law_4187 ?_
  obtain ⟨ha, hb, k1, k2⟩ := kk
  refine V_icmp_eq hC 4194 rfl dL_law_4189 ⟨ha, hb, fun z => ?_, fun z => ?_⟩
  · replace kk := k1 z; clear k1 k2
    refine V_iload hC 1 rfl dL_law_4194 ?_
    obtain ⟨ha, k1, k2⟩ := kk
    refine V_if_ne hC 4211 rfl dL_law_4196 ⟨ha, fun z => ?_, fun z => ?_⟩
    · replace kk := k1 z; clear k1 k2
      refine V_goto hC 4661 rfl dL_law_4211 ?_
      refine V_iinc hC (lv' := [(4, _), (6, _), (5, _), (0, _), (1, _), (2, _), (3, _)]) 6 rfl (Nat.le_of_ble_eq_true rfl) rfl dL_law_4661 ?_
      refine V_goto hC 23 rfl dL_law_4664 ?_
      exact V_sub [3, 4, 5, 6, 0] rfl kk
    · replace kk := k2 z; clear k1 k2
      refine V_aload_n hC 5 rfl dL_law_4199 ?_
      refine V_iconst hC dL_law_4200 ?_
      refine V_laldW hC dL_law_4201 ?_
      refine V_iload hC 0 rfl dL_law_4202 ?_
      refine V_i2l hC dL_law_4204 ?_
      refine V_lcmp hC dL_law_4205 (fun z1 z2 z3 => ?_)
      replace kk := kk z1 z2 z3
      obtain ⟨ha, k1, k2⟩ := kk
      refine V_if_eq hC 4211 rfl dL_law_4206 ⟨ha, fun z => ?_, fun z => ?_⟩
      · replace kk := k1 z; clear k1 k2
        refine V_goto hC 4661 rfl dL_law_4211 ?_
        refine V_iinc hC (lv' := [(4, _), (6, _), (5, _), (0, _), (1, _), (2, _), (3, _)]) 6 rfl (Nat.le_of_ble_eq_true rfl) rfl dL_law_4661 ?_
        refine V_goto hC 23 rfl dL_law_4664 ?_
        exact V_sub [3, 4, 5, 6, 0] rfl kk
      · replace kk := k2 z; clear k1 k2
        refine V_iconst hC dL_law_4209 ?_
        exact kk.elim
  · replace kk := k2 z; clear k1 k2
    refine V_iconst hC dL_law_4192 ?_
    exact kk.elim
def L_law_4214 (G : GT) (b qo : Nat) (k n : Nat) (x4 : Int) (M : Mem) (f : Nat → Int64) : Prop := V G md_law k n (Xo (gB G) qo f) M 4214 [(0, .ref b), (1, .ref (ad (gB G) 0)), (2, .ref (ad (gB G) 72)), (3, .ref qo), (4, .int (I x4))] []
def T_law_4214 (G : GT) (b L : Nat) (xs : Nat → Int32) (qo : Nat) (k n : Nat) (x4 : Int) (M : Mem) (f : Nat → Int64) : Prop := ((0 ≤ (x4 + (1 : Int)) ∧ (x4 + (1 : Int)) < (L : Int)) ∧ (inR ((xs (x4 + (1 : Int)).toNat).toInt) → OkI (gB G) (gl G) md_X11_isPresent 0 0 [.ref (ad (gB G) 0), .int (I ((xs (x4 + (1 : Int)).toNat).toInt))] (Xo (gB G) qo f) M (fun r4221 M1 => inR r4221 → ((0 ≤ (x4 + (1 : Int)) ∧ (x4 + (1 : Int)) < (L : Int)) ∧ (inR ((xs (x4 + (1 : Int)).toNat).toInt) → OkI (gB G) (gl G) md_X13_isPresent 0 0 [.ref (ad (gB G) 72), .int (I ((xs (x4 + (1 : Int)).toNat).toInt))] (Xo (gB G) qo f) M1 (fun r4231 M2 => inR r4231 → (inR r4221 ∧ inR r4231 ∧ (r4221 = r4231 → L_law_23 G b qo k n (x4 + 5) M2 f) ∧ (r4221 ≠ r4231 → False))) NoX))) NoX))
set_option maxRecDepth 100000 in
set_option maxHeartbeats 4000000 in
theorem go_law_4214 {G : GT} {b L : Nat} {xs : Nat → Int32} {qo k n : Nat} {x4 : Int} {M : Mem} {f : Nat → Int64} (hC : Cx G md_law) (hz : Lz G b L xs) (hk : k + 40 ≤ 601024 ∧ n + 400 ≤ 7293034) (kk : T_law_4214 G b L xs qo k n x4 M f) : L_law_4214 G b qo k n x4 M f := by
  unfold T_law_4214 at kk
  unfold L_law_4214
  refine V_aload_n hC 1 rfl dL_law_4214 ?_
  refine V_aload_n hC 0 rfl dL_law_4215 ?_
  refine V_iload hC 4 rfl dL_law_4216 ?_
  refine V_iconst hC dL_law_4218 ?_
  refine V_iadd hC dL_law_4219 ?_
  obtain ⟨hi, kk⟩ := kk
  refine V_sld hC hz hi dL_law_4220 (fun z => ?_)
  replace kk := kk z
  refine V_cVi hC (As := [_]) lv_L_448 dL_law_4221 (d0 := 60) (by decide) (Rm_law hz) rv_0 rfl (Nat.le_of_ble_eq_true rfl) (kl hz (by omega) (by omega)) kk (fun r9 M9 z kk => ?_)
  replace kk := kk z
  refine V_aload_n hC 2 rfl dL_law_4224 ?_
  refine V_aload_n hC 0 rfl dL_law_4225 ?_
  refine V_iload hC 4 rfl dL_law_4226 ?_
  refine V_iconst hC dL_law_4228 ?_
  refine V_iadd hC dL_law_4229 ?_
  obtain ⟨hi, kk⟩ := kk
  refine V_sld hC hz hi dL_law_4230 (fun z => ?_)
  replace kk := kk z
  refine V_cVi hC (As := [_]) lv_L_451 dL_law_4231 (d0 := 60) (by decide) (Rm_law hz) rv_72 rfl (Nat.le_of_ble_eq_true rfl) (kl hz (by omega) (by omega)) kk (fun r9 M9 z kk => ?_)
  replace kk := kk z
  obtain ⟨ha, hb, k1, k2⟩ := kk
  refine V_icmp_eq hC 4661 rfl dL_law_4234 ⟨ha, hb, fun z => ?_, fun z => ?_⟩
  · replace kk := k1 z; clear k1 k2
    refine V_iinc hC (lv' := [(4, _), (0, _), (1, _), (2, _), (3, _)]) 4 rfl (Nat.le_of_ble_eq_true rfl) rfl dL_law_4661 ?_
    refine V_goto hC 23 rfl dL_law_4664 ?_
    exact V_sub [1, 2, 3, 4, 0] rfl kk
  · replace kk := k2 z; clear k1 k2
    refine V_iconst hC dL_law_4237 ?_
    exact kk.elim
def L_law_4239 (G : GT) (b qo : Nat) (k n : Nat) (x4 : Int) (M : Mem) (f : Nat → Int64) : Prop := V G md_law k n (Xo (gB G) qo f) M 4239 [(0, .ref b), (1, .ref (ad (gB G) 0)), (2, .ref (ad (gB G) 72)), (3, .ref qo), (4, .int (I x4))] []
def T_law_4239 (G : GT) (b L : Nat) (xs : Nat → Int32) (qo : Nat) (k n : Nat) (x4 : Int) (M : Mem) (f : Nat → Int64) : Prop := ((0 ≤ (x4 + (1 : Int)) ∧ (x4 + (1 : Int)) < (L : Int)) ∧ (inR ((xs (x4 + (1 : Int)).toNat).toInt) → OkI (gB G) (gl G) md_X11_isReached 0 0 [.ref (ad (gB G) 0), .int (I ((xs (x4 + (1 : Int)).toNat).toInt))] (Xo (gB G) qo f) M (fun r4246 M1 => inR r4246 → ((0 ≤ (x4 + (1 : Int)) ∧ (x4 + (1 : Int)) < (L : Int)) ∧ (inR ((xs (x4 + (1 : Int)).toNat).toInt) → OkI (gB G) (gl G) md_X13_isReached 0 0 [.ref (ad (gB G) 72), .int (I ((xs (x4 + (1 : Int)).toNat).toInt))] (Xo (gB G) qo f) M1 (fun r4256 M2 => inR r4256 → (inR r4246 ∧ inR r4256 ∧ (r4246 = r4256 → L_law_23 G b qo k n (x4 + 5) M2 f) ∧ (r4246 ≠ r4256 → False))) NoX))) NoX))
set_option maxRecDepth 100000 in
set_option maxHeartbeats 4000000 in
theorem go_law_4239 {G : GT} {b L : Nat} {xs : Nat → Int32} {qo k n : Nat} {x4 : Int} {M : Mem} {f : Nat → Int64} (hC : Cx G md_law) (hz : Lz G b L xs) (hk : k + 40 ≤ 601024 ∧ n + 400 ≤ 7293034) (kk : T_law_4239 G b L xs qo k n x4 M f) : L_law_4239 G b qo k n x4 M f := by
  unfold T_law_4239 at kk
  unfold L_law_4239
  refine V_aload_n hC 1 rfl dL_law_4239 ?_
  refine V_aload_n hC 0 rfl dL_law_4240 ?_
  refine V_iload hC 4 rfl dL_law_4241 ?_
  refine V_iconst hC dL_law_4243 ?_
  refine V_iadd hC dL_law_4244 ?_
  obtain ⟨hi, kk⟩ := kk
  refine V_sld hC hz hi dL_law_4245 (fun z => ?_)
  replace kk := kk z
  refine V_cVi hC (As := [_]) lv_L_452 dL_law_4246 (d0 := 60) (by decide) (Rm_law hz) rv_0 rfl (Nat.le_of_ble_eq_true rfl) (kl hz (by omega) (by omega)) kk (fun r9 M9 z kk => ?_)
  replace kk := kk z
  refine V_aload_n hC 2 rfl dL_law_4249 ?_
  refine V_aload_n hC 0 rfl dL_law_4250 ?_
  refine V_iload hC 4 rfl dL_law_4251 ?_
  refine V_iconst hC dL_law_4253 ?_
  refine V_iadd hC dL_law_4254 ?_
  obtain ⟨hi, kk⟩ := kk
  refine V_sld hC hz hi dL_law_4255 (fun z => ?_)
  replace kk := kk z
  refine V_cVi hC (As := [_]) lv_L_455 dL_law_4256 (d0 := 60) (by decide) (Rm_law hz) rv_72 rfl (Nat.le_of_ble_eq_true rfl) (kl hz (by omega) (by omega)) kk (fun r9 M9 z kk => ?_)
  replace kk := kk z
  obtain ⟨ha, hb, k1, k2⟩ := kk
  refine V_icmp_eq hC 4661 rfl dL_law_4259 ⟨ha, hb, fun z => ?_, fun z => ?_⟩
  · replace kk := k1 z; clear k1 k2
    refine V_iinc hC (lv' := [(4, _), (0, _), (1, _), (2, _), (3, _)]) 4 rfl (Nat.le_of_ble_eq_true rfl) rfl dL_law_4661 ?_
    refine V_goto hC 23 rfl dL_law_4664 ?_
    exact V_sub [1, 2, 3, 4, 0] rfl kk
  · replace kk := k2 z; clear k1 k2
    refine V_iconst hC dL_law_4262 ?_
    exact kk.elim
def L_law_4264 (G : GT) (b qo : Nat) (k n : Nat) (x4 : Int) (M : Mem) (f : Nat → Int64) : Prop := V G md_law k n (Xo (gB G) qo f) M 4264 [(0, .ref b), (1, .ref (ad (gB G) 0)), (2, .ref (ad (gB G) 72)), (3, .ref qo), (4, .int (I x4))] []
def T_law_4264 (G : GT) (b L : Nat) (xs : Nat → Int32) (qo : Nat) (k n : Nat) (x4 : Int) (M : Mem) (f : Nat → Int64) : Prop := ((0 ≤ (x4 + (1 : Int)) ∧ (x4 + (1 : Int)) < (L : Int)) ∧ (inR ((xs (x4 + (1 : Int)).toNat).toInt) → OkI (gB G) (gl G) md_X11_distance 0 0 [.ref (ad (gB G) 0), .int (I ((xs (x4 + (1 : Int)).toNat).toInt))] (Xo (gB G) qo f) M (fun r4271 M1 => inR r4271 → ((0 ≤ (x4 + (1 : Int)) ∧ (x4 + (1 : Int)) < (L : Int)) ∧ (inR ((xs (x4 + (1 : Int)).toNat).toInt) → OkI (gB G) (gl G) md_X13_distance 0 0 [.ref (ad (gB G) 72), .int (I ((xs (x4 + (1 : Int)).toNat).toInt))] (Xo (gB G) qo f) M1 (fun r4281 M2 => inR r4281 → (inR r4271 ∧ inR r4281 ∧ (r4271 = r4281 → L_law_23 G b qo k n (x4 + 5) M2 f) ∧ (r4271 ≠ r4281 → False))) NoX))) NoX))
set_option maxRecDepth 100000 in
set_option maxHeartbeats 4000000 in
theorem go_law_4264 {G : GT} {b L : Nat} {xs : Nat → Int32} {qo k n : Nat} {x4 : Int} {M : Mem} {f : Nat → Int64} (hC : Cx G md_law) (hz : Lz G b L xs) (hk : k + 40 ≤ 601024 ∧ n + 400 ≤ 7293034) (kk : T_law_4264 G b L xs qo k n x4 M f) : L_law_4264 G b qo k n x4 M f := by
  unfold T_law_4264 at kk
  unfold L_law_4264
  refine V_aload_n hC 1 rfl dL_law_4264 ?_
  refine V_aload_n hC 0 rfl dL_law_4265 ?_
  refine V_iload hC 4 rfl dL_law_4266 ?_
  refine V_iconst hC dL_law_4268 ?_
  refine V_iadd hC dL_law_4269 ?_
  obtain ⟨hi, kk⟩ := kk
  refine V_sld hC hz hi dL_law_4270 (fun z => ?_)
  replace kk := kk z
  refine V_cVi hC (As := [_]) lv_L_456 dL_law_4271 (d0 := 60) (by decide) (Rm_law hz) rv_0 rfl (Nat.le_of_ble_eq_true rfl) (kl hz (by omega) (by omega)) kk (fun r9 M9 z kk => ?_)
  replace kk := kk z
  refine V_aload_n hC 2 rfl dL_law_4274 ?_
  refine V_aload_n hC 0 rfl dL_law_4275 ?_
  refine V_iload hC 4 rfl dL_law_4276 ?_
  refine V_iconst hC dL_law_4278 ?_
  refine V_iadd hC dL_law_4279 ?_
  obtain ⟨hi, kk⟩ := kk
  refine V_sld hC hz hi dL_law_4280 (fun z => ?_)
  replace kk := kk z
  refine V_cVi hC (As := [_]) lv_L_459 dL_law_4281 (d0 := 60) (by decide) (Rm_law hz) rv_72 rfl (Nat.le_of_ble_eq_true rfl) (kl hz (by omega) (by omega)) kk (fun r9 M9 z kk => ?_)
  replace kk := kk z
  obtain ⟨ha, hb, k1, k2⟩ := kk
  refine V_icmp_eq hC 4661 rfl dL_law_4284 ⟨ha, hb, fun z => ?_, fun z => ?_⟩
  · replace kk := k1 z; clear k1 k2
    refine V_iinc hC (lv' := [(4, _), (0, _), (1, _), (2, _), (3, _)]) 4 rfl (Nat.le_of_ble_eq_true rfl) rfl dL_law_4661 ?_
    refine V_goto hC 23 rfl dL_law_4664 ?_
    exact V_sub [1, 2, 3, 4, 0] rfl kk
  · replace kk := k2 z; clear k1 k2
    refine V_iconst hC dL_law_4287 ?_
    exact kk.elim
def L_law_4289 (G : GT) (b qo : Nat) (k n : Nat) (x4 : Int) (M : Mem) (f : Nat → Int64) : Prop := V G md_law k n (Xo (gB G) qo f) M 4289 [(0, .ref b), (1, .ref (ad (gB G) 0)), (2, .ref (ad (gB G) 72)), (3, .ref qo), (4, .int (I x4))] []
def T_law_4289 (G : GT) (b L : Nat) (xs : Nat → Int32) (qo : Nat) (k n : Nat) (x4 : Int) (M : Mem) (f : Nat → Int64) : Prop := ((0 ≤ (x4 + (1 : Int)) ∧ (x4 + (1 : Int)) < (L : Int)) ∧ (inR ((xs (x4 + (1 : Int)).toNat).toInt) → (inR ((xs (x4 + (1 : Int)).toNat).toInt) ∧ (((xs (x4 + (1 : Int)).toNat).toInt) = 0 → OkI (gB G) (gl G) md_X11_wouldRemove 0 0 [.ref (ad (gB G) 0), .int (I (0 : Int))] (Xo (gB G) qo f) M (fun r4304 M1 => inR r4304 → ((0 ≤ (x4 + (1 : Int)) ∧ (x4 + (1 : Int)) < (L : Int)) ∧ (inR ((xs (x4 + (1 : Int)).toNat).toInt) → (inR ((xs (x4 + (1 : Int)).toNat).toInt) ∧ (((xs (x4 + (1 : Int)).toNat).toInt) = 0 → OkI (gB G) (gl G) md_X13_wouldRemove 0 0 [.ref (ad (gB G) 72), .int (I (0 : Int))] (Xo (gB G) qo f) M1 (fun r4322 M2 => inR r4322 → (inR r4304 ∧ inR r4322 ∧ (r4304 = r4322 → L_law_23 G b qo k n (x4 + 5) M2 f) ∧ (r4304 ≠ r4322 → False))) NoX) ∧ (((xs (x4 + (1 : Int)).toNat).toInt) ≠ 0 → OkI (gB G) (gl G) md_X13_wouldRemove 0 0 [.ref (ad (gB G) 72), .int (I (1 : Int))] (Xo (gB G) qo f) M1 (fun r4322 M2 => inR r4322 → (inR r4304 ∧ inR r4322 ∧ (r4304 = r4322 → L_law_23 G b qo k n (x4 + 5) M2 f) ∧ (r4304 ≠ r4322 → False))) NoX))))) NoX) ∧ (((xs (x4 + (1 : Int)).toNat).toInt) ≠ 0 → OkI (gB G) (gl G) md_X11_wouldRemove 0 0 [.ref (ad (gB G) 0), .int (I (1 : Int))] (Xo (gB G) qo f) M (fun r4304 M1 => inR r4304 → ((0 ≤ (x4 + (1 : Int)) ∧ (x4 + (1 : Int)) < (L : Int)) ∧ (inR ((xs (x4 + (1 : Int)).toNat).toInt) → (inR ((xs (x4 + (1 : Int)).toNat).toInt) ∧ (((xs (x4 + (1 : Int)).toNat).toInt) = 0 → OkI (gB G) (gl G) md_X13_wouldRemove 0 0 [.ref (ad (gB G) 72), .int (I (0 : Int))] (Xo (gB G) qo f) M1 (fun r4322 M2 => inR r4322 → (inR r4304 ∧ inR r4322 ∧ (r4304 = r4322 → L_law_23 G b qo k n (x4 + 5) M2 f) ∧ (r4304 ≠ r4322 → False))) NoX) ∧ (((xs (x4 + (1 : Int)).toNat).toInt) ≠ 0 → OkI (gB G) (gl G) md_X13_wouldRemove 0 0 [.ref (ad (gB G) 72), .int (I (1 : Int))] (Xo (gB G) qo f) M1 (fun r4322 M2 => inR r4322 → (inR r4304 ∧ inR r4322 ∧ (r4304 = r4322 → L_law_23 G b qo k n (x4 + 5) M2 f) ∧ (r4304 ≠ r4322 → False))) NoX))))) NoX))))
set_option maxRecDepth 100000 in
set_option maxHeartbeats 4000000 in
theorem go_law_4289 {G : GT} {b L : Nat} {xs : Nat → Int32} {qo k n : Nat} {x4 : Int} {M : Mem} {f : Nat → Int64} (hC : Cx G md_law) (hz : Lz G b L xs) (hk : k + 40 ≤ 601024 ∧ n + 400 ≤ 7293034) (kk : T_law_4289 G b L xs qo k n x4 M f) : L_law_4289 G b qo k n x4 M f := by
  unfold T_law_4289 at kk
  unfold L_law_4289
  refine V_aload_n hC 1 rfl dL_law_4289 ?_
  refine V_aload_n hC 0 rfl dL_law_4290 ?_
  refine V_iload hC 4 rfl dL_law_4291 ?_
  refine V_iconst hC dL_law_4293 ?_
  refine V_iadd hC dL_law_4294 ?_
  obtain ⟨hi, kk⟩ := kk
  refine V_sld hC hz hi dL_law_4295 (fun z => ?_)
  replace kk := kk z
  obtain ⟨ha, k1, k2⟩ := kk
  refine V_if_eq hC 4303 rfl dL_law_4296 ⟨ha, fun z => ?_, fun z => ?_⟩
  · replace kk := k1 z; clear k1 k2
    refine V_iconst hC dL_law_4303 ?_
    refine V_cVi hC (As := [_]) lv_L_460 dL_law_4304 (d0 := 60) (by decide) (Rm_law hz) rv_0 rfl (Nat.le_of_ble_eq_true rfl) (kl hz (by omega) (by omega)) kk (fun r9 M9 z kk => ?_)
    replace kk := kk z
    refine V_aload_n hC 2 rfl dL_law_4307 ?_
    refine V_aload_n hC 0 rfl dL_law_4308 ?_
    refine V_iload hC 4 rfl dL_law_4309 ?_
    refine V_iconst hC dL_law_4311 ?_
    refine V_iadd hC dL_law_4312 ?_
    obtain ⟨hi, kk⟩ := kk
    refine V_sld hC hz hi dL_law_4313 (fun z => ?_)
    replace kk := kk z
    obtain ⟨ha, k1, k2⟩ := kk
    refine V_if_eq hC 4321 rfl dL_law_4314 ⟨ha, fun z => ?_, fun z => ?_⟩
    · replace kk := k1 z; clear k1 k2
      refine V_iconst hC dL_law_4321 ?_
      refine V_cVi hC (As := [_]) lv_L_463 dL_law_4322 (d0 := 60) (by decide) (Rm_law hz) rv_72 rfl (Nat.le_of_ble_eq_true rfl) (kl hz (by omega) (by omega)) kk (fun r9 M9 z kk => ?_)
      replace kk := kk z
      obtain ⟨ha, hb, k1, k2⟩ := kk
      refine V_icmp_eq hC 4661 rfl dL_law_4325 ⟨ha, hb, fun z => ?_, fun z => ?_⟩
      · replace kk := k1 z; clear k1 k2
        refine V_iinc hC (lv' := [(4, _), (0, _), (1, _), (2, _), (3, _)]) 4 rfl (Nat.le_of_ble_eq_true rfl) rfl dL_law_4661 ?_
        refine V_goto hC 23 rfl dL_law_4664 ?_
        exact V_sub [1, 2, 3, 4, 0] rfl kk
      · replace kk := k2 z; clear k1 k2
        refine V_iconst hC dL_law_4328 ?_
        exact kk.elim
    · replace kk := k2 z; clear k1 k2
      refine V_iconst hC dL_law_4317 ?_
      refine V_goto hC 4322 rfl dL_law_4318 ?_
      refine V_cVi hC (As := [_]) lv_L_463 dL_law_4322 (d0 := 60) (by decide) (Rm_law hz) rv_72 rfl (Nat.le_of_ble_eq_true rfl) (kl hz (by omega) (by omega)) kk (fun r9 M9 z kk => ?_)
      replace kk := kk z
      obtain ⟨ha, hb, k1, k2⟩ := kk
      refine V_icmp_eq hC 4661 rfl dL_law_4325 ⟨ha, hb, fun z => ?_, fun z => ?_⟩
      · replace kk := k1 z; clear k1 k2
        refine V_iinc hC (lv' := [(4, _), (0, _), (1, _), (2, _), (3, _)]) 4 rfl (Nat.le_of_ble_eq_true rfl) rfl dL_law_4661 ?_
        refine V_goto hC 23 rfl dL_law_4664 ?_
        exact V_sub [1, 2, 3, 4, 0] rfl kk
      · replace kk := k2 z; clear k1 k2
        refine V_iconst hC dL_law_4328 ?_
        exact kk.elim
  · replace kk := k2 z; clear k1 k2
    refine V_iconst hC dL_law_4299 ?_
    refine V_goto hC 4304 rfl dL_law_4300 ?_
    refine V_cVi hC (As := [_]) lv_L_460 dL_law_4304 (d0 := 60) (by decide) (Rm_law hz) rv_0 rfl (Nat.le_of_ble_eq_true rfl) (kl hz (by omega) (by omega)) kk (fun r9 M9 z kk => ?_)
    replace kk := kk z
    refine V_aload_n hC 2 rfl dL_law_4307 ?_
    refine V_aload_n hC 0 rfl dL_law_4308 ?_
    refine V_iload hC 4 rfl dL_law_4309 ?_
    refine V_iconst hC dL_law_4311 ?_
    refine V_iadd hC dL_law_4312 ?_
    obtain ⟨hi, kk⟩ := kk
    refine V_sld hC hz hi dL_law_4313 (fun z => ?_)
    replace kk := kk z
    obtain ⟨ha, k1, k2⟩ := kk
    refine V_if_eq hC 4321 rfl dL_law_4314 ⟨ha, fun z => ?_, fun z => ?_⟩
    · replace kk := k1 z; clear k1 k2
      refine V_iconst hC dL_law_4321 ?_
      refine V_cVi hC (As := [_]) lv_L_463 dL_law_4322 (d0 := 60) (by decide) (Rm_law hz) rv_72 rfl (Nat.le_of_ble_eq_true rfl) (kl hz (by omega) (by omega)) kk (fun r9 M9 z kk => ?_)
      replace kk := kk z
      obtain ⟨ha, hb, k1, k2⟩ := kk
      refine V_icmp_eq hC 4661 rfl dL_law_4325 ⟨ha, hb, fun z => ?_, fun z => ?_⟩
      · replace kk := k1 z; clear k1 k2
        refine V_iinc hC (lv' := [(4, _), (0, _), (1, _), (2, _), (3, _)]) 4 rfl (Nat.le_of_ble_eq_true rfl) rfl dL_law_4661 ?_
        refine V_goto hC 23 rfl dL_law_4664 ?_
        exact V_sub [1, 2, 3, 4, 0] rfl kk
      · replace kk := k2 z; clear k1 k2
        refine V_iconst hC dL_law_4328 ?_
        exact kk.elim
    · replace kk := k2 z; clear k1 k2
      refine V_iconst hC dL_law_4317 ?_
      refine V_goto hC 4322 rfl dL_law_4318 ?_
      refine V_cVi hC (As := [_]) lv_L_463 dL_law_4322 (d0 := 60) (by decide) (Rm_law hz) rv_72 rfl (Nat.le_of_ble_eq_true rfl) (kl hz (by omega) (by omega)) kk (fun r9 M9 z kk => ?_)
      replace kk := kk z
      obtain ⟨ha, hb, k1, k2⟩ := kk
      refine V_icmp_eq hC 4661 rfl dL_law_4325 ⟨ha, hb, fun z => ?_, fun z => ?_⟩
      · replace kk := k1 z; clear k1 k2
        refine V_iinc hC (lv' := [(4, _), (0, _), (1, _), (2, _), (3, _)]) 4 rfl (Nat.le_of_ble_eq_true rfl) rfl dL_law_4661 ?_
        refine V_goto hC 23 rfl dL_law_4664 ?_
        exact V_sub [1, 2, 3, 4, 0] rfl kk
      · replace kk := k2 z; clear k1 k2
        refine V_iconst hC dL_law_4328 ?_
        exact kk.elim
def L_law_4330 (G : GT) (b qo : Nat) (k n : Nat) (x4 : Int) (M : Mem) (f : Nat → Int64) : Prop := V G md_law k n (Xo (gB G) qo f) M 4330 [(0, .ref b), (1, .ref (ad (gB G) 0)), (2, .ref (ad (gB G) 72)), (3, .ref qo), (4, .int (I x4))] []
def T_law_4330 (G : GT) (b L : Nat) (xs : Nat → Int32) (qo : Nat) (k n : Nat) (x4 : Int) (M : Mem) (f : Nat → Int64) : Prop := ((0 ≤ (x4 + (1 : Int)) ∧ (x4 + (1 : Int)) < (L : Int)) ∧ (inR ((xs (x4 + (1 : Int)).toNat).toInt) → OkW (gB G) (gl G) md_L_retained hh_L_retained [.ref (ad (gB G) 0), .int (I ((xs (x4 + (1 : Int)).toNat).toInt)), .ref qo] qo f M (fun r4338 M1 f1 => inR r4338 → ((0 ≤ (x4 + (1 : Int)) ∧ (x4 + (1 : Int)) < (L : Int)) ∧ (inR ((xs (x4 + (1 : Int)).toNat).toInt) → OkI (gB G) (gl G) md_X13_retained 0 0 [.ref (ad (gB G) 72), .int (I ((xs (x4 + (1 : Int)).toNat).toInt))] (Xo (gB G) qo f1) M1 (fun r4350 M2 => inR r4350 → OkI (gB G) (gl G) md_X13_thrown 0 0 [.ref (ad (gB G) 72)] (Xo (gB G) qo f1) M2 (fun r4356 M3 => inR r4356 → (inR r4356 ∧ inR r4338 ∧ (r4356 = r4338 → (inR r4338 ∧ (r4338 ≠ 0 → L_law_23 G b qo (k + 1) (n + 6) (x4 + 5) M3 f1) ∧ (r4338 = 0 → (∀ z4377 : Int, inR z4377 → (z4377 = 0 ↔ (f1 0) = (I r4350).toInt64) → (inR z4377 ∧ (z4377 = 0 → L_law_23 G b qo (k + 1) (n + 6) (x4 + 5) M3 f1) ∧ (z4377 ≠ 0 → False)))))) ∧ (r4356 ≠ r4338 → False))) NoX) NoX)))))
set_option maxRecDepth 100000 in
set_option maxHeartbeats 4000000 in
theorem go_law_4330 {G : GT} {b L : Nat} {xs : Nat → Int32} {qo k n : Nat} {x4 : Int} {M : Mem} {f : Nat → Int64} (hC : Cx G md_law) (hz : Lz G b L xs) (hk : k + 40 ≤ 601024 ∧ n + 400 ≤ 7293034) (kk : T_law_4330 G b L xs qo k n x4 M f) : L_law_4330 G b qo k n x4 M f := by
  unfold T_law_4330 at kk
  unfold L_law_4330
  refine V_aload_n hC 1 rfl dL_law_4330 ?_
  refine V_aload_n hC 0 rfl dL_law_4331 ?_
  refine V_iload hC 4 rfl dL_law_4332 ?_
  refine V_iconst hC dL_law_4334 ?_
  refine V_iadd hC dL_law_4335 ?_
  obtain ⟨hi, kk⟩ := kk
  refine V_sld hC hz hi dL_law_4336 (fun z => ?_)
  replace kk := kk z
  refine V_aload_n hC 3 rfl dL_law_4337 ?_
  refine V_cW hC (As := [_, _, _]) lw_464 dL_law_4338 (d0 := 60) (by decide) (Rm_law hz) rfl (Nat.le_of_ble_eq_true rfl) (kl hz (by omega) (by omega)) kk (fun r9 M9 f9 z kk => ?_)
  replace kk := kk z
  refine V_istore hC (lv' := [(5, _), (0, _), (1, _), (2, _), (3, _), (4, _)]) (Nat.le_of_ble_eq_true rfl) rfl dL_law_4341 ?_
  refine V_aload_n hC 3 rfl dL_law_4343 ?_
  refine V_aload_n hC 1 rfl dL_law_4344 ?_
  refine V_iload hC 5 rfl dL_law_4345 ?_
  refine V_iconst hC dL_law_4347 ?_
  refine V_iadd hC dL_law_4348 ?_
  obtain ⟨hi, kk⟩ := kk
  refine V_sld hC hz hi dL_law_4349 (fun z => ?_)
  replace kk := kk z
  refine V_cVi hC (As := [_]) lv_L_466 dL_law_4350 (d0 := 60) (by decide) (Rm_law hz) rv_72 rfl (Nat.le_of_ble_eq_true rfl) (kl hz (by omega) (by omega)) kk (fun r9 M9 z kk => ?_)
  replace kk := kk z
  refine V_istore hC (lv' := [(6, _), (5, _), (0, _), (1, _), (2, _), (3, _), (4, _)]) (Nat.le_of_ble_eq_true rfl) rfl dL_law_4353 ?_
  refine V_aload_n hC 4 rfl dL_law_4355 ?_
  refine V_cVi hC (As := []) lv_L_212 dL_law_4356 (d0 := 60) (by decide) (Rm_law hz) rv_72 rfl (Nat.le_of_ble_eq_true rfl) (kl hz (by omega) (by omega)) kk (fun r9 M9 z kk => ?_)
  replace kk := kk z
  refine V_iload hC 1 rfl dL_law_4359 ?_
  obtain ⟨ha, hb, k1, k2⟩ := kk
  refine V_icmp_eq hC 4366 rfl dL_law_4361 ⟨ha, hb, fun z => ?_, fun z => ?_⟩
  · replace kk := k1 z; clear k1 k2
    refine V_iload hC 1 rfl dL_law_4366 ?_
    obtain ⟨ha, k1, k2⟩ := kk
    refine V_if_ne hC 4383 rfl dL_law_4368 ⟨ha, fun z => ?_, fun z => ?_⟩
    · replace kk := k1 z; clear k1 k2
      refine V_goto hC 4661 rfl dL_law_4383 ?_
      refine V_iinc hC (lv' := [(4, _), (6, _), (5, _), (0, _), (1, _), (2, _), (3, _)]) 6 rfl (Nat.le_of_ble_eq_true rfl) rfl dL_law_4661 ?_
      refine V_goto hC 23 rfl dL_law_4664 ?_
      exact V_sub [3, 4, 5, 6, 0] rfl kk
    · replace kk := k2 z; clear k1 k2
      refine V_aload_n hC 5 rfl dL_law_4371 ?_
      refine V_iconst hC dL_law_4372 ?_
      refine V_laldW hC dL_law_4373 ?_
      refine V_iload hC 0 rfl dL_law_4374 ?_
      refine V_i2l hC dL_law_4376 ?_
      refine V_lcmp hC dL_law_4377 (fun z1 z2 z3 => ?_)
      replace kk := kk z1 z2 z3
      obtain ⟨ha, k1, k2⟩ := kk
      refine V_if_eq hC 4383 rfl dL_law_4378 ⟨ha, fun z => ?_, fun z => ?_⟩
      · replace kk := k1 z; clear k1 k2
        refine V_goto hC 4661 rfl dL_law_4383 ?_
        refine V_iinc hC (lv' := [(4, _), (6, _), (5, _), (0, _), (1, _), (2, _), (3, _)]) 6 rfl (Nat.le_of_ble_eq_true rfl) rfl dL_law_4661 ?_
        refine V_goto hC 23 rfl dL_law_4664 ?_
        exact V_sub [3, 4, 5, 6, 0] rfl kk
      · replace kk := k2 z; clear k1 k2
        refine V_iconst hC dL_law_4381 ?_
        exact kk.elim
  · replace kk := k2 z; clear k1 k2
    refine V_iconst hC dL_law_4364 ?_
    exact kk.elim
def L_law_4386 (G : GT) (b qo : Nat) (k n : Nat) (x4 : Int) (M : Mem) (f : Nat → Int64) : Prop := V G md_law k n (Xo (gB G) qo f) M 4386 [(0, .ref b), (1, .ref (ad (gB G) 0)), (2, .ref (ad (gB G) 72)), (3, .ref qo), (4, .int (I x4))] []
def T_law_4386 (G : GT) (b L : Nat) (xs : Nat → Int32) (qo : Nat) (k n : Nat) (x4 : Int) (M : Mem) (f : Nat → Int64) : Prop := OkI (gB G) (gl G) md_X11_heaviest 0 0 [.ref (ad (gB G) 0)] (Xo (gB G) qo f) M (fun r4387 M1 => inR r4387 → OkI (gB G) (gl G) md_X13_heaviest 0 0 [.ref (ad (gB G) 72)] (Xo (gB G) qo f) M1 (fun r4391 M2 => inR r4391 → (inR r4387 ∧ inR r4391 ∧ (r4387 = r4391 → L_law_23 G b qo k n (x4 + 5) M2 f) ∧ (r4387 ≠ r4391 → False))) NoX) NoX
set_option maxRecDepth 100000 in
set_option maxHeartbeats 4000000 in
theorem go_law_4386 {G : GT} {b L : Nat} {xs : Nat → Int32} {qo k n : Nat} {x4 : Int} {M : Mem} {f : Nat → Int64} (hC : Cx G md_law) (hz : Lz G b L xs) (hk : k + 40 ≤ 601024 ∧ n + 400 ≤ 7293034) (kk : T_law_4386 G b L xs qo k n x4 M f) : L_law_4386 G b qo k n x4 M f := by
  unfold T_law_4386 at kk
  unfold L_law_4386
  refine V_aload_n hC 1 rfl dL_law_4386 ?_
  refine V_cVi hC (As := []) lv_L_467 dL_law_4387 (d0 := 60) (by decide) (Rm_law hz) rv_0 rfl (Nat.le_of_ble_eq_true rfl) (kl hz (by omega) (by omega)) kk (fun r9 M9 z kk => ?_)
  replace kk := kk z
  refine V_aload_n hC 2 rfl dL_law_4390 ?_
  refine V_cVi hC (As := []) lv_L_470 dL_law_4391 (d0 := 60) (by decide) (Rm_law hz) rv_72 rfl (Nat.le_of_ble_eq_true rfl) (kl hz (by omega) (by omega)) kk (fun r9 M9 z kk => ?_)
  replace kk := kk z
  obtain ⟨ha, hb, k1, k2⟩ := kk
  refine V_icmp_eq hC 4661 rfl dL_law_4394 ⟨ha, hb, fun z => ?_, fun z => ?_⟩
  · replace kk := k1 z; clear k1 k2
    refine V_iinc hC (lv' := [(4, _), (0, _), (1, _), (2, _), (3, _)]) 4 rfl (Nat.le_of_ble_eq_true rfl) rfl dL_law_4661 ?_
    refine V_goto hC 23 rfl dL_law_4664 ?_
    exact V_sub [1, 2, 3, 4, 0] rfl kk
  · replace kk := k2 z; clear k1 k2
    refine V_iconst hC dL_law_4397 ?_
    exact kk.elim
def L_law_4399 (G : GT) (b qo : Nat) (k n : Nat) (x4 : Int) (M : Mem) (f : Nat → Int64) : Prop := V G md_law k n (Xo (gB G) qo f) M 4399 [(0, .ref b), (1, .ref (ad (gB G) 0)), (2, .ref (ad (gB G) 72)), (3, .ref qo), (4, .int (I x4))] []
def T_law_4399 (G : GT) (b L : Nat) (xs : Nat → Int32) (qo : Nat) (k n : Nat) (x4 : Int) (M : Mem) (f : Nat → Int64) : Prop := ((0 ≤ (x4 + (1 : Int)) ∧ (x4 + (1 : Int)) < (L : Int)) ∧ (inR ((xs (x4 + (1 : Int)).toNat).toInt) → OkW (gB G) (gl G) md_L_onCircle hh_L_onCircle [.ref (ad (gB G) 0), .int (I ((xs (x4 + (1 : Int)).toNat).toInt)), .ref qo] qo f M (fun r4407 M1 f1 => inR r4407 → ((0 ≤ (x4 + (1 : Int)) ∧ (x4 + (1 : Int)) < (L : Int)) ∧ (inR ((xs (x4 + (1 : Int)).toNat).toInt) → OkI (gB G) (gl G) md_X13_onCircle 0 0 [.ref (ad (gB G) 72), .int (I ((xs (x4 + (1 : Int)).toNat).toInt))] (Xo (gB G) qo f1) M1 (fun r4419 M2 => inR r4419 → OkI (gB G) (gl G) md_X13_thrown 0 0 [.ref (ad (gB G) 72)] (Xo (gB G) qo f1) M2 (fun r4425 M3 => inR r4425 → (inR r4425 ∧ inR r4407 ∧ (r4425 = r4407 → (inR r4407 ∧ (r4407 ≠ 0 → L_law_23 G b qo (k + 1) (n + 6) (x4 + 5) M3 f1) ∧ (r4407 = 0 → (inR r4419 ∧ (r4419 = 0 → (∀ z4453 : Int, inR z4453 → (z4453 = 0 ↔ (f1 0) = (0 : Int64)) → (inR z4453 ∧ (z4453 = 0 → L_law_23 G b qo (k + 1) (n + 6) (x4 + 5) M3 f1) ∧ (z4453 ≠ 0 → False)))) ∧ (r4419 ≠ 0 → (∀ z4453 : Int, inR z4453 → (z4453 = 0 ↔ (f1 0) = (1 : Int64)) → (inR z4453 ∧ (z4453 = 0 → L_law_23 G b qo (k + 1) (n + 6) (x4 + 5) M3 f1) ∧ (z4453 ≠ 0 → False)))))))) ∧ (r4425 ≠ r4407 → False))) NoX) NoX)))))
set_option maxRecDepth 100000 in
set_option maxHeartbeats 4000000 in
theorem go_law_4399 {G : GT} {b L : Nat} {xs : Nat → Int32} {qo k n : Nat} {x4 : Int} {M : Mem} {f : Nat → Int64} (hC : Cx G md_law) (hz : Lz G b L xs) (hk : k + 40 ≤ 601024 ∧ n + 400 ≤ 7293034) (kk : T_law_4399 G b L xs qo k n x4 M f) : L_law_4399 G b qo k n x4 M f := by
  unfold T_law_4399 at kk
  unfold L_law_4399
  refine V_aload_n hC 1 rfl dL_law_4399 ?_
  refine V_aload_n hC 0 rfl dL_law_4400 ?_
  refine V_iload hC 4 rfl dL_law_4401 ?_
  refine V_iconst hC dL_law_4403 ?_
  refine V_iadd hC dL_law_4404 ?_
  obtain ⟨hi, kk⟩ := kk
  refine V_sld hC hz hi dL_law_4405 (fun z => ?_)
  replace kk := kk z
  refine V_aload_n hC 3 rfl dL_law_4406 ?_
  refine V_cW hC (As := [_, _, _]) lw_471 dL_law_4407 (d0 := 60) (by decide) (Rm_law hz) rfl (Nat.le_of_ble_eq_true rfl) (kl hz (by omega) (by omega)) kk (fun r9 M9 f9 z kk => ?_)
  replace kk := kk z
  refine V_istore hC (lv' := [(5, _), (0, _), (1, _), (2, _), (3, _), (4, _)]) (Nat.le_of_ble_eq_true rfl) rfl dL_law_4410 ?_
  refine V_aload_n hC 3 rfl dL_law_4412 ?_
  refine V_aload_n hC 1 rfl dL_law_4413 ?_
  refine V_iload hC 5 rfl dL_law_4414 ?_
  refine V_iconst hC dL_law_4416 ?_
  refine V_iadd hC dL_law_4417 ?_
  obtain ⟨hi, kk⟩ := kk
  refine V_sld hC hz hi dL_law_4418 (fun z => ?_)
  replace kk := kk z
  refine V_cVi hC (As := [_]) lv_L_473 dL_law_4419 (d0 := 60) (by decide) (Rm_law hz) rv_72 rfl (Nat.le_of_ble_eq_true rfl) (kl hz (by omega) (by omega)) kk (fun r9 M9 z kk => ?_)
  replace kk := kk z
  refine V_istore hC (lv' := [(6, _), (5, _), (0, _), (1, _), (2, _), (3, _), (4, _)]) (Nat.le_of_ble_eq_true rfl) rfl dL_law_4422 ?_
  refine V_aload_n hC 4 rfl dL_law_4424 ?_
  refine V_cVi hC (As := []) lv_L_212 dL_law_4425 (d0 := 60) (by decide) (Rm_law hz) rv_72 rfl (Nat.le_of_ble_eq_true rfl) (kl hz (by omega) (by omega)) kk (fun r9 M9 z kk => ?_)
  replace kk := kk z
  refine V_iload hC 1 rfl dL_law_4428 ?_
  obtain ⟨ha, hb, k1, k2⟩ := kk
  refine V_icmp_eq hC 4435 rfl dL_law_4430 ⟨ha, hb, fun z => ?_, fun z => ?_⟩
  · replace kk := k1 z; clear k1 k2
    refine V_iload hC 1 rfl dL_law_4435 ?_
    obtain ⟨ha, k1, k2⟩ := kk
    refine V_if_ne hC 4459 rfl dL_law_4437 ⟨ha, fun z => ?_, fun z => ?_⟩
    · replace kk := k1 z; clear k1 k2
      refine V_goto hC 4661 rfl dL_law_4459 ?_
      refine V_iinc hC (lv' := [(4, _), (6, _), (5, _), (0, _), (1, _), (2, _), (3, _)]) 6 rfl (Nat.le_of_ble_eq_true rfl) rfl dL_law_4661 ?_
      refine V_goto hC 23 rfl dL_law_4664 ?_
      exact V_sub [3, 4, 5, 6, 0] rfl kk
    · replace kk := k2 z; clear k1 k2
      refine V_aload_n hC 5 rfl dL_law_4440 ?_
      refine V_iconst hC dL_law_4441 ?_
      refine V_laldW hC dL_law_4442 ?_
      refine V_iload hC 0 rfl dL_law_4443 ?_
      obtain ⟨ha, k1, k2⟩ := kk
      refine V_if_eq hC 4452 rfl dL_law_4445 ⟨ha, fun z => ?_, fun z => ?_⟩
      · replace kk := k1 z; clear k1 k2
        refine V_lconst hC 0 rfl dL_law_4452 ?_
        refine V_lcmp hC dL_law_4453 (fun z1 z2 z3 => ?_)
        replace kk := kk z1 z2 z3
        obtain ⟨ha, k1, k2⟩ := kk
        refine V_if_eq hC 4459 rfl dL_law_4454 ⟨ha, fun z => ?_, fun z => ?_⟩
        · replace kk := k1 z; clear k1 k2
          refine V_goto hC 4661 rfl dL_law_4459 ?_
          refine V_iinc hC (lv' := [(4, _), (6, _), (5, _), (0, _), (1, _), (2, _), (3, _)]) 6 rfl (Nat.le_of_ble_eq_true rfl) rfl dL_law_4661 ?_
          refine V_goto hC 23 rfl dL_law_4664 ?_
          exact V_sub [3, 4, 5, 6, 0] rfl kk
        · replace kk := k2 z; clear k1 k2
          refine V_iconst hC dL_law_4457 ?_
          exact kk.elim
      · replace kk := k2 z; clear k1 k2
        refine V_lconst hC 1 rfl dL_law_4448 ?_
        refine V_goto hC 4453 rfl dL_law_4449 ?_
        refine V_lcmp hC dL_law_4453 (fun z1 z2 z3 => ?_)
        replace kk := kk z1 z2 z3
        obtain ⟨ha, k1, k2⟩ := kk
        refine V_if_eq hC 4459 rfl dL_law_4454 ⟨ha, fun z => ?_, fun z => ?_⟩
        · replace kk := k1 z; clear k1 k2
          refine V_goto hC 4661 rfl dL_law_4459 ?_
          refine V_iinc hC (lv' := [(4, _), (6, _), (5, _), (0, _), (1, _), (2, _), (3, _)]) 6 rfl (Nat.le_of_ble_eq_true rfl) rfl dL_law_4661 ?_
          refine V_goto hC 23 rfl dL_law_4664 ?_
          exact V_sub [3, 4, 5, 6, 0] rfl kk
        · replace kk := k2 z; clear k1 k2
          refine V_iconst hC dL_law_4457 ?_
          exact kk.elim
  · replace kk := k2 z; clear k1 k2
    refine V_iconst hC dL_law_4433 ?_
    exact kk.elim
def L_law_4462 (G : GT) (b qo : Nat) (k n : Nat) (x4 : Int) (M : Mem) (f : Nat → Int64) : Prop := V G md_law k n (Xo (gB G) qo f) M 4462 [(0, .ref b), (1, .ref (ad (gB G) 0)), (2, .ref (ad (gB G) 72)), (3, .ref qo), (4, .int (I x4))] []
def T_law_4462 (G : GT) (b L : Nat) (xs : Nat → Int32) (qo : Nat) (k n : Nat) (x4 : Int) (M : Mem) (f : Nat → Int64) : Prop := ((0 ≤ (x4 + (1 : Int)) ∧ (x4 + (1 : Int)) < (L : Int)) ∧ (inR ((xs (x4 + (1 : Int)).toNat).toInt) → OkW (gB G) (gl G) md_L_referrers hh_L_referrers [.ref (ad (gB G) 0), .int (I ((xs (x4 + (1 : Int)).toNat).toInt)), .ref qo] qo f M (fun r4470 M1 f1 => inR r4470 → ((0 ≤ (x4 + (1 : Int)) ∧ (x4 + (1 : Int)) < (L : Int)) ∧ (inR ((xs (x4 + (1 : Int)).toNat).toInt) → OkI (gB G) (gl G) md_X13_referrers 0 0 [.ref (ad (gB G) 72), .int (I ((xs (x4 + (1 : Int)).toNat).toInt))] (Xo (gB G) qo f1) M1 (fun r4482 M2 => inR r4482 → OkI (gB G) (gl G) md_X13_thrown 0 0 [.ref (ad (gB G) 72)] (Xo (gB G) qo f1) M2 (fun r4488 M3 => inR r4488 → (inR r4488 ∧ inR r4470 ∧ (r4488 = r4470 → (inR r4470 ∧ (r4470 ≠ 0 → L_law_23 G b qo (k + 1) (n + 6) (x4 + 5) M3 f1) ∧ (r4470 = 0 → (∀ z4509 : Int, inR z4509 → (z4509 = 0 ↔ (f1 0) = (I r4482).toInt64) → (inR z4509 ∧ (z4509 = 0 → L_law_23 G b qo (k + 1) (n + 6) (x4 + 5) M3 f1) ∧ (z4509 ≠ 0 → False)))))) ∧ (r4488 ≠ r4470 → False))) NoX) NoX)))))
set_option maxRecDepth 100000 in
set_option maxHeartbeats 4000000 in
theorem go_law_4462 {G : GT} {b L : Nat} {xs : Nat → Int32} {qo k n : Nat} {x4 : Int} {M : Mem} {f : Nat → Int64} (hC : Cx G md_law) (hz : Lz G b L xs) (hk : k + 40 ≤ 601024 ∧ n + 400 ≤ 7293034) (kk : T_law_4462 G b L xs qo k n x4 M f) : L_law_4462 G b qo k n x4 M f := by
  unfold T_law_4462 at kk
  unfold L_law_4462
  refine V_aload_n hC 1 rfl dL_law_4462 ?_
  refine V_aload_n hC 0 rfl dL_law_4463 ?_
  refine V_iload hC 4 rfl dL_law_4464 ?_
  refine V_iconst hC dL_law_4466 ?_
  refine V_iadd hC dL_law_4467 ?_
  obtain ⟨hi, kk⟩ := kk
  refine V_sld hC hz hi dL_law_4468 (fun z => ?_)
  replace kk := kk z
  refine V_aload_n hC 3 rfl dL_law_4469 ?_
  refine V_cW hC (As := [_, _, _]) lw_474 dL_law_4470 (d0 := 60) (by decide) (Rm_law hz) rfl (Nat.le_of_ble_eq_true rfl) (kl hz (by omega) (by omega)) kk (fun r9 M9 f9 z kk => ?_)
  replace kk := kk z
  refine V_istore hC (lv' := [(5, _), (0, _), (1, _), (2, _), (3, _), (4, _)]) (Nat.le_of_ble_eq_true rfl) rfl dL_law_4473 ?_
  refine V_aload_n hC 3 rfl dL_law_4475 ?_
  refine V_aload_n hC 1 rfl dL_law_4476 ?_
  refine V_iload hC 5 rfl dL_law_4477 ?_
  refine V_iconst hC dL_law_4479 ?_
  refine V_iadd hC dL_law_4480 ?_
  obtain ⟨hi, kk⟩ := kk
  refine V_sld hC hz hi dL_law_4481 (fun z => ?_)
  replace kk := kk z
  refine V_cVi hC (As := [_]) lv_L_476 dL_law_4482 (d0 := 60) (by decide) (Rm_law hz) rv_72 rfl (Nat.le_of_ble_eq_true rfl) (kl hz (by omega) (by omega)) kk (fun r9 M9 z kk => ?_)
  replace kk := kk z
  refine V_istore hC (lv' := [(6, _), (5, _), (0, _), (1, _), (2, _), (3, _), (4, _)]) (Nat.le_of_ble_eq_true rfl) rfl dL_law_4485 ?_
  refine V_aload_n hC 4 rfl dL_law_4487 ?_
  refine V_cVi hC (As := []) lv_L_212 dL_law_4488 (d0 := 60) (by decide) (Rm_law hz) rv_72 rfl (Nat.le_of_ble_eq_true rfl) (kl hz (by omega) (by omega)) kk (fun r9 M9 z kk => ?_)
  replace kk := kk z
  refine V_iload hC 1 rfl dL_law_4491 ?_
  obtain ⟨ha, hb, k1, k2⟩ := kk
  refine V_icmp_eq hC 4498 rfl dL_law_4493 ⟨ha, hb, fun z => ?_, fun z => ?_⟩
  · replace kk := k1 z; clear k1 k2
    refine V_iload hC 1 rfl dL_law_4498 ?_
    obtain ⟨ha, k1, k2⟩ := kk
    refine V_if_ne hC 4515 rfl dL_law_4500 ⟨ha, fun z => ?_, fun z => ?_⟩
    · replace kk := k1 z; clear k1 k2
      refine V_goto hC 4661 rfl dL_law_4515 ?_
      refine V_iinc hC (lv' := [(4, _), (6, _), (5, _), (0, _), (1, _), (2, _), (3, _)]) 6 rfl (Nat.le_of_ble_eq_true rfl) rfl dL_law_4661 ?_
      refine V_goto hC 23 rfl dL_law_4664 ?_
      exact V_sub [3, 4, 5, 6, 0] rfl kk
    · replace kk := k2 z; clear k1 k2
      refine V_aload_n hC 5 rfl dL_law_4503 ?_
      refine V_iconst hC dL_law_4504 ?_
      refine V_laldW hC dL_law_4505 ?_
      refine V_iload hC 0 rfl dL_law_4506 ?_
      refine V_i2l hC dL_law_4508 ?_
      refine V_lcmp hC dL_law_4509 (fun z1 z2 z3 => ?_)
      replace kk := kk z1 z2 z3
      obtain ⟨ha, k1, k2⟩ := kk
      refine V_if_eq hC 4515 rfl dL_law_4510 ⟨ha, fun z => ?_, fun z => ?_⟩
      · replace kk := k1 z; clear k1 k2
        refine V_goto hC 4661 rfl dL_law_4515 ?_
        refine V_iinc hC (lv' := [(4, _), (6, _), (5, _), (0, _), (1, _), (2, _), (3, _)]) 6 rfl (Nat.le_of_ble_eq_true rfl) rfl dL_law_4661 ?_
        refine V_goto hC 23 rfl dL_law_4664 ?_
        exact V_sub [3, 4, 5, 6, 0] rfl kk
      · replace kk := k2 z; clear k1 k2
        refine V_iconst hC dL_law_4513 ?_
        exact kk.elim
  · replace kk := k2 z; clear k1 k2
    refine V_iconst hC dL_law_4496 ?_
    exact kk.elim
def L_law_4518 (G : GT) (b qo : Nat) (k n : Nat) (x4 : Int) (M : Mem) (f : Nat → Int64) : Prop := V G md_law k n (Xo (gB G) qo f) M 4518 [(0, .ref b), (1, .ref (ad (gB G) 0)), (2, .ref (ad (gB G) 72)), (3, .ref qo), (4, .int (I x4))] []
def T_law_4518 (G : GT) (b L : Nat) (xs : Nat → Int32) (qo : Nat) (k n : Nat) (x4 : Int) (M : Mem) (f : Nat → Int64) : Prop := ((0 ≤ (x4 + (1 : Int)) ∧ (x4 + (1 : Int)) < (L : Int)) ∧ (inR ((xs (x4 + (1 : Int)).toNat).toInt) → ((0 ≤ (x4 + (2 : Int)) ∧ (x4 + (2 : Int)) < (L : Int)) ∧ (inR ((xs (x4 + (2 : Int)).toNat).toInt) → OkW (gB G) (gl G) md_L_sameShape hh_L_sameShape [.ref (ad (gB G) 0), .int (I ((xs (x4 + (1 : Int)).toNat).toInt)), .int (I ((xs (x4 + (2 : Int)).toNat).toInt)), .ref qo] qo f M (fun r4532 M1 f1 => inR r4532 → ((0 ≤ (x4 + (1 : Int)) ∧ (x4 + (1 : Int)) < (L : Int)) ∧ (inR ((xs (x4 + (1 : Int)).toNat).toInt) → ((0 ≤ (x4 + (2 : Int)) ∧ (x4 + (2 : Int)) < (L : Int)) ∧ (inR ((xs (x4 + (2 : Int)).toNat).toInt) → OkI (gB G) (gl G) md_X13_sameShape 0 0 [.ref (ad (gB G) 72), .int (I ((xs (x4 + (1 : Int)).toNat).toInt)), .int (I ((xs (x4 + (2 : Int)).toNat).toInt))] (Xo (gB G) qo f1) M1 (fun r4550 M2 => inR r4550 → OkI (gB G) (gl G) md_X13_thrown 0 0 [.ref (ad (gB G) 72)] (Xo (gB G) qo f1) M2 (fun r4556 M3 => inR r4556 → (inR r4556 ∧ inR r4532 ∧ (r4556 = r4532 → (inR r4532 ∧ (r4532 ≠ 0 → L_law_23 G b qo (k + 1) (n + 6) (x4 + 5) M3 f1) ∧ (r4532 = 0 → (inR r4550 ∧ (r4550 = 0 → (∀ z4584 : Int, inR z4584 → (z4584 = 0 ↔ (f1 0) = (0 : Int64)) → (inR z4584 ∧ (z4584 = 0 → L_law_23 G b qo (k + 1) (n + 6) (x4 + 5) M3 f1) ∧ (z4584 ≠ 0 → False)))) ∧ (r4550 ≠ 0 → (∀ z4584 : Int, inR z4584 → (z4584 = 0 ↔ (f1 0) = (1 : Int64)) → (inR z4584 ∧ (z4584 = 0 → L_law_23 G b qo (k + 1) (n + 6) (x4 + 5) M3 f1) ∧ (z4584 ≠ 0 → False)))))))) ∧ (r4556 ≠ r4532 → False))) NoX) NoX)))))))))
set_option maxRecDepth 100000 in
set_option maxHeartbeats 4000000 in
theorem go_law_4518 {G : GT} {b L : Nat} {xs : Nat → Int32} {qo k n : Nat} {x4 : Int} {M : Mem} {f : Nat → Int64} (hC : Cx G md_law) (hz : Lz G b L xs) (hk : k + 40 ≤ 601024 ∧ n + 400 ≤ 7293034) (kk : T_law_4518 G b L xs qo k n x4 M f) : L_law_4518 G b qo k n x4 M f := by
  unfold T_law_4518 at kk
  unfold L_law_4518
  refine V_aload_n hC 1 rfl dL_law_4518 ?_
  refine V_aload_n hC 0 rfl dL_law_4519 ?_
  refine V_iload hC 4 rfl dL_law_4520 ?_
  refine V_iconst hC dL_law_4522 ?_
  refine V_iadd hC dL_law_4523 ?_
  obtain ⟨hi, kk⟩ := kk
  refine V_sld hC hz hi dL_law_4524 (fun z => ?_)
  replace kk := kk z
  refine V_aload_n hC 0 rfl dL_law_4525 ?_
  refine V_iload hC 4 rfl dL_law_4526 ?_
  refine V_iconst hC dL_law_4528 ?_
  refine V_iadd hC dL_law_4529 ?_
  obtain ⟨hi, kk⟩ := kk
  refine V_sld hC hz hi dL_law_4530 (fun z => ?_)
  replace kk := kk z
  refine V_aload_n hC 3 rfl dL_law_4531 ?_
  refine V_cW hC (As := [_, _, _, _]) lw_477 dL_law_4532 (d0 := 60) (by decide) (Rm_law hz) rfl (Nat.le_of_ble_eq_true rfl) (kl hz (by omega) (by omega)) kk (fun r9 M9 f9 z kk => ?_)
  replace kk := kk z
  refine V_istore hC (lv' := [(5, _), (0, _), (1, _), (2, _), (3, _), (4, _)]) (Nat.le_of_ble_eq_true rfl) rfl dL_law_4535 ?_
  refine V_aload_n hC 3 rfl dL_law_4537 ?_
  refine V_aload_n hC 1 rfl dL_law_4538 ?_
  refine V_iload hC 5 rfl dL_law_4539 ?_
  refine V_iconst hC dL_law_4541 ?_
  refine V_iadd hC dL_law_4542 ?_
  obtain ⟨hi, kk⟩ := kk
  refine V_sld hC hz hi dL_law_4543 (fun z => ?_)
  replace kk := kk z
  refine V_aload_n hC 1 rfl dL_law_4544 ?_
  refine V_iload hC 5 rfl dL_law_4545 ?_
  refine V_iconst hC dL_law_4547 ?_
  refine V_iadd hC dL_law_4548 ?_
  obtain ⟨hi, kk⟩ := kk
  refine V_sld hC hz hi dL_law_4549 (fun z => ?_)
  replace kk := kk z
  refine V_cVi hC (As := [_, _]) lv_L_479 dL_law_4550 (d0 := 60) (by decide) (Rm_law hz) rv_72 rfl (Nat.le_of_ble_eq_true rfl) (kl hz (by omega) (by omega)) kk (fun r9 M9 z kk => ?_)
  replace kk := kk z
  refine V_istore hC (lv' := [(6, _), (5, _), (0, _), (1, _), (2, _), (3, _), (4, _)]) (Nat.le_of_ble_eq_true rfl) rfl dL_law_4553 ?_
  refine V_aload_n hC 4 rfl dL_law_4555 ?_
  refine V_cVi hC (As := []) lv_L_212 dL_law_4556 (d0 := 60) (by decide) (Rm_law hz) rv_72 rfl (Nat.le_of_ble_eq_true rfl) (kl hz (by omega) (by omega)) kk (fun r9 M9 z kk => ?_)
  replace kk := kk z
  refine V_iload hC 1 rfl dL_law_4559 ?_
  obtain ⟨ha, hb, k1, k2⟩ := kk
  refine V_icmp_eq hC 4566 rfl dL_law_4561 ⟨ha, hb, fun z => ?_, fun z => ?_⟩
  · replace kk := k1 z; clear k1 k2
    refine V_iload hC 1 rfl dL_law_4566 ?_
    obtain ⟨ha, k1, k2⟩ := kk
    refine V_if_ne hC 4590 rfl dL_law_4568 ⟨ha, fun z => ?_, fun z => ?_⟩
    · replace kk := k1 z; clear k1 k2
      refine V_goto hC 4661 rfl dL_law_4590 ?_
      refine V_iinc hC (lv' := [(4, _), (6, _), (5, _), (0, _), (1, _), (2, _), (3, _)]) 6 rfl (Nat.le_of_ble_eq_true rfl) rfl dL_law_4661 ?_
      refine V_goto hC 23 rfl dL_law_4664 ?_
      exact V_sub [3, 4, 5, 6, 0] rfl kk
    · replace kk := k2 z; clear k1 k2
      refine V_aload_n hC 5 rfl dL_law_4571 ?_
      refine V_iconst hC dL_law_4572 ?_
      refine V_laldW hC dL_law_4573 ?_
      refine V_iload hC 0 rfl dL_law_4574 ?_
      obtain ⟨ha, k1, k2⟩ := kk
      refine V_if_eq hC 4583 rfl dL_law_4576 ⟨ha, fun z => ?_, fun z => ?_⟩
      · replace kk := k1 z; clear k1 k2
        refine V_lconst hC 0 rfl dL_law_4583 ?_
        refine V_lcmp hC dL_law_4584 (fun z1 z2 z3 => ?_)
        replace kk := kk z1 z2 z3
        obtain ⟨ha, k1, k2⟩ := kk
        refine V_if_eq hC 4590 rfl dL_law_4585 ⟨ha, fun z => ?_, fun z => ?_⟩
        · replace kk := k1 z; clear k1 k2
          refine V_goto hC 4661 rfl dL_law_4590 ?_
          refine V_iinc hC (lv' := [(4, _), (6, _), (5, _), (0, _), (1, _), (2, _), (3, _)]) 6 rfl (Nat.le_of_ble_eq_true rfl) rfl dL_law_4661 ?_
          refine V_goto hC 23 rfl dL_law_4664 ?_
          exact V_sub [3, 4, 5, 6, 0] rfl kk
        · replace kk := k2 z; clear k1 k2
          refine V_iconst hC dL_law_4588 ?_
          exact kk.elim
      · replace kk := k2 z; clear k1 k2
        refine V_lconst hC 1 rfl dL_law_4579 ?_
        refine V_goto hC 4584 rfl dL_law_4580 ?_
        refine V_lcmp hC dL_law_4584 (fun z1 z2 z3 => ?_)
        replace kk := kk z1 z2 z3
        obtain ⟨ha, k1, k2⟩ := kk
        refine V_if_eq hC 4590 rfl dL_law_4585 ⟨ha, fun z => ?_, fun z => ?_⟩
        · replace kk := k1 z; clear k1 k2
          refine V_goto hC 4661 rfl dL_law_4590 ?_
          refine V_iinc hC (lv' := [(4, _), (6, _), (5, _), (0, _), (1, _), (2, _), (3, _)]) 6 rfl (Nat.le_of_ble_eq_true rfl) rfl dL_law_4661 ?_
          refine V_goto hC 23 rfl dL_law_4664 ?_
          exact V_sub [3, 4, 5, 6, 0] rfl kk
        · replace kk := k2 z; clear k1 k2
          refine V_iconst hC dL_law_4588 ?_
          exact kk.elim
  · replace kk := k2 z; clear k1 k2
    refine V_iconst hC dL_law_4564 ?_
    exact kk.elim
def L_law_4593 (G : GT) (b qo : Nat) (k n : Nat) (x4 : Int) (M : Mem) (f : Nat → Int64) : Prop := V G md_law k n (Xo (gB G) qo f) M 4593 [(0, .ref b), (1, .ref (ad (gB G) 0)), (2, .ref (ad (gB G) 72)), (3, .ref qo), (4, .int (I x4))] []
def T_law_4593 (G : GT) (b L : Nat) (xs : Nat → Int32) (qo : Nat) (k n : Nat) (x4 : Int) (M : Mem) (f : Nat → Int64) : Prop := OkI (gB G) (gl G) md_X11_flaws 0 0 [.ref (ad (gB G) 0)] (Xo (gB G) qo f) M (fun r4594 M1 => inR r4594 → OkI (gB G) (gl G) md_X13_flaws 0 0 [.ref (ad (gB G) 72)] (Xo (gB G) qo f) M1 (fun r4598 M2 => inR r4598 → (inR r4594 ∧ inR r4598 ∧ (r4594 = r4598 → L_law_23 G b qo k n (x4 + 5) M2 f) ∧ (r4594 ≠ r4598 → False))) NoX) NoX
set_option maxRecDepth 100000 in
set_option maxHeartbeats 4000000 in
theorem go_law_4593 {G : GT} {b L : Nat} {xs : Nat → Int32} {qo k n : Nat} {x4 : Int} {M : Mem} {f : Nat → Int64} (hC : Cx G md_law) (hz : Lz G b L xs) (hk : k + 40 ≤ 601024 ∧ n + 400 ≤ 7293034) (kk : T_law_4593 G b L xs qo k n x4 M f) : L_law_4593 G b qo k n x4 M f := by
  unfold T_law_4593 at kk
  unfold L_law_4593
  refine V_aload_n hC 1 rfl dL_law_4593 ?_
  refine V_cVi hC (As := []) lv_L_480 dL_law_4594 (d0 := 60) (by decide) (Rm_law hz) rv_0 rfl (Nat.le_of_ble_eq_true rfl) (kl hz (by omega) (by omega)) kk (fun r9 M9 z kk => ?_)
  replace kk := kk z
  refine V_aload_n hC 2 rfl dL_law_4597 ?_
  refine V_cVi hC (As := []) lv_L_483 dL_law_4598 (d0 := 60) (by decide) (Rm_law hz) rv_72 rfl (Nat.le_of_ble_eq_true rfl) (kl hz (by omega) (by omega)) kk (fun r9 M9 z kk => ?_)
  replace kk := kk z
  obtain ⟨ha, hb, k1, k2⟩ := kk
  refine V_icmp_eq hC 4661 rfl dL_law_4601 ⟨ha, hb, fun z => ?_, fun z => ?_⟩
  · replace kk := k1 z; clear k1 k2
    refine V_iinc hC (lv' := [(4, _), (0, _), (1, _), (2, _), (3, _)]) 4 rfl (Nat.le_of_ble_eq_true rfl) rfl dL_law_4661 ?_
    refine V_goto hC 23 rfl dL_law_4664 ?_
    exact V_sub [1, 2, 3, 4, 0] rfl kk
  · replace kk := k2 z; clear k1 k2
    refine V_iconst hC dL_law_4604 ?_
    exact kk.elim
def L_law_4606 (G : GT) (b qo : Nat) (k n : Nat) (x4 : Int) (M : Mem) (f : Nat → Int64) : Prop := V G md_law k n (Xo (gB G) qo f) M 4606 [(0, .ref b), (1, .ref (ad (gB G) 0)), (2, .ref (ad (gB G) 72)), (3, .ref qo), (4, .int (I x4))] []
def T_law_4606 (G : GT) (b L : Nat) (xs : Nat → Int32) (qo : Nat) (k n : Nat) (x4 : Int) (M : Mem) (f : Nat → Int64) : Prop := OkD (gB G) (gl G) md_X11_meanWords 0 0 [.ref (ad (gB G) 0)] (Xo (gB G) qo f) M (fun r4607 M1 => OkD (gB G) (gl G) md_X13_meanWords 0 0 [.ref (ad (gB G) 72)] (Xo (gB G) qo f) M1 (fun r4613 M2 => (∀ z4622 : Int, inR z4622 → I z4622 = Op.cmpValue (FP.dcmp r4607 r4613) .l → (inR z4622 ∧ (z4622 = 0 → L_law_23 G b qo k n (x4 + 5) M2 f) ∧ (z4622 ≠ 0 → (∀ z4630 : Int, inR z4630 → I z4630 = Op.cmpValue (FP.dcmp r4607 r4607) .l → (inR z4630 ∧ (z4630 = 0 → False) ∧ (z4630 ≠ 0 → (∀ z4638 : Int, inR z4638 → I z4638 = Op.cmpValue (FP.dcmp r4613 r4613) .l → (inR z4638 ∧ (z4638 ≠ 0 → L_law_23 G b qo k n (x4 + 5) M2 f) ∧ (z4638 = 0 → False)))))))))) NoX) NoX
set_option maxRecDepth 100000 in
set_option maxHeartbeats 4000000 in
theorem go_law_4606 {G : GT} {b L : Nat} {xs : Nat → Int32} {qo k n : Nat} {x4 : Int} {M : Mem} {f : Nat → Int64} (hC : Cx G md_law) (hz : Lz G b L xs) (hk : k + 40 ≤ 601024 ∧ n + 400 ≤ 7293034) (kk : T_law_4606 G b L xs qo k n x4 M f) : L_law_4606 G b qo k n x4 M f := by
  unfold T_law_4606 at kk
  unfold L_law_4606
  refine V_aload_n hC 1 rfl dL_law_4606 ?_
  refine V_cVd hC (As := []) lv_L_484 dL_law_4607 (d0 := 60) (by decide) (Rm_law hz) rv_0 rfl (Nat.le_of_ble_eq_true rfl) (kl hz (by omega) (by omega)) kk (fun r9 M9 kk => ?_)
  refine V_dstore hC (lv' := [(5, _), (0, _), (1, _), (2, _), (3, _), (4, _)]) (Nat.le_of_ble_eq_true rfl) rfl dL_law_4610 ?_
  refine V_aload_n hC 3 rfl dL_law_4612 ?_
  refine V_cVd hC (As := []) lv_L_488 dL_law_4613 (d0 := 60) (by decide) (Rm_law hz) rv_72 rfl (Nat.le_of_ble_eq_true rfl) (kl hz (by omega) (by omega)) kk (fun r9 M9 kk => ?_)
  refine V_dstore hC (lv' := [(7, _), (5, _), (0, _), (1, _), (2, _), (3, _), (4, _)]) (Nat.le_of_ble_eq_true rfl) rfl dL_law_4616 ?_
  refine V_dload hC 1 rfl dL_law_4618 ?_
  refine V_dload hC 0 rfl dL_law_4620 ?_
  refine V_dcmpz hC dL_law_4622 (fun z1 z2 z3 => ?_)
  replace kk := kk z1 z2 z3
  obtain ⟨ha, k1, k2⟩ := kk
  refine V_if_eq hC 4644 rfl dL_law_4623 ⟨ha, fun z => ?_, fun z => ?_⟩
  · replace kk := k1 z; clear k1 k2
    refine V_goto hC 4661 rfl dL_law_4644 ?_
    refine V_iinc hC (lv' := [(4, _), (7, _), (5, _), (0, _), (1, _), (2, _), (3, _)]) 6 rfl (Nat.le_of_ble_eq_true rfl) rfl dL_law_4661 ?_
    refine V_goto hC 23 rfl dL_law_4664 ?_
    exact V_sub [3, 4, 5, 6, 0] rfl kk
  · replace kk := k2 z; clear k1 k2
    refine V_dload hC 1 rfl dL_law_4626 ?_
    refine V_dload hC 1 rfl dL_law_4628 ?_
    refine V_dcmpz hC dL_law_4630 (fun z1 z2 z3 => ?_)
    replace kk := kk z1 z2 z3
    obtain ⟨ha, k1, k2⟩ := kk
    refine V_if_eq hC 4642 rfl dL_law_4631 ⟨ha, fun z => ?_, fun z => ?_⟩
    · replace kk := k1 z; clear k1 k2
      refine V_iconst hC dL_law_4642 ?_
      exact kk.elim
    · replace kk := k2 z; clear k1 k2
      refine V_dload hC 0 rfl dL_law_4634 ?_
      refine V_dload hC 0 rfl dL_law_4636 ?_
      refine V_dcmpz hC dL_law_4638 (fun z1 z2 z3 => ?_)
      replace kk := kk z1 z2 z3
      obtain ⟨ha, k1, k2⟩ := kk
      refine V_if_ne hC 4644 rfl dL_law_4639 ⟨ha, fun z => ?_, fun z => ?_⟩
      · replace kk := k1 z; clear k1 k2
        refine V_goto hC 4661 rfl dL_law_4644 ?_
        refine V_iinc hC (lv' := [(4, _), (7, _), (5, _), (0, _), (1, _), (2, _), (3, _)]) 6 rfl (Nat.le_of_ble_eq_true rfl) rfl dL_law_4661 ?_
        refine V_goto hC 23 rfl dL_law_4664 ?_
        exact V_sub [3, 4, 5, 6, 0] rfl kk
      · replace kk := k2 z; clear k1 k2
        refine V_iconst hC dL_law_4642 ?_
        exact kk.elim
def L_law_4647 (G : GT) (b qo : Nat) (k n : Nat) (x4 : Int) (M : Mem) (f : Nat → Int64) : Prop := V G md_law k n (Xo (gB G) qo f) M 4647 [(0, .ref b), (1, .ref (ad (gB G) 0)), (2, .ref (ad (gB G) 72)), (3, .ref qo), (4, .int (I x4))] []
def T_law_4647 (G : GT) (b L : Nat) (xs : Nat → Int32) (qo : Nat) (k n : Nat) (x4 : Int) (M : Mem) (f : Nat → Int64) : Prop := OkL (gB G) (gl G) md_X11_digest 0 0 [.ref (ad (gB G) 0)] (Xo (gB G) qo f) M (fun r4648 M1 => OkL (gB G) (gl G) md_X13_digest 16 128 [.ref (ad (gB G) 72)] (Xo (gB G) qo f) M1 (fun r4652 M2 => (∀ z4655 : Int, inR z4655 → (z4655 = 0 ↔ r4648 = r4652) → (inR z4655 ∧ (z4655 = 0 → L_law_23 G b qo (k + 16) (n + 128) (x4 + 5) M2 f) ∧ (z4655 ≠ 0 → False)))) NoX) NoX
set_option maxRecDepth 100000 in
set_option maxHeartbeats 4000000 in
theorem go_law_4647 {G : GT} {b L : Nat} {xs : Nat → Int32} {qo k n : Nat} {x4 : Int} {M : Mem} {f : Nat → Int64} (hC : Cx G md_law) (hz : Lz G b L xs) (hk : k + 40 ≤ 601024 ∧ n + 400 ≤ 7293034) (kk : T_law_4647 G b L xs qo k n x4 M f) : L_law_4647 G b qo k n x4 M f := by
  unfold T_law_4647 at kk
  unfold L_law_4647
  refine V_aload_n hC 1 rfl dL_law_4647 ?_
  refine V_cVl hC (As := []) lv_L_489 dL_law_4648 (d0 := 60) (by decide) (Rm_law hz) rv_0 rfl (Nat.le_of_ble_eq_true rfl) (kl hz (by omega) (by omega)) kk (fun r9 M9 kk => ?_)
  refine V_aload_n hC 2 rfl dL_law_4651 ?_
  refine V_cVlK hC (As := []) lv_L_493 dL_law_4652 (d0 := 60) (by decide) (Rm_law hz) rv_72 rfl (Nat.le_of_ble_eq_true rfl) (kl hz (by omega) (by omega)) kk (fun r9 M9 kk => ?_)
  refine V_lcmp hC dL_law_4655 (fun z1 z2 z3 => ?_)
  replace kk := kk z1 z2 z3
  obtain ⟨ha, k1, k2⟩ := kk
  refine V_if_eq hC 4661 rfl dL_law_4656 ⟨ha, fun z => ?_, fun z => ?_⟩
  · replace kk := k1 z; clear k1 k2
    refine V_iinc hC (lv' := [(4, _), (0, _), (1, _), (2, _), (3, _)]) 4 rfl (Nat.le_of_ble_eq_true rfl) rfl dL_law_4661 ?_
    refine V_goto hC 23 rfl dL_law_4664 ?_
    exact V_sub [1, 2, 3, 4, 0] rfl kk
  · replace kk := k2 z; clear k1 k2
    refine V_iconst hC dL_law_4659 ?_
    exact kk.elim
