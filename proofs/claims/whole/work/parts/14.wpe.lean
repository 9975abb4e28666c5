def L_X12_become_0 (G : GT) (X : va_W) (o : Nat) (c1 : Nat) (M : Mem) : Prop := V G md_X12_become 0 0 X M 0 [(0, .ref (ad (gB G) o)), (1, .ref (ad (gB G) c1))] []
def T_X12_become_0 (G : GT) (X : va_W) (Q : Nat → Mem → Prop) (E : String → Mem → Prop) (o : Nat) (c1 : Nat) (M : Mem) : Prop := (inR (M c1 0) → (inR (M c1 0) ∧ ∀ M1 : Mem, M1 = up M o 0 (M c1 0) → (inR (M1 c1 1) → (inR (M1 c1 1) ∧ ∀ M2 : Mem, M2 = up M1 o 1 (M1 c1 1) → (inR (M2 c1 2) → (inR (M2 c1 2) ∧ ∀ M3 : Mem, M3 = up M2 o 2 (M2 c1 2) → (inR (M3 c1 3) → (inR (M3 c1 3) ∧ ∀ M4 : Mem, M4 = up M3 o 3 (M3 c1 3) → (inR (M4 c1 4) → (inR (M4 c1 4) ∧ ∀ M5 : Mem, M5 = up M4 o 4 (M4 c1 4) → (inR (M5 c1 5) → (inR (M5 c1 5) ∧ ∀ M6 : Mem, M6 = up M5 o 5 (M5 c1 5) → (inR (M6 c1 6) → (inR (M6 c1 6) ∧ ∀ M7 : Mem, M7 = up M6 o 6 (M6 c1 6) → (inR (M7 c1 7) → (inR (M7 c1 7) ∧ ∀ M8 : Mem, M8 = up M7 o 7 (M7 c1 7) → (inR (M8 c1 8) → (inR (M8 c1 8) ∧ ∀ M9 : Mem, M9 = up M8 o 8 (M8 c1 8) → (inR (M9 o 0) → ((0 ≤ (0 : Int) ∧ 0 ≤ (0 : Int) ∧ 0 ≤ (M9 o 0) ∧ (0 : Int) + (M9 o 0) ≤ 256 ∧ (0 : Int) + (M9 o 0) ≤ 256) ∧ ∀ M10 : Mem, M10 = cpM M9 (c1 + 1) (0 : Int).toNat (o + 1) (0 : Int).toNat (M9 o 0).toNat → (inR (M10 o 0) → ((0 ≤ (0 : Int) ∧ 0 ≤ (0 : Int) ∧ 0 ≤ (M10 o 0) ∧ (0 : Int) + (M10 o 0) ≤ 256 ∧ (0 : Int) + (M10 o 0) ≤ 256) ∧ ∀ M11 : Mem, M11 = cpM M10 (c1 + 2) (0 : Int).toNat (o + 2) (0 : Int).toNat (M10 o 0).toNat → (inR (M11 o 0) → ((0 ≤ (0 : Int) ∧ 0 ≤ (0 : Int) ∧ 0 ≤ (M11 o 0) ∧ (0 : Int) + (M11 o 0) ≤ 256 ∧ (0 : Int) + (M11 o 0) ≤ 256) ∧ ∀ M12 : Mem, M12 = cpM M11 (c1 + 3) (0 : Int).toNat (o + 3) (0 : Int).toNat (M11 o 0).toNat → (inR (M12 o 0) → ((0 ≤ (0 : Int) ∧ 0 ≤ (0 : Int) ∧ 0 ≤ (M12 o 0) ∧ (0 : Int) + (M12 o 0) ≤ 256 ∧ (0 : Int) + (M12 o 0) ≤ 256) ∧ ∀ M13 : Mem, M13 = cpM M12 (c1 + 4) (0 : Int).toNat (o + 4) (0 : Int).toNat (M12 o 0).toNat → (inR (M13 o 0) → ((0 ≤ (0 : Int) ∧ 0 ≤ (0 : Int) ∧ 0 ≤ (M13 o 0) ∧ (0 : Int) + (M13 o 0) ≤ 256 ∧ (0 : Int) + (M13 o 0) ≤ 256) ∧ ∀ M14 : Mem, M14 = cpM M13 (c1 + 5) (0 : Int).toNat (o + 5) (0 : Int).toNat (M13 o 0).toNat → (inR (M14 o 0) → ((0 ≤ (0 : Int) ∧ 0 ≤ (0 : Int) ∧ 0 ≤ (M14 o 0) ∧ (0 : Int) + (M14 o 0) ≤ 256 ∧ (0 : Int) + (M14 o 0) ≤ 256) ∧ ∀ M15 : Mem, M15 = cpM M14 (c1 + 6) (0 : Int).toNat (o + 6) (0 : Int).toNat (M14 o 0).toNat → (inR (M15 o 1) → ((0 ≤ (0 : Int) ∧ 0 ≤ (0 : Int) ∧ 0 ≤ (M15 o 1) ∧ (0 : Int) + (M15 o 1) ≤ 2048 ∧ (0 : Int) + (M15 o 1) ≤ 2048) ∧ ∀ M16 : Mem, M16 = cpM M15 (c1 + 7) (0 : Int).toNat (o + 7) (0 : Int).toNat (M15 o 1).toNat → ((0 ≤ (0 : Int) ∧ 0 ≤ (0 : Int) ∧ 0 ≤ (8 : Int) ∧ (0 : Int) + (8 : Int) ≤ 8 ∧ (0 : Int) + (8 : Int) ≤ 8) ∧ ∀ M17 : Mem, M17 = cpM M16 (c1 + 8) (0 : Int).toNat (o + 8) (0 : Int).toNat (8 : Int).toNat → ((0 ≤ (0 : Int) ∧ 0 ≤ (0 : Int) ∧ 0 ≤ (72 : Int) ∧ (0 : Int) + (72 : Int) ≤ 72 ∧ (0 : Int) + (72 : Int) ≤ 72) ∧ ∀ M18 : Mem, M18 = cpM M17 (c1 + 9) (0 : Int).toNat (o + 9) (0 : Int).toNat (72 : Int).toNat → (inR (M18 o 7) → ((0 ≤ (0 : Int) ∧ 0 ≤ (0 : Int) ∧ 0 ≤ (M18 o 7) ∧ (0 : Int) + (M18 o 7) ≤ 256 ∧ (0 : Int) + (M18 o 7) ≤ 256) ∧ ∀ M19 : Mem, M19 = cpM M18 (c1 + 10) (0 : Int).toNat (o + 10) (0 : Int).toNat (M18 o 7).toNat → (inR (M19 o 8) → ((0 ≤ (0 : Int) ∧ 0 ≤ (0 : Int) ∧ 0 ≤ (M19 o 8) ∧ (0 : Int) + (M19 o 8) ≤ 256 ∧ (0 : Int) + (M19 o 8) ≤ 256) ∧ ∀ M20 : Mem, M20 = cpM M19 (c1 + 11) (0 : Int).toNat (o + 11) (0 : Int).toNat (M19 o 8).toNat → OkV (gB G) (gl G) md_X12_none 0 0 [.ref (ad (gB G) o), .ref (ad (gB G) (o + 12))] X M20 (fun M21 => Q o M21) NoX))))))))))))))))))))))))))))))))))))))
set_option maxRecDepth 100000 in
set_option maxHeartbeats 4000000 in
theorem go_X12_become_0 {G : GT} {X : va_W} {Q : Nat → Mem → Prop} {E : String → Mem → Prop} {B : WB} {l : Launch} {k n : Nat} {o : Nat} {c1 : Nat} {M : Mem} (h : Ct G md_X12_become X (oR B Q E) B l k n) (ho : isHp o) (hc1 : isHp c1) (kk : T_X12_become_0 G X Q E o c1 M) : L_X12_become_0 G X o c1 M := by
  obtain ⟨hC, hR, rfl, hgr, rfl⟩ := h
  unfold T_X12_become_0 at kk
  unfold L_X12_become_0
  refine V_aload_n hC 0 rfl dX12_become_0 ?_
  refine V_aload_n hC 1 rfl dX12_become_1 ?_
  refine V_gi hC fr_X12_80 (hp_i0 hc1) dX12_become_2 (fun z => ?_)
  replace kk := kk z
  obtain ⟨hv, kk⟩ := kk
  refine V_pi hC fk_X12_80 (hp_i0 ho) dX12_become_5 hv ?_
  replace kk := kk _ rfl
  refine V_aload_n hC 0 rfl dX12_become_8 ?_
  refine V_aload_n hC 1 rfl dX12_become_9 ?_
  refine V_gi hC fr_X12_83 (hp_i1 hc1) dX12_become_10 (fun z => ?_)
  replace kk := kk z
  obtain ⟨hv, kk⟩ := kk
  refine V_pi hC fk_X12_83 (hp_i1 ho) dX12_become_13 hv ?_
  replace kk := kk _ rfl
  refine V_aload_n hC 0 rfl dX12_become_16 ?_
  refine V_aload_n hC 1 rfl dX12_become_17 ?_
  refine V_gi hC fr_X12_86 (hp_i2 hc1) dX12_become_18 (fun z => ?_)
  replace kk := kk z
  obtain ⟨hv, kk⟩ := kk
  refine V_pi hC fk_X12_86 (hp_i2 ho) dX12_become_21 hv ?_
  replace kk := kk _ rfl
  refine V_aload_n hC 0 rfl dX12_become_24 ?_
  refine V_aload_n hC 1 rfl dX12_become_25 ?_
  refine V_gi hC fr_X12_89 (hp_i3 hc1) dX12_become_26 (fun z => ?_)
  replace kk := kk z
  obtain ⟨hv, kk⟩ := kk
  refine V_pi hC fk_X12_89 (hp_i3 ho) dX12_become_29 hv ?_
  replace kk := kk _ rfl
  refine V_aload_n hC 0 rfl dX12_become_32 ?_
  refine V_aload_n hC 1 rfl dX12_become_33 ?_
  refine V_gi hC fr_X12_92 (hp_i4 hc1) dX12_become_34 (fun z => ?_)
  replace kk := kk z
  obtain ⟨hv, kk⟩ := kk
  refine V_pi hC fk_X12_92 (hp_i4 ho) dX12_become_37 hv ?_
  replace kk := kk _ rfl
  refine V_aload_n hC 0 rfl dX12_become_40 ?_
  refine V_aload_n hC 1 rfl dX12_become_41 ?_
  refine V_gi hC fr_X12_15 (hp_i5 hc1) dX12_become_42 (fun z => ?_)
  replace kk := kk z
  obtain ⟨hv, kk⟩ := kk
  refine V_pi hC fk_X12_15 (hp_i5 ho) dX12_become_45 hv ?_
  replace kk := kk _ rfl
  refine V_aload_n hC 0 rfl dX12_become_48 ?_
  refine V_aload_n hC 1 rfl dX12_become_49 ?_
  refine V_gi hC fr_X12_19 (hp_i6 hc1) dX12_become_50 (fun z => ?_)
  replace kk := kk z
  obtain ⟨hv, kk⟩ := kk
  refine V_pi hC fk_X12_19 (hp_i6 ho) dX12_become_53 hv ?_
  replace kk := kk _ rfl
  refine V_aload_n hC 0 rfl dX12_become_56 ?_
  refine V_aload_n hC 1 rfl dX12_become_57 ?_
  refine V_gi hC fr_X12_95 (hp_i7 hc1) dX12_become_58 (fun z => ?_)
  replace kk := kk z
  obtain ⟨hv, kk⟩ := kk
  refine V_pi hC fk_X12_95 (hp_i7 ho) dX12_become_61 hv ?_
  replace kk := kk _ rfl
  refine V_aload_n hC 0 rfl dX12_become_64 ?_
  refine V_aload_n hC 1 rfl dX12_become_65 ?_
  refine V_gi hC fr_X12_98 (hp_i8 hc1) dX12_become_66 (fun z => ?_)
  replace kk := kk z
  obtain ⟨hv, kk⟩ := kk
  refine V_pi hC fk_X12_98 (hp_i8 ho) dX12_become_69 hv ?_
  replace kk := kk _ rfl
  refine V_aload_n hC 1 rfl dX12_become_72 ?_
  refine V_gr hC fr_X12_22 (hp_r9 hc1) dX12_become_73 ?_
  refine V_iconst hC dX12_become_76 ?_
  refine V_aload_n hC 0 rfl dX12_become_77 ?_
  refine V_gr hC fr_X12_22 (hp_r9 ho) dX12_become_78 ?_
  refine V_iconst hC dX12_become_81 ?_
  refine V_aload_n hC 0 rfl dX12_become_82 ?_
  refine V_gi hC fr_X12_80 (hp_i0 ho) dX12_become_83 (fun z => ?_)
  replace kk := kk z
  obtain ⟨hi, kk⟩ := kk
  refine V_cp hC cp_X12_101 (hp_a1 hc1) (hp_a1 ho) dX12_become_86 (R8_of hgr) (Nat.le_of_ble_eq_true rfl) hi ?_
  replace kk := kk _ rfl
  refine V_aload_n hC 1 rfl dX12_become_89 ?_
  refine V_gr hC fr_X12_26 (hp_r10 hc1) dX12_become_90 ?_
  refine V_iconst hC dX12_become_93 ?_
  refine V_aload_n hC 0 rfl dX12_become_94 ?_
  refine V_gr hC fr_X12_26 (hp_r10 ho) dX12_become_95 ?_
  refine V_iconst hC dX12_become_98 ?_
  refine V_aload_n hC 0 rfl dX12_become_99 ?_
  refine V_gi hC fr_X12_80 (hp_i0 ho) dX12_become_100 (fun z => ?_)
  replace kk := kk z
  obtain ⟨hi, kk⟩ := kk
  refine V_cp hC cp_X12_101 (hp_a2 hc1) (hp_a2 ho) dX12_become_103 (R8_of hgr) (Nat.le_of_ble_eq_true rfl) hi ?_
  replace kk := kk _ rfl
  refine V_aload_n hC 1 rfl dX12_become_106 ?_
  refine V_gr hC fr_X12_29 (hp_r11 hc1) dX12_become_107 ?_
  refine V_iconst hC dX12_become_110 ?_
  refine V_aload_n hC 0 rfl dX12_become_111 ?_
  refine V_gr hC fr_X12_29 (hp_r11 ho) dX12_become_112 ?_
  refine V_iconst hC dX12_become_115 ?_
  refine V_aload_n hC 0 rfl dX12_become_116 ?_
  refine V_gi hC fr_X12_80 (hp_i0 ho) dX12_become_117 (fun z => ?_)
  replace kk := kk z
  obtain ⟨hi, kk⟩ := kk
  refine V_cp hC cp_X12_101 (hp_a3 hc1) (hp_a3 ho) dX12_become_120 (R8_of hgr) (Nat.le_of_ble_eq_true rfl) hi ?_
  replace kk := kk _ rfl
  refine V_aload_n hC 1 rfl dX12_become_123 ?_
  refine V_gr hC fr_X12_32 (hp_r12 hc1) dX12_become_124 ?_
  refine V_iconst hC dX12_become_127 ?_
  refine V_aload_n hC 0 rfl dX12_become_128 ?_
  refine V_gr hC fr_X12_32 (hp_r12 ho) dX12_become_129 ?_
  refine V_iconst hC dX12_become_132 ?_
  refine V_aload_n hC 0 rfl dX12_become_133 ?_
  refine V_gi hC fr_X12_80 (hp_i0 ho) dX12_become_134 (fun z => ?_)
  replace kk := kk z
  obtain ⟨hi, kk⟩ := kk
  refine V_cp hC cp_X12_101 (hp_a4 hc1) (hp_a4 ho) dX12_become_137 (R8_of hgr) (Nat.le_of_ble_eq_true rfl) hi ?_
  replace kk := kk _ rfl
  refine V_aload_n hC 1 rfl dX12_become_140 ?_
  refine V_gr hC fr_X12_35 (hp_r13 hc1) dX12_become_141 ?_
  refine V_iconst hC dX12_become_144 ?_
  refine V_aload_n hC 0 rfl dX12_become_145 ?_
  refine V_gr hC fr_X12_35 (hp_r13 ho) dX12_become_146 ?_
  refine V_iconst hC dX12_become_149 ?_
  refine V_aload_n hC 0 rfl dX12_become_150 ?_
  refine V_gi hC fr_X12_80 (hp_i0 ho) dX12_become_151 (fun z => ?_)
  replace kk := kk z
  obtain ⟨hi, kk⟩ := kk
  refine V_cp hC cp_X12_101 (hp_a5 hc1) (hp_a5 ho) dX12_become_154 (R8_of hgr) (Nat.le_of_ble_eq_true rfl) hi ?_
  replace kk := kk _ rfl
  refine V_aload_n hC 1 rfl dX12_become_157 ?_
  refine V_gr hC fr_X12_38 (hp_r14 hc1) dX12_become_158 ?_
  refine V_iconst hC dX12_become_161 ?_
  refine V_aload_n hC 0 rfl dX12_become_162 ?_
  refine V_gr hC fr_X12_38 (hp_r14 ho) dX12_become_163 ?_
  refine V_iconst hC dX12_become_166 ?_
  refine V_aload_n hC 0 rfl dX12_become_167 ?_
  refine V_gi hC fr_X12_80 (hp_i0 ho) dX12_become_168 (fun z => ?_)
  replace kk := kk z
  obtain ⟨hi, kk⟩ := kk
  refine V_cp hC cp_X12_101 (hp_a6 hc1) (hp_a6 ho) dX12_become_171 (R8_of hgr) (Nat.le_of_ble_eq_true rfl) hi ?_
  replace kk := kk _ rfl
  refine V_aload_n hC 1 rfl dX12_become_174 ?_
  refine V_gr hC fr_X12_41 (hp_r15 hc1) dX12_become_175 ?_
  refine V_iconst hC dX12_become_178 ?_
  refine V_aload_n hC 0 rfl dX12_become_179 ?_
  refine V_gr hC fr_X12_41 (hp_r15 ho) dX12_become_180 ?_
  refine V_iconst hC dX12_become_183 ?_
  refine V_aload_n hC 0 rfl dX12_become_184 ?_
  refine V_gi hC fr_X12_83 (hp_i1 ho) dX12_become_185 (fun z => ?_)
  replace kk := kk z
  obtain ⟨hi, kk⟩ := kk
  refine V_cp hC cp_X12_101 (hp_a7 hc1) (hp_a7 ho) dX12_become_188 (R8_of hgr) (Nat.le_of_ble_eq_true rfl) hi ?_
  replace kk := kk _ rfl
  refine V_aload_n hC 1 rfl dX12_become_191 ?_
  refine V_gr hC fr_X12_44 (hp_r16 hc1) dX12_become_192 ?_
  refine V_iconst hC dX12_become_195 ?_
  refine V_aload_n hC 0 rfl dX12_become_196 ?_
  refine V_gr hC fr_X12_44 (hp_r16 ho) dX12_become_197 ?_
  refine V_iconst hC dX12_become_200 ?_
  refine V_bipush hC (d := dX12_become_201) rfl ?_
  obtain ⟨hi, kk⟩ := kk
  refine V_cp hC cp_X12_101 (hp_a8 hc1) (hp_a8 ho) dX12_become_203 (R8_of hgr) (Nat.le_of_ble_eq_true rfl) hi ?_
  replace kk := kk _ rfl
  refine V_aload_n hC 1 rfl dX12_become_206 ?_
  refine V_gr hC fr_X12_47 (hp_r17 hc1) dX12_become_207 ?_
  refine V_iconst hC dX12_become_210 ?_
  refine V_aload_n hC 0 rfl dX12_become_211 ?_
  refine V_gr hC fr_X12_47 (hp_r17 ho) dX12_become_212 ?_
  refine V_iconst hC dX12_become_215 ?_
  refine V_aload_n hC 0 rfl dX12_become_216 ?_
  refine V_gr hC fr_X12_47 (hp_r17 ho) dX12_become_217 ?_
  refine V_al hC (hp_a9 ho) dX12_become_220 ?_
  obtain ⟨hi, kk⟩ := kk
  refine V_cp hC cp_X12_101 (hp_a9 hc1) (hp_a9 ho) dX12_become_221 (R8_of hgr) (Nat.le_of_ble_eq_true rfl) hi ?_
  replace kk := kk _ rfl
  refine V_aload_n hC 1 rfl dX12_become_224 ?_
  refine V_gr hC fr_X12_50 (hp_r18 hc1) dX12_become_225 ?_
  refine V_iconst hC dX12_become_228 ?_
  refine V_aload_n hC 0 rfl dX12_become_229 ?_
  refine V_gr hC fr_X12_50 (hp_r18 ho) dX12_become_230 ?_
  refine V_iconst hC dX12_become_233 ?_
  refine V_aload_n hC 0 rfl dX12_become_234 ?_
  refine V_gi hC fr_X12_95 (hp_i7 ho) dX12_become_235 (fun z => ?_)
  replace kk := kk z
  obtain ⟨hi, kk⟩ := kk
  refine V_cp hC cp_X12_101 (hp_a10 hc1) (hp_a10 ho) dX12_become_238 (R8_of hgr) (Nat.le_of_ble_eq_true rfl) hi ?_
  replace kk := kk _ rfl
  refine V_aload_n hC 1 rfl dX12_become_241 ?_
  refine V_gr hC fr_X12_53 (hp_r19 hc1) dX12_become_242 ?_
  refine V_iconst hC dX12_become_245 ?_
  refine V_aload_n hC 0 rfl dX12_become_246 ?_
  refine V_gr hC fr_X12_53 (hp_r19 ho) dX12_become_247 ?_
  refine V_iconst hC dX12_become_250 ?_
  refine V_aload_n hC 0 rfl dX12_become_251 ?_
  refine V_gi hC fr_X12_98 (hp_i8 ho) dX12_become_252 (fun z => ?_)
  replace kk := kk z
  obtain ⟨hi, kk⟩ := kk
  refine V_cp hC cp_X12_101 (hp_a11 hc1) (hp_a11 ho) dX12_become_255 (R8_of hgr) (Nat.le_of_ble_eq_true rfl) hi ?_
  replace kk := kk _ rfl
  refine V_aload_n hC 0 rfl dX12_become_258 ?_
  refine V_aload_n hC 0 rfl dX12_become_259 ?_
  refine V_gr hC fr_X12_56 (hp_r20 ho) dX12_become_260 ?_
  refine V_cVv hC (As := [_]) lv_X12_107 dX12_become_263 (d0 := 3) (Nat.le_of_ble_eq_true rfl) (Rm_of hgr) (hp_v ho) rfl (Nat.le_of_ble_eq_true rfl) zk kk (fun M9 kk => ?_)
  refine V_aload_n hC 0 rfl dX12_become_266 ?_
  exact V_aret hC hR rfl (Or.inl ⟨_, rfl⟩) zk dX12_become_267 ⟨_, rfl, kk⟩
theorem ok_X12_become {B : WB} {l : Launch} {k n : Nat} {X : va_W} {M : Mem} {Q : Nat → Mem → Prop} {E : String → Mem → Prop} {o : Nat} {c1 : Nat} (hl : l.stackTraces = false) (body : ∀ G : GT, Ct G md_X12_become X (oR B Q E) B l k n → L_X12_become_0 G X o c1 M) : OkR B l md_X12_become k n [.ref (ad B o), .ref (ad B c1)] X M Q E :=
  Ok_of mk_X12_become hl (Nat.le_of_ble_eq_true rfl) (fun G h => by have hb := body G h; obtain ⟨-, -, rfl, -, -⟩ := h; exact hb)
def L_X12_find_0 (G : GT) (X : va_W) (o : Nat) (x1 : Int) (M : Mem) : Prop := V G md_X12_find 0 0 X M 0 [(0, .ref (ad (gB G) o)), (1, .int (I x1))] []
def L_X12_find_9 (G : GT) (X : va_W) (o : Nat) (x1 : Int) (x2 : Int) (x3 : Int) (M : Mem) : Prop := V G md_X12_find 0 0 X M 9 [(0, .ref (ad (gB G) o)), (1, .int (I x1)), (2, .int (I x2)), (3, .int (I x3))] []
def T_X12_find_0 (G : GT) (X : va_W) (Q : Int → Mem → Prop) (E : String → Mem → Prop) (o : Nat) (x1 : Int) (M : Mem) : Prop := (inR (M o 0) → L_X12_find_9 G X o x1 (0 : Int) ((M o 0) - (1 : Int)) M)
set_option maxRecDepth 100000 in
set_option maxHeartbeats 4000000 in
theorem go_X12_find_0 {G : GT} {X : va_W} {Q : Int → Mem → Prop} {E : String → Mem → Prop} {B : WB} {l : Launch} {k n : Nat} {o : Nat} {x1 : Int} {M : Mem} (h : Ct G md_X12_find X (oI Q E) B l k n) (ho : isHp o) (kk : T_X12_find_0 G X Q E o x1 M) : L_X12_find_0 G X o x1 M := by
  obtain ⟨hC, hR, rfl, hgr, rfl⟩ := h
  unfold T_X12_find_0 at kk
  unfold L_X12_find_0
  refine V_iconst hC dX12_find_0 ?_
  refine V_istore_n hC (lv' := [(2, _), (0, _), (1, _)]) (Nat.le_of_ble_eq_true rfl) rfl dX12_find_1 ?_
  refine V_aload_n hC 1 rfl dX12_find_2 ?_
  refine V_gi hC fr_X12_80 (hp_i0 ho) dX12_find_3 (fun z => ?_)
  replace kk := kk z
  refine V_iconst hC dX12_find_6 ?_
  refine V_isub hC dX12_find_7 ?_
  refine V_istore_n hC (lv' := [(3, _), (2, _), (0, _), (1, _)]) (Nat.le_of_ble_eq_true rfl) rfl dX12_find_8 ?_
  exact V_sub [2, 3, 1, 0] rfl kk
def T_X12_find_9 (G : GT) (X : va_W) (Q : Int → Mem → Prop) (E : String → Mem → Prop) (o : Nat) (x1 : Int) (x2 : Int) (x3 : Int) (M : Mem) : Prop := (inR x2 ∧ inR x3 ∧ (x3 < x2 → (inR (-1 : Int) ∧ Q (-1 : Int) M)) ∧ (x2 ≤ x3 → ((0 ≤ (x2 + x3) ∧ (x2 + x3) < 2147483648 ∧ 0 < (2 : Int) ∧ (2 : Int) < 2147483648) ∧ ((0 ≤ ((x2 + x3) / (2 : Int)) ∧ ((x2 + x3) / (2 : Int)) < 256) ∧ (inR (M (o + 1) ((x2 + x3) / (2 : Int)).toNat) → (inR (M (o + 1) ((x2 + x3) / (2 : Int)).toNat) ∧ inR x1 ∧ ((M (o + 1) ((x2 + x3) / (2 : Int)).toNat) ≠ x1 → ((0 ≤ ((x2 + x3) / (2 : Int)) ∧ ((x2 + x3) / (2 : Int)) < 256) ∧ (inR (M (o + 1) ((x2 + x3) / (2 : Int)).toNat) → (inR (M (o + 1) ((x2 + x3) / (2 : Int)).toNat) ∧ inR x1 ∧ (x1 ≤ (M (o + 1) ((x2 + x3) / (2 : Int)).toNat) → L_X12_find_9 G X o x1 x2 (((x2 + x3) / (2 : Int)) - (1 : Int)) M) ∧ ((M (o + 1) ((x2 + x3) / (2 : Int)).toNat) < x1 → L_X12_find_9 G X o x1 (((x2 + x3) / (2 : Int)) + (1 : Int)) x3 M))))) ∧ ((M (o + 1) ((x2 + x3) / (2 : Int)).toNat) = x1 → (inR ((x2 + x3) / (2 : Int)) ∧ Q ((x2 + x3) / (2 : Int)) M))))))))
set_option maxRecDepth 100000 in
set_option maxHeartbeats 4000000 in
theorem go_X12_find_9 {G : GT} {X : va_W} {Q : Int → Mem → Prop} {E : String → Mem → Prop} {B : WB} {l : Launch} {k n : Nat} {o : Nat} {x1 : Int} {x2 : Int} {x3 : Int} {M : Mem} (h : Ct G md_X12_find X (oI Q E) B l k n) (ho : isHp o) (kk : T_X12_find_9 G X Q E o x1 x2 x3 M) : L_X12_find_9 G X o x1 x2 x3 M := by
  obtain ⟨hC, hR, rfl, hgr, rfl⟩ := h
  unfold T_X12_find_9 at kk
  unfold L_X12_find_9
  refine V_iload_n hC 2 rfl dX12_find_9 ?_
  refine V_iload_n hC 3 rfl dX12_find_10 ?_
  obtain ⟨ha, hb, k1, k2⟩ := kk
  refine V_icmp_gt hC 62 rfl dX12_find_11 ⟨ha, hb, fun z => ?_, fun z => ?_⟩
  · replace kk := k1 z; clear k1 k2
    refine V_iconst hC dX12_find_62 ?_
    obtain ⟨hr, kk⟩ := kk
    exact V_iret hC hR (ty := .int) rfl rfl zk dX12_find_63 ⟨_, rfl, hr, kk⟩
  · replace kk := k2 z; clear k1 k2
    refine V_iload_n hC 2 rfl dX12_find_14 ?_
    refine V_iload_n hC 3 rfl dX12_find_15 ?_
    refine V_iadd hC dX12_find_16 ?_
    refine V_iconst hC dX12_find_17 ?_
    obtain ⟨hi, kk⟩ := kk
    refine V_idiv hC hi.1 hi.2.1 hi.2.2.1 hi.2.2.2 dX12_find_18 ?_
    refine V_istore hC (lv' := [(4, _), (0, _), (1, _), (2, _), (3, _)]) (Nat.le_of_ble_eq_true rfl) rfl dX12_find_19 ?_
    refine V_aload_n hC 1 rfl dX12_find_21 ?_
    refine V_gr hC fr_X12_22 (hp_r9 ho) dX12_find_22 ?_
    refine V_iload hC 0 rfl dX12_find_25 ?_
    obtain ⟨hi, kk⟩ := kk
    refine V_il hC (hp_a1 ho) dX12_find_27 hi (fun z => ?_)
    replace kk := kk z
    refine V_iload_n hC 2 rfl dX12_find_28 ?_
    obtain ⟨ha, hb, k1, k2⟩ := kk
    refine V_icmp_ne hC 35 rfl dX12_find_29 ⟨ha, hb, fun z => ?_, fun z => ?_⟩
    · replace kk := k1 z; clear k1 k2
      refine V_aload_n hC 1 rfl dX12_find_35 ?_
      refine V_gr hC fr_X12_22 (hp_r9 ho) dX12_find_36 ?_
      refine V_iload hC 0 rfl dX12_find_39 ?_
      obtain ⟨hi, kk⟩ := kk
      refine V_il hC (hp_a1 ho) dX12_find_41 hi (fun z => ?_)
      replace kk := kk z
      refine V_iload_n hC 2 rfl dX12_find_42 ?_
      obtain ⟨ha, hb, k1, k2⟩ := kk
      refine V_icmp_ge hC 54 rfl dX12_find_43 ⟨ha, hb, fun z => ?_, fun z => ?_⟩
      · replace kk := k1 z; clear k1 k2
        refine V_iload hC 0 rfl dX12_find_54 ?_
        refine V_iconst hC dX12_find_56 ?_
        refine V_isub hC dX12_find_57 ?_
        refine V_istore_n hC (lv' := [(3, _), (4, _), (0, _), (1, _), (2, _)]) (Nat.le_of_ble_eq_true rfl) rfl dX12_find_58 ?_
        refine V_goto hC 9 rfl dX12_find_59 ?_
        exact V_sub [2, 3, 4, 0] rfl kk
      · replace kk := k2 z; clear k1 k2
        refine V_iload hC 0 rfl dX12_find_46 ?_
        refine V_iconst hC dX12_find_48 ?_
        refine V_iadd hC dX12_find_49 ?_
        refine V_istore_n hC (lv' := [(2, _), (4, _), (0, _), (1, _), (3, _)]) (Nat.le_of_ble_eq_true rfl) rfl dX12_find_50 ?_
        refine V_goto hC 59 rfl dX12_find_51 ?_
        refine V_goto hC 9 rfl dX12_find_59 ?_
        exact V_sub [2, 3, 0, 4] rfl kk
    · replace kk := k2 z; clear k1 k2
      refine V_iload hC 0 rfl dX12_find_32 ?_
      obtain ⟨hr, kk⟩ := kk
      exact V_iret hC hR (ty := .int) rfl rfl zk dX12_find_34 ⟨_, rfl, hr, kk⟩
theorem ok_X12_find {B : WB} {l : Launch} {k n : Nat} {X : va_W} {M : Mem} {Q : Int → Mem → Prop} {E : String → Mem → Prop} {o : Nat} {x1 : Int} (hl : l.stackTraces = false) (body : ∀ G : GT, Ct G md_X12_find X (oI Q E) B l k n → L_X12_find_0 G X o x1 M) : OkI B l md_X12_find k n [.ref (ad B o), .int (I x1)] X M Q E :=
  Ok_of mk_X12_find hl (Nat.le_of_ble_eq_true rfl) (fun G h => by have hb := body G h; obtain ⟨-, -, rfl, -, -⟩ := h; exact hb)
def L_X12_is_0 (G : GT) (X : va_W) (o : Nat) (x1 : Int) (x2 : Int) (M : Mem) : Prop := V G md_X12_is 0 0 X M 0 [(0, .ref (ad (gB G) o)), (1, .int (I x1)), (2, .int (I x2))] []
def T_X12_is_0 (G : GT) (X : va_W) (Q : Int → Mem → Prop) (E : String → Mem → Prop) (o : Nat) (x1 : Int) (x2 : Int) (M : Mem) : Prop := ((0 ≤ x1 ∧ x1 < 256) ∧ (inR (M (o + 6) x1.toNat) → (inR (band (M (o + 6) x1.toNat) x2) → (inR (band (M (o + 6) x1.toNat) x2) ∧ ((band (M (o + 6) x1.toNat) x2) = 0 → (((0 : Int) = 0 ∨ (0 : Int) = 1) ∧ Q (0 : Int) M)) ∧ ((band (M (o + 6) x1.toNat) x2) ≠ 0 → (((1 : Int) = 0 ∨ (1 : Int) = 1) ∧ Q (1 : Int) M))))))
set_option maxRecDepth 100000 in
set_option maxHeartbeats 4000000 in
theorem go_X12_is_0 {G : GT} {X : va_W} {Q : Int → Mem → Prop} {E : String → Mem → Prop} {B : WB} {l : Launch} {k n : Nat} {o : Nat} {x1 : Int} {x2 : Int} {M : Mem} (h : Ct G md_X12_is X (oI Q E) B l k n) (ho : isHp o) (kk : T_X12_is_0 G X Q E o x1 x2 M) : L_X12_is_0 G X o x1 x2 M := by
  obtain ⟨hC, hR, rfl, hgr, rfl⟩ := h
  unfold T_X12_is_0 at kk
  unfold L_X12_is_0
  refine V_aload_n hC 0 rfl dX12_is_0 ?_
  refine V_gr hC fr_X12_38 (hp_r14 ho) dX12_is_1 ?_
  refine V_iload_n hC 1 rfl dX12_is_4 ?_
  obtain ⟨hi, kk⟩ := kk
  refine V_il hC (hp_a6 ho) dX12_is_5 hi (fun z => ?_)
  replace kk := kk z
  refine V_iload_n hC 2 rfl dX12_is_6 ?_
  refine V_and hC dX12_is_7 (fun z => ?_)
  replace kk := kk z
  obtain ⟨ha, k1, k2⟩ := kk
  refine V_if_eq hC 15 rfl dX12_is_8 ⟨ha, fun z => ?_, fun z => ?_⟩
  · replace kk := k1 z; clear k1 k2
    refine V_iconst hC dX12_is_15 ?_
    obtain ⟨hr, kk⟩ := kk
    exact V_iret hC hR (ty := .boolean) rfl (bitI hr).1 zk dX12_is_16 ⟨_, rfl, (bitI hr).2.2.1, kk⟩
  · replace kk := k2 z; clear k1 k2
    refine V_iconst hC dX12_is_11 ?_
    refine V_goto hC 16 rfl dX12_is_12 ?_
    obtain ⟨hr, kk⟩ := kk
    exact V_iret hC hR (ty := .boolean) rfl (bitI hr).1 zk dX12_is_16 ⟨_, rfl, (bitI hr).2.2.1, kk⟩
theorem ok_X12_is {B : WB} {l : Launch} {k n : Nat} {X : va_W} {M : Mem} {Q : Int → Mem → Prop} {E : String → Mem → Prop} {o : Nat} {x1 : Int} {x2 : Int} (hl : l.stackTraces = false) (body : ∀ G : GT, Ct G md_X12_is X (oI Q E) B l k n → L_X12_is_0 G X o x1 x2 M) : OkI B l md_X12_is k n [.ref (ad B o), .int (I x1), .int (I x2)] X M Q E :=
  Ok_of mk_X12_is hl (Nat.le_of_ble_eq_true rfl) (fun G h => by have hb := body G h; obtain ⟨-, -, rfl, -, -⟩ := h; exact hb)
def L_X12_links_0 (G : GT) (X : va_W) (o : Nat) (x1 : Int) (M : Mem) : Prop := V G md_X12_links 0 0 X M 0 [(0, .ref (ad (gB G) o)), (1, .int (I x1))] []
def T_X12_links_0 (G : GT) (X : va_W) (Q : Int → Mem → Prop) (E : String → Mem → Prop) (o : Nat) (x1 : Int) (M : Mem) : Prop := ((0 ≤ x1 ∧ x1 < 256) ∧ (inR (M (o + 2) x1.toNat) → ((0 ≤ x1 ∧ x1 < 256) ∧ (inR (M (o + 3) x1.toNat) → OkI (gB G) (gl G) md_X13_linksOf 0 0 [.ref (ad (gB G) 72), .int (I (M (o + 2) x1.toNat)), .int (I (M (o + 3) x1.toNat))] X M (fun r16 M1 => inR r16 → (inR r16 ∧ Q r16 M1)) NoX))))
set_option maxRecDepth 100000 in
set_option maxHeartbeats 4000000 in
theorem go_X12_links_0 {G : GT} {X : va_W} {Q : Int → Mem → Prop} {E : String → Mem → Prop} {B : WB} {l : Launch} {k n : Nat} {o : Nat} {x1 : Int} {M : Mem} (h : Ct G md_X12_links X (oI Q E) B l k n) (ho : isHp o) (kk : T_X12_links_0 G X Q E o x1 M) : L_X12_links_0 G X o x1 M := by
  obtain ⟨hC, hR, rfl, hgr, rfl⟩ := h
  unfold T_X12_links_0 at kk
  unfold L_X12_links_0
  refine V_aload_n hC 0 rfl dX12_links_0 ?_
  refine V_gr hC fr_X12_3 (hp_r27 ho) dX12_links_1 ?_
  refine V_aload_n hC 0 rfl dX12_links_4 ?_
  refine V_gr hC fr_X12_26 (hp_r10 ho) dX12_links_5 ?_
  refine V_iload_n hC 1 rfl dX12_links_8 ?_
  obtain ⟨hi, kk⟩ := kk
  refine V_il hC (hp_a2 ho) dX12_links_9 hi (fun z => ?_)
  replace kk := kk z
  refine V_aload_n hC 0 rfl dX12_links_10 ?_
  refine V_gr hC fr_X12_29 (hp_r11 ho) dX12_links_11 ?_
  refine V_iload_n hC 1 rfl dX12_links_14 ?_
  obtain ⟨hi, kk⟩ := kk
  refine V_il hC (hp_a3 ho) dX12_links_15 hi (fun z => ?_)
  replace kk := kk z
  refine V_cVi hC (As := [_, _]) lv_X12_111 dX12_links_16 (d0 := 1) (Nat.le_of_ble_eq_true rfl) (Rm_of hgr) rv_72 rfl (Nat.le_of_ble_eq_true rfl) zk kk (fun r9 M9 z kk => ?_)
  replace kk := kk z
  obtain ⟨hr, kk⟩ := kk
  exact V_iret hC hR (ty := .int) rfl rfl zk dX12_links_19 ⟨_, rfl, hr, kk⟩
theorem ok_X12_links {B : WB} {l : Launch} {k n : Nat} {X : va_W} {M : Mem} {Q : Int → Mem → Prop} {E : String → Mem → Prop} {o : Nat} {x1 : Int} (hl : l.stackTraces = false) (body : ∀ G : GT, Ct G md_X12_links X (oI Q E) B l k n → L_X12_links_0 G X o x1 M) : OkI B l md_X12_links k n [.ref (ad B o), .int (I x1)] X M Q E :=
  Ok_of mk_X12_links hl (Nat.le_of_ble_eq_true rfl) (fun G h => by have hb := body G h; obtain ⟨-, -, rfl, -, -⟩ := h; exact hb)
def L_X12_wordsOf_0 (G : GT) (X : va_W) (o : Nat) (x1 : Int) (M : Mem) : Prop := V G md_X12_wordsOf 0 0 X M 0 [(0, .ref (ad (gB G) o)), (1, .int (I x1))] []
def T_X12_wordsOf_0 (G : GT) (X : va_W) (Q : Int → Mem → Prop) (E : String → Mem → Prop) (o : Nat) (x1 : Int) (M : Mem) : Prop := ((0 ≤ x1 ∧ x1 < 256) ∧ (inR (M (o + 2) x1.toNat) → ((0 ≤ x1 ∧ x1 < 256) ∧ (inR (M (o + 3) x1.toNat) → OkI (gB G) (gl G) md_X13_words 0 0 [.ref (ad (gB G) 72), .int (I (M (o + 2) x1.toNat)), .int (I (M (o + 3) x1.toNat))] X M (fun r16 M1 => inR r16 → (inR r16 ∧ Q r16 M1)) NoX))))
set_option maxRecDepth 100000 in
set_option maxHeartbeats 4000000 in
theorem go_X12_wordsOf_0 {G : GT} {X : va_W} {Q : Int → Mem → Prop} {E : String → Mem → Prop} {B : WB} {l : Launch} {k n : Nat} {o : Nat} {x1 : Int} {M : Mem} (h : Ct G md_X12_wordsOf X (oI Q E) B l k n) (ho : isHp o) (kk : T_X12_wordsOf_0 G X Q E o x1 M) : L_X12_wordsOf_0 G X o x1 M := by
  obtain ⟨hC, hR, rfl, hgr, rfl⟩ := h
  unfold T_X12_wordsOf_0 at kk
  unfold L_X12_wordsOf_0
  refine V_aload_n hC 0 rfl dX12_wordsOf_0 ?_
  refine V_gr hC fr_X12_3 (hp_r27 ho) dX12_wordsOf_1 ?_
  refine V_aload_n hC 0 rfl dX12_wordsOf_4 ?_
  refine V_gr hC fr_X12_26 (hp_r10 ho) dX12_wordsOf_5 ?_
  refine V_iload_n hC 1 rfl dX12_wordsOf_8 ?_
  obtain ⟨hi, kk⟩ := kk
  refine V_il hC (hp_a2 ho) dX12_wordsOf_9 hi (fun z => ?_)
  replace kk := kk z
  refine V_aload_n hC 0 rfl dX12_wordsOf_10 ?_
  refine V_gr hC fr_X12_29 (hp_r11 ho) dX12_wordsOf_11 ?_
  refine V_iload_n hC 1 rfl dX12_wordsOf_14 ?_
  obtain ⟨hi, kk⟩ := kk
  refine V_il hC (hp_a3 ho) dX12_wordsOf_15 hi (fun z => ?_)
  replace kk := kk z
  refine V_cVi hC (As := [_, _]) lv_X12_115 dX12_wordsOf_16 (d0 := 2) (Nat.le_of_ble_eq_true rfl) (Rm_of hgr) rv_72 rfl (Nat.le_of_ble_eq_true rfl) zk kk (fun r9 M9 z kk => ?_)
  replace kk := kk z
  obtain ⟨hr, kk⟩ := kk
  exact V_iret hC hR (ty := .int) rfl rfl zk dX12_wordsOf_19 ⟨_, rfl, hr, kk⟩
theorem ok_X12_wordsOf {B : WB} {l : Launch} {k n : Nat} {X : va_W} {M : Mem} {Q : Int → Mem → Prop} {E : String → Mem → Prop} {o : Nat} {x1 : Int} (hl : l.stackTraces = false) (body : ∀ G : GT, Ct G md_X12_wordsOf X (oI Q E) B l k n → L_X12_wordsOf_0 G X o x1 M) : OkI B l md_X12_wordsOf k n [.ref (ad B o), .int (I x1)] X M Q E :=
  Ok_of mk_X12_wordsOf hl (Nat.le_of_ble_eq_true rfl) (fun G h => by have hb := body G h; obtain ⟨-, -, rfl, -, -⟩ := h; exact hb)
def L_X12_allWords_0 (G : GT) (X : va_W) (o : Nat) (x1 : Int) (M : Mem) : Prop := V G md_X12_allWords 0 0 X M 0 [(0, .ref (ad (gB G) o)), (1, .int (I x1))] []
def L_X12_allWords_4 (G : GT) (X : va_W) (o : Nat) (x1 : Int) (x2 : Int) (x3 : Int) (M : Mem) : Prop := V G md_X12_allWords 0 0 X M 4 [(0, .ref (ad (gB G) o)), (1, .int (I x1)), (2, .int (I x2)), (3, .int (I x3))] []
def T_X12_allWords_0 (G : GT) (X : va_W) (Q : Int → Mem → Prop) (E : String → Mem → Prop) (o : Nat) (x1 : Int) (M : Mem) : Prop := L_X12_allWords_4 G X o x1 (0 : Int) (0 : Int) M
set_option maxRecDepth 100000 in
set_option maxHeartbeats 4000000 in
theorem go_X12_allWords_0 {G : GT} {X : va_W} {Q : Int → Mem → Prop} {E : String → Mem → Prop} {B : WB} {l : Launch} {k n : Nat} {o : Nat} {x1 : Int} {M : Mem} (h : Ct G md_X12_allWords X (oI Q E) B l k n) (ho : isHp o) (kk : T_X12_allWords_0 G X Q E o x1 M) : L_X12_allWords_0 G X o x1 M := by
  obtain ⟨hC, hR, rfl, hgr, rfl⟩ := h
  unfold T_X12_allWords_0 at kk
  unfold L_X12_allWords_0
  refine V_iconst hC dX12_allWords_0 ?_
  refine V_istore_n hC (lv' := [(2, _), (0, _), (1, _)]) (Nat.le_of_ble_eq_true rfl) rfl dX12_allWords_1 ?_
  refine V_iconst hC dX12_allWords_2 ?_
  refine V_istore_n hC (lv' := [(3, _), (2, _), (0, _), (1, _)]) (Nat.le_of_ble_eq_true rfl) rfl dX12_allWords_3 ?_
  exact V_sub [2, 3, 1, 0] rfl kk
def T_X12_allWords_4 (G : GT) (X : va_W) (Q : Int → Mem → Prop) (E : String → Mem → Prop) (o : Nat) (x1 : Int) (x2 : Int) (x3 : Int) (M : Mem) : Prop := (inR (M o 0) → (inR x3 ∧ inR (M o 0) ∧ ((M o 0) ≤ x3 → (inR x2 ∧ Q x2 M)) ∧ (x3 < (M o 0) → OkI (gB G) (gl G) md_X12_is 0 0 [.ref (ad (gB G) o), .int (I x3), .int (I (1 : Int))] X M (fun r16 M1 => inR r16 → (inR r16 ∧ inR x1 ∧ (r16 ≠ x1 → L_X12_allWords_4 G X o x1 (x2 + (0 : Int)) (x3 + 1) M1) ∧ (r16 = x1 → OkI (gB G) (gl G) md_X12_wordsOf 0 0 [.ref (ad (gB G) o), .int (I x3)] X M1 (fun r25 M2 => inR r25 → L_X12_allWords_4 G X o x1 (x2 + r25) (x3 + 1) M2) NoX))) NoX)))
set_option maxRecDepth 100000 in
set_option maxHeartbeats 4000000 in
theorem go_X12_allWords_4 {G : GT} {X : va_W} {Q : Int → Mem → Prop} {E : String → Mem → Prop} {B : WB} {l : Launch} {k n : Nat} {o : Nat} {x1 : Int} {x2 : Int} {x3 : Int} {M : Mem} (h : Ct G md_X12_allWords X (oI Q E) B l k n) (ho : isHp o) (kk : T_X12_allWords_4 G X Q E o x1 x2 x3 M) : L_X12_allWords_4 G X o x1 x2 x3 M := by
  obtain ⟨hC, hR, rfl, hgr, rfl⟩ := h
  unfold T_X12_allWords_4 at kk
  unfold L_X12_allWords_4
  refine V_iload_n hC 3 rfl dX12_allWords_4 ?_
  refine V_aload_n hC 0 rfl dX12_allWords_5 ?_
  refine V_gi hC fr_X12_80 (hp_i0 ho) dX12_allWords_6 (fun z => ?_)
  replace kk := kk z
  obtain ⟨ha, hb, k1, k2⟩ := kk
  refine V_icmp_ge hC 40 rfl dX12_allWords_9 ⟨ha, hb, fun z => ?_, fun z => ?_⟩
  · replace kk := k1 z; clear k1 k2
    refine V_iload_n hC 2 rfl dX12_allWords_40 ?_
    obtain ⟨hr, kk⟩ := kk
    exact V_iret hC hR (ty := .int) rfl rfl zk dX12_allWords_41 ⟨_, rfl, hr, kk⟩
  · replace kk := k2 z; clear k1 k2
    refine V_iload_n hC 2 rfl dX12_allWords_12 ?_
    refine V_aload_n hC 0 rfl dX12_allWords_13 ?_
    refine V_iload_n hC 3 rfl dX12_allWords_14 ?_
    refine V_iconst hC dX12_allWords_15 ?_
    refine V_cVi hC (As := [_, _]) lv_X12_118 dX12_allWords_16 (d0 := 3) (Nat.le_of_ble_eq_true rfl) (Rm_of hgr) (hp_v ho) rfl (Nat.le_of_ble_eq_true rfl) zk kk (fun r9 M9 z kk => ?_)
    replace kk := kk z
    refine V_iload_n hC 1 rfl dX12_allWords_19 ?_
    obtain ⟨ha, hb, k1, k2⟩ := kk
    refine V_icmp_ne hC 31 rfl dX12_allWords_20 ⟨ha, hb, fun z => ?_, fun z => ?_⟩
    · replace kk := k1 z; clear k1 k2
      refine V_iconst hC dX12_allWords_31 ?_
      refine V_iadd hC dX12_allWords_32 ?_
      refine V_istore_n hC (lv' := [(2, _), (0, _), (1, _), (3, _)]) (Nat.le_of_ble_eq_true rfl) rfl dX12_allWords_33 ?_
      refine V_iinc hC (lv' := [(3, _), (2, _), (0, _), (1, _)]) 3 rfl (Nat.le_of_ble_eq_true rfl) rfl dX12_allWords_34 ?_
      refine V_goto hC 4 rfl dX12_allWords_37 ?_
      exact V_sub [2, 3, 1, 0] rfl kk
    · replace kk := k2 z; clear k1 k2
      refine V_aload_n hC 0 rfl dX12_allWords_23 ?_
      refine V_iload_n hC 3 rfl dX12_allWords_24 ?_
      refine V_cVi hC (As := [_]) lv_X12_122 dX12_allWords_25 (d0 := 3) (Nat.le_of_ble_eq_true rfl) (Rm_of hgr) (hp_v ho) rfl (Nat.le_of_ble_eq_true rfl) zk kk (fun r9 M9 z kk => ?_)
      replace kk := kk z
      refine V_goto hC 32 rfl dX12_allWords_28 ?_
      refine V_iadd hC dX12_allWords_32 ?_
      refine V_istore_n hC (lv' := [(2, _), (0, _), (1, _), (3, _)]) (Nat.le_of_ble_eq_true rfl) rfl dX12_allWords_33 ?_
      refine V_iinc hC (lv' := [(3, _), (2, _), (0, _), (1, _)]) 3 rfl (Nat.le_of_ble_eq_true rfl) rfl dX12_allWords_34 ?_
      refine V_goto hC 4 rfl dX12_allWords_37 ?_
      exact V_sub [2, 3, 1, 0] rfl kk
theorem ok_X12_allWords {B : WB} {l : Launch} {k n : Nat} {X : va_W} {M : Mem} {Q : Int → Mem → Prop} {E : String → Mem → Prop} {o : Nat} {x1 : Int} (hl : l.stackTraces = false) (body : ∀ G : GT, Ct G md_X12_allWords X (oI Q E) B l k n → L_X12_allWords_0 G X o x1 M) : OkI B l md_X12_allWords k n [.ref (ad B o), .int (I x1)] X M Q E :=
  Ok_of mk_X12_allWords hl (Nat.le_of_ble_eq_true rfl) (fun G h => by have hb := body G h; obtain ⟨-, -, rfl, -, -⟩ := h; exact hb)
def L_X12_many_0 (G : GT) (X : va_W) (o : Nat) (x1 : Int) (M : Mem) : Prop := V G md_X12_many 0 0 X M 0 [(0, .ref (ad (gB G) o)), (1, .int (I x1))] []
def L_X12_many_4 (G : GT) (X : va_W) (o : Nat) (x1 : Int) (x2 : Int) (x3 : Int) (M : Mem) : Prop := V G md_X12_many 0 0 X M 4 [(0, .ref (ad (gB G) o)), (1, .int (I x1)), (2, .int (I x2)), (3, .int (I x3))] []
def T_X12_many_0 (G : GT) (X : va_W) (Q : Int → Mem → Prop) (E : String → Mem → Prop) (o : Nat) (x1 : Int) (M : Mem) : Prop := L_X12_many_4 G X o x1 (0 : Int) (0 : Int) M
set_option maxRecDepth 100000 in
set_option maxHeartbeats 4000000 in
theorem go_X12_many_0 {G : GT} {X : va_W} {Q : Int → Mem → Prop} {E : String → Mem → Prop} {B : WB} {l : Launch} {k n : Nat} {o : Nat} {x1 : Int} {M : Mem} (h : Ct G md_X12_many X (oI Q E) B l k n) (ho : isHp o) (kk : T_X12_many_0 G X Q E o x1 M) : L_X12_many_0 G X o x1 M := by
  obtain ⟨hC, hR, rfl, hgr, rfl⟩ := h
  unfold T_X12_many_0 at kk
  unfold L_X12_many_0
  refine V_iconst hC dX12_many_0 ?_
  refine V_istore_n hC (lv' := [(2, _), (0, _), (1, _)]) (Nat.le_of_ble_eq_true rfl) rfl dX12_many_1 ?_
  refine V_iconst hC dX12_many_2 ?_
  refine V_istore_n hC (lv' := [(3, _), (2, _), (0, _), (1, _)]) (Nat.le_of_ble_eq_true rfl) rfl dX12_many_3 ?_
  exact V_sub [2, 3, 1, 0] rfl kk
def T_X12_many_4 (G : GT) (X : va_W) (Q : Int → Mem → Prop) (E : String → Mem → Prop) (o : Nat) (x1 : Int) (x2 : Int) (x3 : Int) (M : Mem) : Prop := (inR (M o 0) → (inR x3 ∧ inR (M o 0) ∧ ((M o 0) ≤ x3 → (inR x2 ∧ Q x2 M)) ∧ (x3 < (M o 0) → OkI (gB G) (gl G) md_X12_is 0 0 [.ref (ad (gB G) o), .int (I x3), .int (I x1)] X M (fun r16 M1 => inR r16 → (inR r16 ∧ (r16 = 0 → L_X12_many_4 G X o x1 (x2 + (0 : Int)) (x3 + 1) M1) ∧ (r16 ≠ 0 → L_X12_many_4 G X o x1 (x2 + (1 : Int)) (x3 + 1) M1))) NoX)))
set_option maxRecDepth 100000 in
set_option maxHeartbeats 4000000 in
theorem go_X12_many_4 {G : GT} {X : va_W} {Q : Int → Mem → Prop} {E : String → Mem → Prop} {B : WB} {l : Launch} {k n : Nat} {o : Nat} {x1 : Int} {x2 : Int} {x3 : Int} {M : Mem} (h : Ct G md_X12_many X (oI Q E) B l k n) (ho : isHp o) (kk : T_X12_many_4 G X Q E o x1 x2 x3 M) : L_X12_many_4 G X o x1 x2 x3 M := by
  obtain ⟨hC, hR, rfl, hgr, rfl⟩ := h
  unfold T_X12_many_4 at kk
  unfold L_X12_many_4
  refine V_iload_n hC 3 rfl dX12_many_4 ?_
  refine V_aload_n hC 0 rfl dX12_many_5 ?_
  refine V_gi hC fr_X12_80 (hp_i0 ho) dX12_many_6 (fun z => ?_)
  replace kk := kk z
  obtain ⟨ha, hb, k1, k2⟩ := kk
  refine V_icmp_ge hC 35 rfl dX12_many_9 ⟨ha, hb, fun z => ?_, fun z => ?_⟩
  · replace kk := k1 z; clear k1 k2
    refine V_iload_n hC 2 rfl dX12_many_35 ?_
    obtain ⟨hr, kk⟩ := kk
    exact V_iret hC hR (ty := .int) rfl rfl zk dX12_many_36 ⟨_, rfl, hr, kk⟩
  · replace kk := k2 z; clear k1 k2
    refine V_iload_n hC 2 rfl dX12_many_12 ?_
    refine V_aload_n hC 0 rfl dX12_many_13 ?_
    refine V_iload_n hC 3 rfl dX12_many_14 ?_
    refine V_iload_n hC 1 rfl dX12_many_15 ?_
    refine V_cVi hC (As := [_, _]) lv_X12_118 dX12_many_16 (d0 := 1) (Nat.le_of_ble_eq_true rfl) (Rm_of hgr) (hp_v ho) rfl (Nat.le_of_ble_eq_true rfl) zk kk (fun r9 M9 z kk => ?_)
    replace kk := kk z
    obtain ⟨ha, k1, k2⟩ := kk
    refine V_if_eq hC 26 rfl dX12_many_19 ⟨ha, fun z => ?_, fun z => ?_⟩
    · replace kk := k1 z; clear k1 k2
      refine V_iconst hC dX12_many_26 ?_
      refine V_iadd hC dX12_many_27 ?_
      refine V_istore_n hC (lv' := [(2, _), (0, _), (1, _), (3, _)]) (Nat.le_of_ble_eq_true rfl) rfl dX12_many_28 ?_
      refine V_iinc hC (lv' := [(3, _), (2, _), (0, _), (1, _)]) 3 rfl (Nat.le_of_ble_eq_true rfl) rfl dX12_many_29 ?_
      refine V_goto hC 4 rfl dX12_many_32 ?_
      exact V_sub [2, 3, 1, 0] rfl kk
    · replace kk := k2 z; clear k1 k2
      refine V_iconst hC dX12_many_22 ?_
      refine V_goto hC 27 rfl dX12_many_23 ?_
      refine V_iadd hC dX12_many_27 ?_
      refine V_istore_n hC (lv' := [(2, _), (0, _), (1, _), (3, _)]) (Nat.le_of_ble_eq_true rfl) rfl dX12_many_28 ?_
      refine V_iinc hC (lv' := [(3, _), (2, _), (0, _), (1, _)]) 3 rfl (Nat.le_of_ble_eq_true rfl) rfl dX12_many_29 ?_
      refine V_goto hC 4 rfl dX12_many_32 ?_
      exact V_sub [2, 3, 1, 0] rfl kk
theorem ok_X12_many {B : WB} {l : Launch} {k n : Nat} {X : va_W} {M : Mem} {Q : Int → Mem → Prop} {E : String → Mem → Prop} {o : Nat} {x1 : Int} (hl : l.stackTraces = false) (body : ∀ G : GT, Ct G md_X12_many X (oI Q E) B l k n → L_X12_many_0 G X o x1 M) : OkI B l md_X12_many k n [.ref (ad B o), .int (I x1)] X M Q E :=
  Ok_of mk_X12_many hl (Nat.le_of_ble_eq_true rfl) (fun G h => by have hb := body G h; obtain ⟨-, -, rfl, -, -⟩ := h; exact hb)
def L_X12_make_0 (G : GT) (X : va_W) (o : Nat) (x1 : Int) (x2 : Int) (x3 : Int) (M : Mem) : Prop := V G md_X12_make 0 0 X M 0 [(0, .ref (ad (gB G) o)), (1, .int (I x1)), (2, .int (I x2)), (3, .int (I x3))] []
def L_X12_make_38 (G : GT) (X : va_W) (o : Nat) (x1 : Int) (x2 : Int) (x3 : Int) (x4 : Int) (s0 : Int) (M : Mem) : Prop := V G md_X12_make 0 0 X M 38 [(0, .ref (ad (gB G) o)), (1, .int (I x1)), (2, .int (I x2)), (3, .int (I x3)), (4, .int (I x4))] [.int (I s0)]
def L_X12_make_132 (G : GT) (X : va_W) (o : Nat) (x4 : Int) (x5 : Int) (x6 : Int) (M : Mem) : Prop := V G md_X12_make 0 0 X M 132 [(0, .ref (ad (gB G) o)), (4, .int (I x4)), (5, .int (I x5)), (6, .int (I x6))] []
def T_X12_make_0 (G : GT) (X : va_W) (Q : Int → Mem → Prop) (E : String → Mem → Prop) (o : Nat) (x1 : Int) (x2 : Int) (x3 : Int) (M : Mem) : Prop := OkI (gB G) (gl G) md_X13_size 0 0 [.ref (ad (gB G) 72), .int (I x1), .int (I x2)] X M (fun r6 M1 => inR r6 → (inR x1 ∧ inR (2 : Int) ∧ (x1 ≠ (2 : Int) → (inR x1 ∧ (x1 ≠ 0 → L_X12_make_38 G X o x1 x2 x3 r6 r6 M1) ∧ (x1 = 0 → ((0 ≤ x2 ∧ x2 < 12) ∧ (inR (M1 74 x2.toNat) → L_X12_make_38 G X o x1 x2 x3 r6 (M1 74 x2.toNat) M1))))) ∧ (x1 = (2 : Int) → L_X12_make_38 G X o x1 x2 x3 r6 (0 : Int) M1))) NoX
set_option maxRecDepth 100000 in
set_option maxHeartbeats 4000000 in
theorem go_X12_make_0 {G : GT} {X : va_W} {Q : Int → Mem → Prop} {E : String → Mem → Prop} {B : WB} {l : Launch} {k n : Nat} {o : Nat} {x1 : Int} {x2 : Int} {x3 : Int} {M : Mem} (h : Ct G md_X12_make X (oI Q E) B l k n) (ho : isHp o) (kk : T_X12_make_0 G X Q E o x1 x2 x3 M) : L_X12_make_0 G X o x1 x2 x3 M := by
  obtain ⟨hC, hR, rfl, hgr, rfl⟩ := h
  unfold T_X12_make_0 at kk
  unfold L_X12_make_0
  refine V_aload_n hC 0 rfl dX12_make_0 ?_
  refine V_gr hC fr_X12_3 (hp_r27 ho) dX12_make_1 ?_
  refine V_iload_n hC 1 rfl dX12_make_4 ?_
  refine V_iload_n hC 2 rfl dX12_make_5 ?_
  refine V_cVi hC (As := [_, _]) lv_X12_126 dX12_make_6 (d0 := 1) (Nat.le_of_ble_eq_true rfl) (Rm_of hgr) rv_72 rfl (Nat.le_of_ble_eq_true rfl) zk kk (fun r9 M9 z kk => ?_)
  replace kk := kk z
  refine V_istore hC (lv' := [(4, _), (0, _), (1, _), (2, _), (3, _)]) (Nat.le_of_ble_eq_true rfl) rfl dX12_make_9 ?_
  refine V_iload_n hC 2 rfl dX12_make_11 ?_
  refine V_iconst hC dX12_make_12 ?_
  obtain ⟨ha, hb, k1, k2⟩ := kk
  refine V_icmp_ne hC 20 rfl dX12_make_13 ⟨ha, hb, fun z => ?_, fun z => ?_⟩
  · replace kk := k1 z; clear k1 k2
    refine V_iload_n hC 2 rfl dX12_make_20 ?_
    obtain ⟨ha, k1, k2⟩ := kk
    refine V_if_ne hC 36 rfl dX12_make_21 ⟨ha, fun z => ?_, fun z => ?_⟩
    · replace kk := k1 z; clear k1 k2
      refine V_iload hC 0 rfl dX12_make_36 ?_
      exact V_sub [1, 2, 3, 4, 0] rfl kk
    · replace kk := k2 z; clear k1 k2
      refine V_aload_n hC 1 rfl dX12_make_24 ?_
      refine V_gr hC fr_X12_3 (hp_r27 ho) dX12_make_25 ?_
      refine V_gr hC fr_X12_129 qr_72_3 dX12_make_28 ?_
      refine V_iload_n hC 3 rfl dX12_make_31 ?_
      obtain ⟨hi, kk⟩ := kk
      refine V_il hC qa_74 dX12_make_32 hi (fun z => ?_)
      replace kk := kk z
      refine V_goto hC 38 rfl dX12_make_33 ?_
      exact V_sub [1, 2, 3, 4, 0] rfl kk
  · replace kk := k2 z; clear k1 k2
    refine V_iconst hC dX12_make_16 ?_
    refine V_goto hC 38 rfl dX12_make_17 ?_
    exact V_sub [1, 2, 3, 4, 0] rfl kk
def T_X12_make_38 (G : GT) (X : va_W) (Q : Int → Mem → Prop) (E : String → Mem → Prop) (o : Nat) (x1 : Int) (x2 : Int) (x3 : Int) (x4 : Int) (s0 : Int) (M : Mem) : Prop := (inR (M o 0) → (inR (M o 2) → ((0 ≤ (M o 0) ∧ (M o 0) < 256) ∧ inR (M o 2) ∧ ∀ M1 : Mem, M1 = up M (o + 1) (M o 0).toNat (M o 2) → (inR (M1 o 0) → ((0 ≤ (M1 o 0) ∧ (M1 o 0) < 256) ∧ inR x1 ∧ ∀ M2 : Mem, M2 = up M1 (o + 2) (M1 o 0).toNat x1 → (inR (M2 o 0) → ((0 ≤ (M2 o 0) ∧ (M2 o 0) < 256) ∧ inR x2 ∧ ∀ M3 : Mem, M3 = up M2 (o + 3) (M2 o 0).toNat x2 → (inR (M3 o 0) → (inR (M3 o 1) → ((0 ≤ (M3 o 0) ∧ (M3 o 0) < 256) ∧ inR (M3 o 1) ∧ ∀ M4 : Mem, M4 = up M3 (o + 4) (M3 o 0).toNat (M3 o 1) → (inR (M4 o 0) → ((0 ≤ (M4 o 0) ∧ (M4 o 0) < 256) ∧ inR (0 : Int) ∧ ∀ M5 : Mem, M5 = up M4 (o + 5) (M4 o 0).toNat (0 : Int) → (inR (M5 o 0) → (inR x1 ∧ (x1 ≠ 0 → (inR (bor x3 (0 : Int)) → ((0 ≤ (M5 o 0) ∧ (M5 o 0) < 256) ∧ inR (bor x3 (0 : Int)) ∧ ∀ M6 : Mem, M6 = up M5 (o + 6) (M5 o 0).toNat (bor x3 (0 : Int)) → L_X12_make_132 G X o x4 s0 (0 : Int) M6))) ∧ (x1 = 0 → ((0 ≤ x2 ∧ x2 < 12) ∧ (inR (M5 76 x2.toNat) → (inR (M5 76 x2.toNat) ∧ ((M5 76 x2.toNat) = 0 → (inR (bor x3 (0 : Int)) → ((0 ≤ (M5 o 0) ∧ (M5 o 0) < 256) ∧ inR (bor x3 (0 : Int)) ∧ ∀ M6 : Mem, M6 = up M5 (o + 6) (M5 o 0).toNat (bor x3 (0 : Int)) → L_X12_make_132 G X o x4 s0 (0 : Int) M6))) ∧ ((M5 76 x2.toNat) ≠ 0 → (inR (bor x3 (16 : Int)) → ((0 ≤ (M5 o 0) ∧ (M5 o 0) < 256) ∧ inR (bor x3 (16 : Int)) ∧ ∀ M6 : Mem, M6 = up M5 (o + 6) (M5 o 0).toNat (bor x3 (16 : Int)) → L_X12_make_132 G X o x4 s0 (0 : Int) M6)))))))))))))))))))))
set_option maxRecDepth 100000 in
set_option maxHeartbeats 4000000 in
theorem go_X12_make_38 {G : GT} {X : va_W} {Q : Int → Mem → Prop} {E : String → Mem → Prop} {B : WB} {l : Launch} {k n : Nat} {o : Nat} {x1 : Int} {x2 : Int} {x3 : Int} {x4 : Int} {s0 : Int} {M : Mem} (h : Ct G md_X12_make X (oI Q E) B l k n) (ho : isHp o) (kk : T_X12_make_38 G X Q E o x1 x2 x3 x4 s0 M) : L_X12_make_38 G X o x1 x2 x3 x4 s0 M := by
  obtain ⟨hC, hR, rfl, hgr, rfl⟩ := h
  unfold T_X12_make_38 at kk
  unfold L_X12_make_38
  refine V_istore hC (lv' := [(5, _), (0, _), (1, _), (2, _), (3, _), (4, _)]) (Nat.le_of_ble_eq_true rfl) rfl dX12_make_38 ?_
  refine V_aload_n hC 1 rfl dX12_make_40 ?_
  refine V_gr hC fr_X12_22 (hp_r9 ho) dX12_make_41 ?_
  refine V_aload_n hC 1 rfl dX12_make_44 ?_
  refine V_gi hC fr_X12_80 (hp_i0 ho) dX12_make_45 (fun z => ?_)
  replace kk := kk z
  refine V_aload_n hC 1 rfl dX12_make_48 ?_
  refine V_gi hC fr_X12_86 (hp_i2 ho) dX12_make_49 (fun z => ?_)
  replace kk := kk z
  obtain ⟨hi, hv, kk⟩ := kk
  refine V_is hC (hp_a1 ho) dX12_make_52 hi hv ?_
  replace kk := kk _ rfl
  refine V_aload_n hC 1 rfl dX12_make_53 ?_
  refine V_gr hC fr_X12_26 (hp_r10 ho) dX12_make_54 ?_
  refine V_aload_n hC 1 rfl dX12_make_57 ?_
  refine V_gi hC fr_X12_80 (hp_i0 ho) dX12_make_58 (fun z => ?_)
  replace kk := kk z
  refine V_iload_n hC 2 rfl dX12_make_61 ?_
  obtain ⟨hi, hv, kk⟩ := kk
  refine V_is hC (hp_a2 ho) dX12_make_62 hi hv ?_
  replace kk := kk _ rfl
  refine V_aload_n hC 1 rfl dX12_make_63 ?_
  refine V_gr hC fr_X12_29 (hp_r11 ho) dX12_make_64 ?_
  refine V_aload_n hC 1 rfl dX12_make_67 ?_
  refine V_gi hC fr_X12_80 (hp_i0 ho) dX12_make_68 (fun z => ?_)
  replace kk := kk z
  refine V_iload_n hC 3 rfl dX12_make_71 ?_
  obtain ⟨hi, hv, kk⟩ := kk
  refine V_is hC (hp_a3 ho) dX12_make_72 hi hv ?_
  replace kk := kk _ rfl
  refine V_aload_n hC 1 rfl dX12_make_73 ?_
  refine V_gr hC fr_X12_32 (hp_r12 ho) dX12_make_74 ?_
  refine V_aload_n hC 1 rfl dX12_make_77 ?_
  refine V_gi hC fr_X12_80 (hp_i0 ho) dX12_make_78 (fun z => ?_)
  replace kk := kk z
  refine V_aload_n hC 1 rfl dX12_make_81 ?_
  refine V_gi hC fr_X12_83 (hp_i1 ho) dX12_make_82 (fun z => ?_)
  replace kk := kk z
  obtain ⟨hi, hv, kk⟩ := kk
  refine V_is hC (hp_a4 ho) dX12_make_85 hi hv ?_
  replace kk := kk _ rfl
  refine V_aload_n hC 1 rfl dX12_make_86 ?_
  refine V_gr hC fr_X12_35 (hp_r13 ho) dX12_make_87 ?_
  refine V_aload_n hC 1 rfl dX12_make_90 ?_
  refine V_gi hC fr_X12_80 (hp_i0 ho) dX12_make_91 (fun z => ?_)
  replace kk := kk z
  refine V_iconst hC dX12_make_94 ?_
  obtain ⟨hi, hv, kk⟩ := kk
  refine V_is hC (hp_a5 ho) dX12_make_95 hi hv ?_
  replace kk := kk _ rfl
  refine V_aload_n hC 1 rfl dX12_make_96 ?_
  refine V_gr hC fr_X12_38 (hp_r14 ho) dX12_make_97 ?_
  refine V_aload_n hC 1 rfl dX12_make_100 ?_
  refine V_gi hC fr_X12_80 (hp_i0 ho) dX12_make_101 (fun z => ?_)
  replace kk := kk z
  refine V_iload_n hC 4 rfl dX12_make_104 ?_
  refine V_iload_n hC 2 rfl dX12_make_105 ?_
  obtain ⟨ha, k1, k2⟩ := kk
  refine V_if_ne hC 126 rfl dX12_make_106 ⟨ha, fun z => ?_, fun z => ?_⟩
  · replace kk := k1 z; clear k1 k2
    refine V_iconst hC dX12_make_126 ?_
    refine V_or hC dX12_make_127 (fun z => ?_)
    replace kk := kk z
    obtain ⟨hi, hv, kk⟩ := kk
    refine V_is hC (hp_a6 ho) dX12_make_128 hi hv ?_
    replace kk := kk _ rfl
    refine V_iconst hC dX12_make_129 ?_
    refine V_istore hC (lv' := [(6, _), (5, _), (0, _), (1, _), (2, _), (3, _), (4, _)]) (Nat.le_of_ble_eq_true rfl) rfl dX12_make_130 ?_
    exact V_sub [2, 6, 1, 0] rfl kk
  · replace kk := k2 z; clear k1 k2
    refine V_aload_n hC 1 rfl dX12_make_109 ?_
    refine V_gr hC fr_X12_3 (hp_r27 ho) dX12_make_110 ?_
    refine V_gr hC fr_X12_132 qr_72_5 dX12_make_113 ?_
    refine V_iload_n hC 3 rfl dX12_make_116 ?_
    obtain ⟨hi, kk⟩ := kk
    refine V_zl hC qa_76 dX12_make_117 hi (fun z => ?_)
    replace kk := kk z
    obtain ⟨ha, k1, k2⟩ := kk
    refine V_if_eq hC 126 rfl dX12_make_118 ⟨ha, fun z => ?_, fun z => ?_⟩
    · replace kk := k1 z; clear k1 k2
      refine V_iconst hC dX12_make_126 ?_
      refine V_or hC dX12_make_127 (fun z => ?_)
      replace kk := kk z
      obtain ⟨hi, hv, kk⟩ := kk
      refine V_is hC (hp_a6 ho) dX12_make_128 hi hv ?_
      replace kk := kk _ rfl
      refine V_iconst hC dX12_make_129 ?_
      refine V_istore hC (lv' := [(6, _), (5, _), (0, _), (1, _), (2, _), (3, _), (4, _)]) (Nat.le_of_ble_eq_true rfl) rfl dX12_make_130 ?_
      exact V_sub [2, 6, 1, 0] rfl kk
    · replace kk := k2 z; clear k1 k2
      refine V_bipush hC (d := dX12_make_121) rfl ?_
      refine V_goto hC 127 rfl dX12_make_123 ?_
      refine V_or hC dX12_make_127 (fun z => ?_)
      replace kk := kk z
      obtain ⟨hi, hv, kk⟩ := kk
      refine V_is hC (hp_a6 ho) dX12_make_128 hi hv ?_
      replace kk := kk _ rfl
      refine V_iconst hC dX12_make_129 ?_
      refine V_istore hC (lv' := [(6, _), (5, _), (0, _), (1, _), (2, _), (3, _), (4, _)]) (Nat.le_of_ble_eq_true rfl) rfl dX12_make_130 ?_
      exact V_sub [2, 6, 1, 0] rfl kk
def T_X12_make_132 (G : GT) (X : va_W) (Q : Int → Mem → Prop) (E : String → Mem → Prop) (o : Nat) (x4 : Int) (x5 : Int) (x6 : Int) (M : Mem) : Prop := (inR x6 ∧ inR x4 ∧ (x4 ≤ x6 → (inR (M o 1) → (inR ((M o 1) + x4) ∧ ∀ M1 : Mem, M1 = up M o 1 ((M o 1) + x4) → (inR (M1 o 0) → (inR ((M1 o 0) + (1 : Int)) ∧ ∀ M2 : Mem, M2 = up M1 o 0 ((M1 o 0) + (1 : Int)) → (inR (M2 o 2) → (inR ((M2 o 2) + (1 : Int)) ∧ ∀ M3 : Mem, M3 = up M2 o 2 ((M2 o 2) + (1 : Int)) → (inR (M3 o 2) → (inR ((M3 o 2) - (1 : Int)) ∧ Q ((M3 o 2) - (1 : Int)) M3))))))))) ∧ (x6 < x4 → (inR (M o 1) → (inR x6 ∧ inR x5 ∧ (x5 ≤ x6 → ((0 ≤ ((M o 1) + x6) ∧ ((M o 1) + x6) < 2048) ∧ inR (0 : Int) ∧ ∀ M1 : Mem, M1 = up M (o + 7) ((M o 1) + x6).toNat (0 : Int) → L_X12_make_132 G X o x4 x5 (x6 + 1) M1)) ∧ (x6 < x5 → ((0 ≤ ((M o 1) + x6) ∧ ((M o 1) + x6) < 2048) ∧ inR (-1 : Int) ∧ ∀ M1 : Mem, M1 = up M (o + 7) ((M o 1) + x6).toNat (-1 : Int) → L_X12_make_132 G X o x4 x5 (x6 + 1) M1))))))
set_option maxRecDepth 100000 in
set_option maxHeartbeats 4000000 in
theorem go_X12_make_132 {G : GT} {X : va_W} {Q : Int → Mem → Prop} {E : String → Mem → Prop} {B : WB} {l : Launch} {k n : Nat} {o : Nat} {x4 : Int} {x5 : Int} {x6 : Int} {M : Mem} (h : Ct G md_X12_make X (oI Q E) B l k n) (ho : isHp o) (kk : T_X12_make_132 G X Q E o x4 x5 x6 M) : L_X12_make_132 G X o x4 x5 x6 M := by
  obtain ⟨hC, hR, rfl, hgr, rfl⟩ := h
  unfold T_X12_make_132 at kk
  unfold L_X12_make_132
  refine V_iload hC 3 rfl dX12_make_132 ?_
  refine V_iload hC 1 rfl dX12_make_134 ?_
  obtain ⟨ha, hb, k1, k2⟩ := kk
  refine V_icmp_ge hC 169 rfl dX12_make_136 ⟨ha, hb, fun z => ?_, fun z => ?_⟩
  · replace kk := k1 z; clear k1 k2
    refine V_aload_n hC 0 rfl dX12_make_169 ?_
    refine V_dup hC rfl dX12_make_170 ?_
    refine V_gi hC fr_X12_83 (hp_i1 ho) dX12_make_171 (fun z => ?_)
    replace kk := kk z
    refine V_iload hC 1 rfl dX12_make_174 ?_
    refine V_iadd hC dX12_make_176 ?_
    obtain ⟨hv, kk⟩ := kk
    refine V_pi hC fk_X12_83 (hp_i1 ho) dX12_make_177 hv ?_
    replace kk := kk _ rfl
    refine V_aload_n hC 0 rfl dX12_make_180 ?_
    refine V_dup hC rfl dX12_make_181 ?_
    refine V_gi hC fr_X12_80 (hp_i0 ho) dX12_make_182 (fun z => ?_)
    replace kk := kk z
    refine V_iconst hC dX12_make_185 ?_
    refine V_iadd hC dX12_make_186 ?_
    obtain ⟨hv, kk⟩ := kk
    refine V_pi hC fk_X12_80 (hp_i0 ho) dX12_make_187 hv ?_
    replace kk := kk _ rfl
    refine V_aload_n hC 0 rfl dX12_make_190 ?_
    refine V_dup hC rfl dX12_make_191 ?_
    refine V_gi hC fr_X12_86 (hp_i2 ho) dX12_make_192 (fun z => ?_)
    replace kk := kk z
    refine V_iconst hC dX12_make_195 ?_
    refine V_iadd hC dX12_make_196 ?_
    obtain ⟨hv, kk⟩ := kk
    refine V_pi hC fk_X12_86 (hp_i2 ho) dX12_make_197 hv ?_
    replace kk := kk _ rfl
    refine V_aload_n hC 0 rfl dX12_make_200 ?_
    refine V_gi hC fr_X12_86 (hp_i2 ho) dX12_make_201 (fun z => ?_)
    replace kk := kk z
    refine V_iconst hC dX12_make_204 ?_
    refine V_isub hC dX12_make_205 ?_
    obtain ⟨hr, kk⟩ := kk
    exact V_iret hC hR (ty := .int) rfl rfl zk dX12_make_206 ⟨_, rfl, hr, kk⟩
  · replace kk := k2 z; clear k1 k2
    refine V_aload_n hC 0 rfl dX12_make_139 ?_
    refine V_gr hC fr_X12_41 (hp_r15 ho) dX12_make_140 ?_
    refine V_aload_n hC 0 rfl dX12_make_143 ?_
    refine V_gi hC fr_X12_83 (hp_i1 ho) dX12_make_144 (fun z => ?_)
    replace kk := kk z
    refine V_iload hC 3 rfl dX12_make_147 ?_
    refine V_iadd hC dX12_make_149 ?_
    refine V_iload hC 3 rfl dX12_make_150 ?_
    refine V_iload hC 2 rfl dX12_make_152 ?_
    obtain ⟨ha, hb, k1, k2⟩ := kk
    refine V_icmp_ge hC 161 rfl dX12_make_154 ⟨ha, hb, fun z => ?_, fun z => ?_⟩
    · replace kk := k1 z; clear k1 k2
      refine V_iconst hC dX12_make_161 ?_
      obtain ⟨hi, hv, kk⟩ := kk
      refine V_is hC (hp_a7 ho) dX12_make_162 hi hv ?_
      replace kk := kk _ rfl
      refine V_iinc hC (lv' := [(6, _), (0, _), (4, _), (5, _)]) 3 rfl (Nat.le_of_ble_eq_true rfl) rfl dX12_make_163 ?_
      refine V_goto hC 132 rfl dX12_make_166 ?_
      exact V_sub [1, 2, 3, 0] rfl kk
    · replace kk := k2 z; clear k1 k2
      refine V_iconst hC dX12_make_157 ?_
      refine V_goto hC 162 rfl dX12_make_158 ?_
      obtain ⟨hi, hv, kk⟩ := kk
      refine V_is hC (hp_a7 ho) dX12_make_162 hi hv ?_
      replace kk := kk _ rfl
      refine V_iinc hC (lv' := [(6, _), (0, _), (4, _), (5, _)]) 3 rfl (Nat.le_of_ble_eq_true rfl) rfl dX12_make_163 ?_
      refine V_goto hC 132 rfl dX12_make_166 ?_
      exact V_sub [1, 2, 3, 0] rfl kk
theorem ok_X12_make {B : WB} {l : Launch} {k n : Nat} {X : va_W} {M : Mem} {Q : Int → Mem → Prop} {E : String → Mem → Prop} {o : Nat} {x1 : Int} {x2 : Int} {x3 : Int} (hl : l.stackTraces = false) (body : ∀ G : GT, Ct G md_X12_make X (oI Q E) B l k n → L_X12_make_0 G X o x1 x2 x3 M) : OkI B l md_X12_make k n [.ref (ad B o), .int (I x1), .int (I x2), .int (I x3)] X M Q E :=
  Ok_of mk_X12_make hl (Nat.le_of_ble_eq_true rfl) (fun G h => by have hb := body G h; obtain ⟨-, -, rfl, -, -⟩ := h; exact hb)
def L_X12_entry_0 (G : GT) (X : va_W) (o : Nat) (x1 : Int) (x2 : Int) (M : Mem) : Prop := V G md_X12_entry 0 0 X M 0 [(0, .ref (ad (gB G) o)), (1, .int (I x1)), (2, .int (I x2))] []
def L_X12_entry_2 (G : GT) (X : va_W) (o : Nat) (x1 : Int) (x2 : Int) (x3 : Int) (M : Mem) : Prop := V G md_X12_entry 0 0 X M 2 [(0, .ref (ad (gB G) o)), (1, .int (I x1)), (2, .int (I x2)), (3, .int (I x3))] []
def T_X12_entry_0 (G : GT) (X : va_W) (Q : Int → Mem → Prop) (E : String → Mem → Prop) (o : Nat) (x1 : Int) (x2 : Int) (M : Mem) : Prop := L_X12_entry_2 G X o x1 x2 (0 : Int) M
set_option maxRecDepth 100000 in
set_option maxHeartbeats 4000000 in
theorem go_X12_entry_0 {G : GT} {X : va_W} {Q : Int → Mem → Prop} {E : String → Mem → Prop} {B : WB} {l : Launch} {k n : Nat} {o : Nat} {x1 : Int} {x2 : Int} {M : Mem} (h : Ct G md_X12_entry X (oI Q E) B l k n) (ho : isHp o) (kk : T_X12_entry_0 G X Q E o x1 x2 M) : L_X12_entry_0 G X o x1 x2 M := by
  obtain ⟨hC, hR, rfl, hgr, rfl⟩ := h
  unfold T_X12_entry_0 at kk
  unfold L_X12_entry_0
  refine V_iconst hC dX12_entry_0 ?_
  refine V_istore_n hC (lv' := [(3, _), (0, _), (1, _), (2, _)]) (Nat.le_of_ble_eq_true rfl) rfl dX12_entry_1 ?_
  exact V_sub [1, 2, 3, 0] rfl kk
def T_X12_entry_2 (G : GT) (X : va_W) (Q : Int → Mem → Prop) (E : String → Mem → Prop) (o : Nat) (x1 : Int) (x2 : Int) (x3 : Int) (M : Mem) : Prop := ((0 ≤ x1 ∧ x1 < 256) ∧ (inR (M (o + 3) x1.toNat) → (inR x3 ∧ inR (M (o + 3) x1.toNat) ∧ ((M (o + 3) x1.toNat) ≤ x3 → (inR (-1 : Int) ∧ Q (-1 : Int) M)) ∧ (x3 < (M (o + 3) x1.toNat) → ((0 ≤ x1 ∧ x1 < 256) ∧ (inR (M (o + 4) x1.toNat) → ((0 ≤ ((M (o + 4) x1.toNat) + ((2 : Int) * x3)) ∧ ((M (o + 4) x1.toNat) + ((2 : Int) * x3)) < 2048) ∧ (inR (M (o + 7) ((M (o + 4) x1.toNat) + ((2 : Int) * x3)).toNat) → (inR (M (o + 7) ((M (o + 4) x1.toNat) + ((2 : Int) * x3)).toNat) ∧ inR x2 ∧ ((M (o + 7) ((M (o + 4) x1.toNat) + ((2 : Int) * x3)).toNat) ≠ x2 → L_X12_entry_2 G X o x1 x2 (x3 + 1) M) ∧ ((M (o + 7) ((M (o + 4) x1.toNat) + ((2 : Int) * x3)).toNat) = x2 → ((0 ≤ x1 ∧ x1 < 256) ∧ (inR (M (o + 4) x1.toNat) → (inR ((M (o + 4) x1.toNat) + ((2 : Int) * x3)) ∧ Q ((M (o + 4) x1.toNat) + ((2 : Int) * x3)) M)))))))))))))
set_option maxRecDepth 100000 in
set_option maxHeartbeats 4000000 in
theorem go_X12_entry_2 {G : GT} {X : va_W} {Q : Int → Mem → Prop} {E : String → Mem → Prop} {B : WB} {l : Launch} {k n : Nat} {o : Nat} {x1 : Int} {x2 : Int} {x3 : Int} {M : Mem} (h : Ct G md_X12_entry X (oI Q E) B l k n) (ho : isHp o) (kk : T_X12_entry_2 G X Q E o x1 x2 x3 M) : L_X12_entry_2 G X o x1 x2 x3 M := by
  obtain ⟨hC, hR, rfl, hgr, rfl⟩ := h
  unfold T_X12_entry_2 at kk
  unfold L_X12_entry_2
  refine V_iload_n hC 3 rfl dX12_entry_2 ?_
  refine V_aload_n hC 0 rfl dX12_entry_3 ?_
  refine V_gr hC fr_X12_29 (hp_r11 ho) dX12_entry_4 ?_
  refine V_iload_n hC 1 rfl dX12_entry_7 ?_
  obtain ⟨hi, kk⟩ := kk
  refine V_il hC (hp_a3 ho) dX12_entry_8 hi (fun z => ?_)
  replace kk := kk z
  obtain ⟨ha, hb, k1, k2⟩ := kk
  refine V_icmp_ge hC 48 rfl dX12_entry_9 ⟨ha, hb, fun z => ?_, fun z => ?_⟩
  · replace kk := k1 z; clear k1 k2
    refine V_iconst hC dX12_entry_48 ?_
    obtain ⟨hr, kk⟩ := kk
    exact V_iret hC hR (ty := .int) rfl rfl zk dX12_entry_49 ⟨_, rfl, hr, kk⟩
  · replace kk := k2 z; clear k1 k2
    refine V_aload_n hC 0 rfl dX12_entry_12 ?_
    refine V_gr hC fr_X12_41 (hp_r15 ho) dX12_entry_13 ?_
    refine V_aload_n hC 0 rfl dX12_entry_16 ?_
    refine V_gr hC fr_X12_32 (hp_r12 ho) dX12_entry_17 ?_
    refine V_iload_n hC 1 rfl dX12_entry_20 ?_
    obtain ⟨hi, kk⟩ := kk
    refine V_il hC (hp_a4 ho) dX12_entry_21 hi (fun z => ?_)
    replace kk := kk z
    refine V_iconst hC dX12_entry_22 ?_
    refine V_iload_n hC 3 rfl dX12_entry_23 ?_
    refine V_imul hC dX12_entry_24 ?_
    refine V_iadd hC dX12_entry_25 ?_
    obtain ⟨hi, kk⟩ := kk
    refine V_il hC (hp_a7 ho) dX12_entry_26 hi (fun z => ?_)
    replace kk := kk z
    refine V_iload_n hC 2 rfl dX12_entry_27 ?_
    obtain ⟨ha, hb, k1, k2⟩ := kk
    refine V_icmp_ne hC 42 rfl dX12_entry_28 ⟨ha, hb, fun z => ?_, fun z => ?_⟩
    · replace kk := k1 z; clear k1 k2
      refine V_iinc hC (lv' := [(3, _), (0, _), (1, _), (2, _)]) 3 rfl (Nat.le_of_ble_eq_true rfl) rfl dX12_entry_42 ?_
      refine V_goto hC 2 rfl dX12_entry_45 ?_
      exact V_sub [1, 2, 3, 0] rfl kk
    · replace kk := k2 z; clear k1 k2
      refine V_aload_n hC 0 rfl dX12_entry_31 ?_
      refine V_gr hC fr_X12_32 (hp_r12 ho) dX12_entry_32 ?_
      refine V_iload_n hC 1 rfl dX12_entry_35 ?_
      obtain ⟨hi, kk⟩ := kk
      refine V_il hC (hp_a4 ho) dX12_entry_36 hi (fun z => ?_)
      replace kk := kk z
      refine V_iconst hC dX12_entry_37 ?_
      refine V_iload_n hC 3 rfl dX12_entry_38 ?_
      refine V_imul hC dX12_entry_39 ?_
      refine V_iadd hC dX12_entry_40 ?_
      obtain ⟨hr, kk⟩ := kk
      exact V_iret hC hR (ty := .int) rfl rfl zk dX12_entry_41 ⟨_, rfl, hr, kk⟩
theorem ok_X12_entry {B : WB} {l : Launch} {k n : Nat} {X : va_W} {M : Mem} {Q : Int → Mem → Prop} {E : String → Mem → Prop} {o : Nat} {x1 : Int} {x2 : Int} (hl : l.stackTraces = false) (body : ∀ G : GT, Ct G md_X12_entry X (oI Q E) B l k n → L_X12_entry_0 G X o x1 x2 M) : OkI B l md_X12_entry k n [.ref (ad B o), .int (I x1), .int (I x2)] X M Q E :=
  Ok_of mk_X12_entry hl (Nat.le_of_ble_eq_true rfl) (fun G h => by have hb := body G h; obtain ⟨-, -, rfl, -, -⟩ := h; exact hb)
def L_X12_entries_0 (G : GT) (X : va_W) (o : Nat) (x1 : Int) (M : Mem) : Prop := V G md_X12_entries 0 0 X M 0 [(0, .ref (ad (gB G) o)), (1, .int (I x1))] []
def L_X12_entries_4 (G : GT) (X : va_W) (o : Nat) (x1 : Int) (x2 : Int) (x3 : Int) (M : Mem) : Prop := V G md_X12_entries 0 0 X M 4 [(0, .ref (ad (gB G) o)), (1, .int (I x1)), (2, .int (I x2)), (3, .int (I x3))] []
def T_X12_entries_0 (G : GT) (X : va_W) (Q : Int → Mem → Prop) (E : String → Mem → Prop) (o : Nat) (x1 : Int) (M : Mem) : Prop := L_X12_entries_4 G X o x1 (0 : Int) (0 : Int) M
set_option maxRecDepth 100000 in
set_option maxHeartbeats 4000000 in
theorem go_X12_entries_0 {G : GT} {X : va_W} {Q : Int → Mem → Prop} {E : String → Mem → Prop} {B : WB} {l : Launch} {k n : Nat} {o : Nat} {x1 : Int} {M : Mem} (h : Ct G md_X12_entries X (oI Q E) B l k n) (ho : isHp o) (kk : T_X12_entries_0 G X Q E o x1 M) : L_X12_entries_0 G X o x1 M := by
  obtain ⟨hC, hR, rfl, hgr, rfl⟩ := h
  unfold T_X12_entries_0 at kk
  unfold L_X12_entries_0
  refine V_iconst hC dX12_entries_0 ?_
  refine V_istore_n hC (lv' := [(2, _), (0, _), (1, _)]) (Nat.le_of_ble_eq_true rfl) rfl dX12_entries_1 ?_
  refine V_iconst hC dX12_entries_2 ?_
  refine V_istore_n hC (lv' := [(3, _), (2, _), (0, _), (1, _)]) (Nat.le_of_ble_eq_true rfl) rfl dX12_entries_3 ?_
  exact V_sub [2, 3, 1, 0] rfl kk
def T_X12_entries_4 (G : GT) (X : va_W) (Q : Int → Mem → Prop) (E : String → Mem → Prop) (o : Nat) (x1 : Int) (x2 : Int) (x3 : Int) (M : Mem) : Prop := ((0 ≤ x1 ∧ x1 < 256) ∧ (inR (M (o + 3) x1.toNat) → (inR x3 ∧ inR (M (o + 3) x1.toNat) ∧ ((M (o + 3) x1.toNat) ≤ x3 → (inR x2 ∧ Q x2 M)) ∧ (x3 < (M (o + 3) x1.toNat) → ((0 ≤ x1 ∧ x1 < 256) ∧ (inR (M (o + 4) x1.toNat) → ((0 ≤ ((M (o + 4) x1.toNat) + ((2 : Int) * x3)) ∧ ((M (o + 4) x1.toNat) + ((2 : Int) * x3)) < 2048) ∧ (inR (M (o + 7) ((M (o + 4) x1.toNat) + ((2 : Int) * x3)).toNat) → (inR (M (o + 7) ((M (o + 4) x1.toNat) + ((2 : Int) * x3)).toNat) ∧ inR (-1 : Int) ∧ ((M (o + 7) ((M (o + 4) x1.toNat) + ((2 : Int) * x3)).toNat) ≠ (-1 : Int) → L_X12_entries_4 G X o x1 (x2 + (1 : Int)) (x3 + 1) M) ∧ ((M (o + 7) ((M (o + 4) x1.toNat) + ((2 : Int) * x3)).toNat) = (-1 : Int) → L_X12_entries_4 G X o x1 (x2 + (0 : Int)) (x3 + 1) M))))))))))
set_option maxRecDepth 100000 in
set_option maxHeartbeats 4000000 in
theorem go_X12_entries_4 {G : GT} {X : va_W} {Q : Int → Mem → Prop} {E : String → Mem → Prop} {B : WB} {l : Launch} {k n : Nat} {o : Nat} {x1 : Int} {x2 : Int} {x3 : Int} {M : Mem} (h : Ct G md_X12_entries X (oI Q E) B l k n) (ho : isHp o) (kk : T_X12_entries_4 G X Q E o x1 x2 x3 M) : L_X12_entries_4 G X o x1 x2 x3 M := by
  obtain ⟨hC, hR, rfl, hgr, rfl⟩ := h
  unfold T_X12_entries_4 at kk
  unfold L_X12_entries_4
  refine V_iload_n hC 3 rfl dX12_entries_4 ?_
  refine V_aload_n hC 0 rfl dX12_entries_5 ?_
  refine V_gr hC fr_X12_29 (hp_r11 ho) dX12_entries_6 ?_
  refine V_iload_n hC 1 rfl dX12_entries_9 ?_
  obtain ⟨hi, kk⟩ := kk
  refine V_il hC (hp_a3 ho) dX12_entries_10 hi (fun z => ?_)
  replace kk := kk z
  obtain ⟨ha, hb, k1, k2⟩ := kk
  refine V_icmp_ge hC 47 rfl dX12_entries_11 ⟨ha, hb, fun z => ?_, fun z => ?_⟩
  · replace kk := k1 z; clear k1 k2
    refine V_iload_n hC 2 rfl dX12_entries_47 ?_
    obtain ⟨hr, kk⟩ := kk
    exact V_iret hC hR (ty := .int) rfl rfl zk dX12_entries_48 ⟨_, rfl, hr, kk⟩
  · replace kk := k2 z; clear k1 k2
    refine V_iload_n hC 2 rfl dX12_entries_14 ?_
    refine V_aload_n hC 0 rfl dX12_entries_15 ?_
    refine V_gr hC fr_X12_41 (hp_r15 ho) dX12_entries_16 ?_
    refine V_aload_n hC 0 rfl dX12_entries_19 ?_
    refine V_gr hC fr_X12_32 (hp_r12 ho) dX12_entries_20 ?_
    refine V_iload_n hC 1 rfl dX12_entries_23 ?_
    obtain ⟨hi, kk⟩ := kk
    refine V_il hC (hp_a4 ho) dX12_entries_24 hi (fun z => ?_)
    replace kk := kk z
    refine V_iconst hC dX12_entries_25 ?_
    refine V_iload_n hC 3 rfl dX12_entries_26 ?_
    refine V_imul hC dX12_entries_27 ?_
    refine V_iadd hC dX12_entries_28 ?_
    obtain ⟨hi, kk⟩ := kk
    refine V_il hC (hp_a7 ho) dX12_entries_29 hi (fun z => ?_)
    replace kk := kk z
    refine V_iconst hC dX12_entries_30 ?_
    obtain ⟨ha, hb, k1, k2⟩ := kk
    refine V_icmp_ne hC 38 rfl dX12_entries_31 ⟨ha, hb, fun z => ?_, fun z => ?_⟩
    · replace kk := k1 z; clear k1 k2
      refine V_iconst hC dX12_entries_38 ?_
      refine V_iadd hC dX12_entries_39 ?_
      refine V_istore_n hC (lv' := [(2, _), (0, _), (1, _), (3, _)]) (Nat.le_of_ble_eq_true rfl) rfl dX12_entries_40 ?_
      refine V_iinc hC (lv' := [(3, _), (2, _), (0, _), (1, _)]) 3 rfl (Nat.le_of_ble_eq_true rfl) rfl dX12_entries_41 ?_
      refine V_goto hC 4 rfl dX12_entries_44 ?_
      exact V_sub [2, 3, 1, 0] rfl kk
    · replace kk := k2 z; clear k1 k2
      refine V_iconst hC dX12_entries_34 ?_
      refine V_goto hC 39 rfl dX12_entries_35 ?_
      refine V_iadd hC dX12_entries_39 ?_
      refine V_istore_n hC (lv' := [(2, _), (0, _), (1, _), (3, _)]) (Nat.le_of_ble_eq_true rfl) rfl dX12_entries_40 ?_
      refine V_iinc hC (lv' := [(3, _), (2, _), (0, _), (1, _)]) 3 rfl (Nat.le_of_ble_eq_true rfl) rfl dX12_entries_41 ?_
      refine V_goto hC 4 rfl dX12_entries_44 ?_
      exact V_sub [2, 3, 1, 0] rfl kk
theorem ok_X12_entries {B : WB} {l : Launch} {k n : Nat} {X : va_W} {M : Mem} {Q : Int → Mem → Prop} {E : String → Mem → Prop} {o : Nat} {x1 : Int} (hl : l.stackTraces = false) (body : ∀ G : GT, Ct G md_X12_entries X (oI Q E) B l k n → L_X12_entries_0 G X o x1 M) : OkI B l md_X12_entries k n [.ref (ad B o), .int (I x1)] X M Q E :=
  Ok_of mk_X12_entries hl (Nat.le_of_ble_eq_true rfl) (fun G h => by have hb := body G h; obtain ⟨-, -, rfl, -, -⟩ := h; exact hb)
def L_X12_interned_0 (G : GT) (X : va_W) (o : Nat) (a1 : Nat) (n1 : Int) (x2 : Int) (x3 : Int) (M : Mem) : Prop := V G md_X12_interned 0 0 X M 0 [(0, .ref (ad (gB G) o)), (1, .ref (ad (gB G) a1)), (2, .int (I x2)), (3, .int (I x3))] []
def L_X12_interned_3 (G : GT) (X : va_W) (o : Nat) (a1 : Nat) (n1 : Int) (x2 : Int) (x3 : Int) (x4 : Int) (M : Mem) : Prop := V G md_X12_interned 0 0 X M 3 [(0, .ref (ad (gB G) o)), (1, .ref (ad (gB G) a1)), (2, .int (I x2)), (3, .int (I x3)), (4, .int (I x4))] []
def L_X12_interned_43 (G : GT) (X : va_W) (o : Nat) (a1 : Nat) (n1 : Int) (x2 : Int) (x3 : Int) (x4 : Int) (x5 : Int) (x6 : Int) (M : Mem) : Prop := V G md_X12_interned 0 0 X M 43 [(0, .ref (ad (gB G) o)), (1, .ref (ad (gB G) a1)), (2, .int (I x2)), (3, .int (I x3)), (4, .int (I x4)), (5, .int (I x5)), (6, .int (I x6))] []
def T_X12_interned_0 (G : GT) (X : va_W) (Q : Int → Mem → Prop) (E : String → Mem → Prop) (o : Nat) (a1 : Nat) (n1 : Int) (x2 : Int) (x3 : Int) (M : Mem) : Prop := L_X12_interned_3 G X o a1 n1 x2 x3 (0 : Int) M
set_option maxRecDepth 100000 in
set_option maxHeartbeats 4000000 in
theorem go_X12_interned_0 {G : GT} {X : va_W} {Q : Int → Mem → Prop} {E : String → Mem → Prop} {B : WB} {l : Launch} {k n : Nat} {o : Nat} {a1 : Nat} {n1 : Int} {x2 : Int} {x3 : Int} {M : Mem} (h : Ct G md_X12_interned X (oI Q E) B l k n) (ho : isHp o) (ha1 : Arr a1 100 n1) (kk : T_X12_interned_0 G X Q E o a1 n1 x2 x3 M) : L_X12_interned_0 G X o a1 n1 x2 x3 M := by
  obtain ⟨hC, hR, rfl, hgr, rfl⟩ := h
  unfold T_X12_interned_0 at kk
  unfold L_X12_interned_0
  refine V_iconst hC dX12_interned_0 ?_
  refine V_istore hC (lv' := [(4, _), (0, _), (1, _), (2, _), (3, _)]) (Nat.le_of_ble_eq_true rfl) rfl dX12_interned_1 ?_
  exact V_sub [1, 2, 3, 4, 0] rfl kk
def T_X12_interned_3 (G : GT) (X : va_W) (Q : Int → Mem → Prop) (E : String → Mem → Prop) (o : Nat) (a1 : Nat) (n1 : Int) (x2 : Int) (x3 : Int) (x4 : Int) (M : Mem) : Prop := (inR (M o 0) → (inR x4 ∧ inR (M o 0) ∧ ((M o 0) ≤ x4 → (inR (-1 : Int) ∧ Q (-1 : Int) M)) ∧ (x4 < (M o 0) → OkI (gB G) (gl G) md_X12_is 0 0 [.ref (ad (gB G) o), .int (I x4), .int (I (4 : Int))] X M (fun r16 M1 => inR r16 → (inR r16 ∧ (r16 = 0 → L_X12_interned_43 G X o a1 n1 x2 x3 x4 (0 : Int) (0 : Int) M1) ∧ (r16 ≠ 0 → ((0 ≤ x4 ∧ x4 < 256) ∧ (inR (M1 (o + 3) x4.toNat) → (inR (M1 (o + 3) x4.toNat) ∧ inR x3 ∧ ((M1 (o + 3) x4.toNat) ≠ x3 → L_X12_interned_43 G X o a1 n1 x2 x3 x4 (0 : Int) (0 : Int) M1) ∧ ((M1 (o + 3) x4.toNat) = x3 → L_X12_interned_43 G X o a1 n1 x2 x3 x4 (1 : Int) (0 : Int) M1))))))) NoX)))
set_option maxRecDepth 100000 in
set_option maxHeartbeats 4000000 in
theorem go_X12_interned_3 {G : GT} {X : va_W} {Q : Int → Mem → Prop} {E : String → Mem → Prop} {B : WB} {l : Launch} {k n : Nat} {o : Nat} {a1 : Nat} {n1 : Int} {x2 : Int} {x3 : Int} {x4 : Int} {M : Mem} (h : Ct G md_X12_interned X (oI Q E) B l k n) (ho : isHp o) (ha1 : Arr a1 100 n1) (kk : T_X12_interned_3 G X Q E o a1 n1 x2 x3 x4 M) : L_X12_interned_3 G X o a1 n1 x2 x3 x4 M := by
  obtain ⟨hC, hR, rfl, hgr, rfl⟩ := h
  unfold T_X12_interned_3 at kk
  unfold L_X12_interned_3
  refine V_iload hC 4 rfl dX12_interned_3 ?_
  refine V_aload_n hC 0 rfl dX12_interned_5 ?_
  refine V_gi hC fr_X12_80 (hp_i0 ho) dX12_interned_6 (fun z => ?_)
  replace kk := kk z
  obtain ⟨ha, hb, k1, k2⟩ := kk
  refine V_icmp_ge hC 105 rfl dX12_interned_9 ⟨ha, hb, fun z => ?_, fun z => ?_⟩
  · replace kk := k1 z; clear k1 k2
    refine V_iconst hC dX12_interned_105 ?_
    obtain ⟨hr, kk⟩ := kk
    exact V_iret hC hR (ty := .int) rfl rfl zk dX12_interned_106 ⟨_, rfl, hr, kk⟩
  · replace kk := k2 z; clear k1 k2
    refine V_aload_n hC 0 rfl dX12_interned_12 ?_
    refine V_iload hC 4 rfl dX12_interned_13 ?_
    refine V_iconst hC dX12_interned_15 ?_
    refine V_cVi hC (As := [_, _]) lv_X12_118 dX12_interned_16 (d0 := 1) (Nat.le_of_ble_eq_true rfl) (Rm_of hgr) (hp_v ho) rfl (Nat.le_of_ble_eq_true rfl) zk kk (fun r9 M9 z kk => ?_)
    replace kk := kk z
    obtain ⟨ha, k1, k2⟩ := kk
    refine V_if_eq hC 37 rfl dX12_interned_19 ⟨ha, fun z => ?_, fun z => ?_⟩
    · replace kk := k1 z; clear k1 k2
      refine V_iconst hC dX12_interned_37 ?_
      refine V_istore hC (lv' := [(5, _), (0, _), (1, _), (2, _), (3, _), (4, _)]) (Nat.le_of_ble_eq_true rfl) rfl dX12_interned_38 ?_
      refine V_iconst hC dX12_interned_40 ?_
      refine V_istore hC (lv' := [(6, _), (5, _), (0, _), (1, _), (2, _), (3, _), (4, _)]) (Nat.le_of_ble_eq_true rfl) rfl dX12_interned_41 ?_
      exact V_sub [2, 3, 4, 5, 6, 1, 0] rfl kk
    · replace kk := k2 z; clear k1 k2
      refine V_aload_n hC 0 rfl dX12_interned_22 ?_
      refine V_gr hC fr_X12_29 (hp_r11 ho) dX12_interned_23 ?_
      refine V_iload hC 4 rfl dX12_interned_26 ?_
      obtain ⟨hi, kk⟩ := kk
      refine V_il hC (hp_a3 ho) dX12_interned_28 hi (fun z => ?_)
      replace kk := kk z
      refine V_iload_n hC 3 rfl dX12_interned_29 ?_
      obtain ⟨ha, hb, k1, k2⟩ := kk
      refine V_icmp_ne hC 37 rfl dX12_interned_30 ⟨ha, hb, fun z => ?_, fun z => ?_⟩
      · replace kk := k1 z; clear k1 k2
        refine V_iconst hC dX12_interned_37 ?_
        refine V_istore hC (lv' := [(5, _), (0, _), (1, _), (2, _), (3, _), (4, _)]) (Nat.le_of_ble_eq_true rfl) rfl dX12_interned_38 ?_
        refine V_iconst hC dX12_interned_40 ?_
        refine V_istore hC (lv' := [(6, _), (5, _), (0, _), (1, _), (2, _), (3, _), (4, _)]) (Nat.le_of_ble_eq_true rfl) rfl dX12_interned_41 ?_
        exact V_sub [2, 3, 4, 5, 6, 1, 0] rfl kk
      · replace kk := k2 z; clear k1 k2
        refine V_iconst hC dX12_interned_33 ?_
        refine V_goto hC 38 rfl dX12_interned_34 ?_
        refine V_istore hC (lv' := [(5, _), (0, _), (1, _), (2, _), (3, _), (4, _)]) (Nat.le_of_ble_eq_true rfl) rfl dX12_interned_38 ?_
        refine V_iconst hC dX12_interned_40 ?_
        refine V_istore hC (lv' := [(6, _), (5, _), (0, _), (1, _), (2, _), (3, _), (4, _)]) (Nat.le_of_ble_eq_true rfl) rfl dX12_interned_41 ?_
        exact V_sub [2, 3, 4, 5, 6, 1, 0] rfl kk
def T_X12_interned_43 (G : GT) (X : va_W) (Q : Int → Mem → Prop) (E : String → Mem → Prop) (o : Nat) (a1 : Nat) (n1 : Int) (x2 : Int) (x3 : Int) (x4 : Int) (x5 : Int) (x6 : Int) (M : Mem) : Prop := (inR x5 ∧ (x5 = 0 → (inR x5 ∧ (x5 = 0 → L_X12_interned_3 G X o a1 n1 x2 x3 (x4 + 1) M) ∧ (x5 ≠ 0 → (inR x4 ∧ Q x4 M)))) ∧ (x5 ≠ 0 → (inR x6 ∧ inR x3 ∧ (x3 ≤ x6 → (inR x5 ∧ (x5 = 0 → L_X12_interned_3 G X o a1 n1 x2 x3 (x4 + 1) M) ∧ (x5 ≠ 0 → (inR x4 ∧ Q x4 M)))) ∧ (x6 < x3 → ((0 ≤ x4 ∧ x4 < 256) ∧ (inR (M (o + 4) x4.toNat) → ((0 ≤ ((M (o + 4) x4.toNat) + x6) ∧ ((M (o + 4) x4.toNat) + x6) < 2048) ∧ (inR (M (o + 7) ((M (o + 4) x4.toNat) + x6).toNat) → ((0 ≤ (x2 + x6) ∧ (x2 + x6) < n1) ∧ (inR (M a1 (x2 + x6).toNat) → (inR (M (o + 7) ((M (o + 4) x4.toNat) + x6).toNat) ∧ inR (M a1 (x2 + x6).toNat) ∧ ((M (o + 7) ((M (o + 4) x4.toNat) + x6).toNat) ≠ (M a1 (x2 + x6).toNat) → L_X12_interned_43 G X o a1 n1 x2 x3 x4 (0 : Int) (x6 + 1) M) ∧ ((M (o + 7) ((M (o + 4) x4.toNat) + x6).toNat) = (M a1 (x2 + x6).toNat) → L_X12_interned_43 G X o a1 n1 x2 x3 x4 (1 : Int) (x6 + 1) M))))))))))))
set_option maxRecDepth 100000 in
set_option maxHeartbeats 4000000 in
theorem go_X12_interned_43 {G : GT} {X : va_W} {Q : Int → Mem → Prop} {E : String → Mem → Prop} {B : WB} {l : Launch} {k n : Nat} {o : Nat} {a1 : Nat} {n1 : Int} {x2 : Int} {x3 : Int} {x4 : Int} {x5 : Int} {x6 : Int} {M : Mem} (h : Ct G md_X12_interned X (oI Q E) B l k n) (ho : isHp o) (ha1 : Arr a1 100 n1) (kk : T_X12_interned_43 G X Q E o a1 n1 x2 x3 x4 x5 x6 M) : L_X12_interned_43 G X o a1 n1 x2 x3 x4 x5 x6 M := by
  obtain ⟨hC, hR, rfl, hgr, rfl⟩ := h
  unfold T_X12_interned_43 at kk
  unfold L_X12_interned_43
  refine V_iload hC 5 rfl dX12_interned_43 ?_
  obtain ⟨ha, k1, k2⟩ := kk
  refine V_if_eq hC 91 rfl dX12_interned_45 ⟨ha, fun z => ?_, fun z => ?_⟩
  · replace kk := k1 z; clear k1 k2
    refine V_iload hC 5 rfl dX12_interned_91 ?_
    obtain ⟨ha, k1, k2⟩ := kk
    refine V_if_eq hC 99 rfl dX12_interned_93 ⟨ha, fun z => ?_, fun z => ?_⟩
    · replace kk := k1 z; clear k1 k2
      refine V_iinc hC (lv' := [(4, _), (0, _), (1, _), (2, _), (3, _), (5, _), (6, _)]) 4 rfl (Nat.le_of_ble_eq_true rfl) rfl dX12_interned_99 ?_
      refine V_goto hC 3 rfl dX12_interned_102 ?_
      exact V_sub [1, 2, 3, 4, 0] rfl kk
    · replace kk := k2 z; clear k1 k2
      refine V_iload hC 4 rfl dX12_interned_96 ?_
      obtain ⟨hr, kk⟩ := kk
      exact V_iret hC hR (ty := .int) rfl rfl zk dX12_interned_98 ⟨_, rfl, hr, kk⟩
  · replace kk := k2 z; clear k1 k2
    refine V_iload hC 6 rfl dX12_interned_48 ?_
    refine V_iload_n hC 3 rfl dX12_interned_50 ?_
    obtain ⟨ha, hb, k1, k2⟩ := kk
    refine V_icmp_ge hC 91 rfl dX12_interned_51 ⟨ha, hb, fun z => ?_, fun z => ?_⟩
    · replace kk := k1 z; clear k1 k2
      refine V_iload hC 5 rfl dX12_interned_91 ?_
      obtain ⟨ha, k1, k2⟩ := kk
      refine V_if_eq hC 99 rfl dX12_interned_93 ⟨ha, fun z => ?_, fun z => ?_⟩
      · replace kk := k1 z; clear k1 k2
        refine V_iinc hC (lv' := [(4, _), (0, _), (1, _), (2, _), (3, _), (5, _), (6, _)]) 4 rfl (Nat.le_of_ble_eq_true rfl) rfl dX12_interned_99 ?_
        refine V_goto hC 3 rfl dX12_interned_102 ?_
        exact V_sub [1, 2, 3, 4, 0] rfl kk
      · replace kk := k2 z; clear k1 k2
        refine V_iload hC 4 rfl dX12_interned_96 ?_
        obtain ⟨hr, kk⟩ := kk
        exact V_iret hC hR (ty := .int) rfl rfl zk dX12_interned_98 ⟨_, rfl, hr, kk⟩
    · replace kk := k2 z; clear k1 k2
      refine V_aload_n hC 0 rfl dX12_interned_54 ?_
      refine V_gr hC fr_X12_41 (hp_r15 ho) dX12_interned_55 ?_
      refine V_aload_n hC 0 rfl dX12_interned_58 ?_
      refine V_gr hC fr_X12_32 (hp_r12 ho) dX12_interned_59 ?_
      refine V_iload hC 4 rfl dX12_interned_62 ?_
      obtain ⟨hi, kk⟩ := kk
      refine V_il hC (hp_a4 ho) dX12_interned_64 hi (fun z => ?_)
      replace kk := kk z
      refine V_iload hC 6 rfl dX12_interned_65 ?_
      refine V_iadd hC dX12_interned_67 ?_
      obtain ⟨hi, kk⟩ := kk
      refine V_il hC (hp_a7 ho) dX12_interned_68 hi (fun z => ?_)
      replace kk := kk z
      refine V_aload_n hC 1 rfl dX12_interned_69 ?_
      refine V_iload_n hC 2 rfl dX12_interned_70 ?_
      refine V_iload hC 6 rfl dX12_interned_71 ?_
      refine V_iadd hC dX12_interned_73 ?_
      obtain ⟨hi, kk⟩ := kk
      refine V_il hC ha1 dX12_interned_74 hi (fun z => ?_)
      replace kk := kk z
      obtain ⟨ha, hb, k1, k2⟩ := kk
      refine V_icmp_ne hC 82 rfl dX12_interned_75 ⟨ha, hb, fun z => ?_, fun z => ?_⟩
      · replace kk := k1 z; clear k1 k2
        refine V_iconst hC dX12_interned_82 ?_
        refine V_istore hC (lv' := [(5, _), (0, _), (1, _), (2, _), (3, _), (4, _), (6, _)]) (Nat.le_of_ble_eq_true rfl) rfl dX12_interned_83 ?_
        refine V_iinc hC (lv' := [(6, _), (5, _), (0, _), (1, _), (2, _), (3, _), (4, _)]) 6 rfl (Nat.le_of_ble_eq_true rfl) rfl dX12_interned_85 ?_
        refine V_goto hC 43 rfl dX12_interned_88 ?_
        exact V_sub [2, 3, 4, 5, 6, 1, 0] rfl kk
      · replace kk := k2 z; clear k1 k2
        refine V_iconst hC dX12_interned_78 ?_
        refine V_goto hC 83 rfl dX12_interned_79 ?_
        refine V_istore hC (lv' := [(5, _), (0, _), (1, _), (2, _), (3, _), (4, _), (6, _)]) (Nat.le_of_ble_eq_true rfl) rfl dX12_interned_83 ?_
        refine V_iinc hC (lv' := [(6, _), (5, _), (0, _), (1, _), (2, _), (3, _), (4, _)]) 6 rfl (Nat.le_of_ble_eq_true rfl) rfl dX12_interned_85 ?_
        refine V_goto hC 43 rfl dX12_interned_88 ?_
        exact V_sub [2, 3, 4, 5, 6, 1, 0] rfl kk
theorem ok_X12_interned {B : WB} {l : Launch} {k n : Nat} {X : va_W} {M : Mem} {Q : Int → Mem → Prop} {E : String → Mem → Prop} {o : Nat} {a1 : Nat} {n1 : Int} {x2 : Int} {x3 : Int} (hl : l.stackTraces = false) (body : ∀ G : GT, Ct G md_X12_interned X (oI Q E) B l k n → L_X12_interned_0 G X o a1 n1 x2 x3 M) : OkI B l md_X12_interned k n [.ref (ad B o), .ref (ad B a1), .int (I x2), .int (I x3)] X M Q E :=
  Ok_of mk_X12_interned hl (Nat.le_of_ble_eq_true rfl) (fun G h => by have hb := body G h; obtain ⟨-, -, rfl, -, -⟩ := h; exact hb)
def L_X12_none_0 (G : GT) (X : va_W) (o : Nat) (a1 : Nat) (n1 : Int) (M : Mem) : Prop := V G md_X12_none 0 0 X M 0 [(0, .ref (ad (gB G) o)), (1, .ref (ad (gB G) a1))] []
def T_X12_none_0 (G : GT) (X : va_W) (Q : Mem → Prop) (E : String → Mem → Prop) (o : Nat) (a1 : Nat) (n1 : Int) (M : Mem) : Prop := (inR (M o 0) → OkV (gB G) (gl G) md_J7_fill_fda19 0 0 [.ref (ad (gB G) a1), .int (I (0 : Int)), .int (I (M o 0)), .int (I (0 : Int))] X M (fun M1 => Q M1) NoX)
set_option maxRecDepth 100000 in
set_option maxHeartbeats 4000000 in
theorem go_X12_none_0 {G : GT} {X : va_W} {Q : Mem → Prop} {E : String → Mem → Prop} {B : WB} {l : Launch} {k n : Nat} {o : Nat} {a1 : Nat} {n1 : Int} {M : Mem} (h : Ct G md_X12_none X (oV Q E) B l k n) (ho : isHp o) (ha1 : Arr a1 100 n1) (kk : T_X12_none_0 G X Q E o a1 n1 M) : L_X12_none_0 G X o a1 n1 M := by
  obtain ⟨hC, hR, rfl, hgr, rfl⟩ := h
  unfold T_X12_none_0 at kk
  unfold L_X12_none_0
  refine V_aload_n hC 1 rfl dX12_none_0 ?_
  refine V_iconst hC dX12_none_1 ?_
  refine V_aload_n hC 0 rfl dX12_none_2 ?_
  refine V_gi hC fr_X12_80 (hp_i0 ho) dX12_none_3 (fun z => ?_)
  replace kk := kk z
  refine V_iconst hC dX12_none_6 ?_
  refine V_cSv hC (As := [_, _, _, _]) ls_X12_136 dX12_none_7 (d0 := 2) (Nat.le_of_ble_eq_true rfl) (Rm_of hgr) rfl (Nat.le_of_ble_eq_true rfl) zk kk (fun M9 kk => ?_)
  exact V_vret hC hR rfl zk dX12_none_10 ⟨rfl, kk⟩
theorem ok_X12_none {B : WB} {l : Launch} {k n : Nat} {X : va_W} {M : Mem} {Q : Mem → Prop} {E : String → Mem → Prop} {o : Nat} {a1 : Nat} {n1 : Int} (hl : l.stackTraces = false) (body : ∀ G : GT, Ct G md_X12_none X (oV Q E) B l k n → L_X12_none_0 G X o a1 n1 M) : OkV B l md_X12_none k n [.ref (ad B o), .ref (ad B a1)] X M Q E :=
  Ok_of mk_X12_none hl (Nat.le_of_ble_eq_true rfl) (fun G h => by have hb := body G h; obtain ⟨-, -, rfl, -, -⟩ := h; exact hb)
def L_X12_mark_0 (G : GT) (X : va_W) (o : Nat) (a1 : Nat) (n1 : Int) (x2 : Int) (M : Mem) : Prop := V G md_X12_mark 0 0 X M 0 [(0, .ref (ad (gB G) o)), (1, .ref (ad (gB G) a1)), (2, .int (I x2))] []
def T_X12_mark_0 (G : GT) (X : va_W) (Q : Mem → Prop) (E : String → Mem → Prop) (o : Nat) (a1 : Nat) (n1 : Int) (x2 : Int) (M : Mem) : Prop := (inR x2 ∧ inR (-1 : Int) ∧ (x2 = (-1 : Int) → Q M) ∧ (x2 ≠ (-1 : Int) → (inR (M o 26) → (inR x2 ∧ inR (M o 26) ∧ (x2 = (M o 26) → Q M) ∧ (x2 ≠ (M o 26) → ((0 ≤ x2 ∧ x2 < n1) ∧ (inR (M a1 x2.toNat) → (inR (M a1 x2.toNat) ∧ inR (1 : Int) ∧ ((M a1 x2.toNat) ≠ (1 : Int) → ((0 ≤ x2 ∧ x2 < n1) ∧ inR (1 : Int) ∧ ∀ M1 : Mem, M1 = up M a1 x2.toNat (1 : Int) → (inR (M1 o 25) → ((0 ≤ (M1 o 25) ∧ (M1 o 25) < 256) ∧ inR x2 ∧ ∀ M2 : Mem, M2 = up M1 (o + 15) (M1 o 25).toNat x2 → (inR (M2 o 25) → (inR ((M2 o 25) + (1 : Int)) ∧ ∀ M3 : Mem, M3 = up M2 o 25 ((M2 o 25) + (1 : Int)) → Q M3)))))) ∧ ((M a1 x2.toNat) = (1 : Int) → Q M)))))))))
set_option maxRecDepth 100000 in
set_option maxHeartbeats 4000000 in
theorem go_X12_mark_0 {G : GT} {X : va_W} {Q : Mem → Prop} {E : String → Mem → Prop} {B : WB} {l : Launch} {k n : Nat} {o : Nat} {a1 : Nat} {n1 : Int} {x2 : Int} {M : Mem} (h : Ct G md_X12_mark X (oV Q E) B l k n) (ho : isHp o) (ha1 : Arr a1 100 n1) (kk : T_X12_mark_0 G X Q E o a1 n1 x2 M) : L_X12_mark_0 G X o a1 n1 x2 M := by
  obtain ⟨hC, hR, rfl, hgr, rfl⟩ := h
  unfold T_X12_mark_0 at kk
  unfold L_X12_mark_0
  refine V_iload_n hC 2 rfl dX12_mark_0 ?_
  refine V_iconst hC dX12_mark_1 ?_
  obtain ⟨ha, hb, k1, k2⟩ := kk
  refine V_icmp_eq hC 20 rfl dX12_mark_2 ⟨ha, hb, fun z => ?_, fun z => ?_⟩
  · replace kk := k1 z; clear k1 k2
    exact V_vret hC hR rfl zk dX12_mark_20 ⟨rfl, kk⟩
  · replace kk := k2 z; clear k1 k2
    refine V_iload_n hC 2 rfl dX12_mark_5 ?_
    refine V_aload_n hC 0 rfl dX12_mark_6 ?_
    refine V_gi hC fr_X12_71 (hp_i26 ho) dX12_mark_7 (fun z => ?_)
    replace kk := kk z
    obtain ⟨ha, hb, k1, k2⟩ := kk
    refine V_icmp_eq hC 20 rfl dX12_mark_10 ⟨ha, hb, fun z => ?_, fun z => ?_⟩
    · replace kk := k1 z; clear k1 k2
      exact V_vret hC hR rfl zk dX12_mark_20 ⟨rfl, kk⟩
    · replace kk := k2 z; clear k1 k2
      refine V_aload_n hC 1 rfl dX12_mark_13 ?_
      refine V_iload_n hC 2 rfl dX12_mark_14 ?_
      obtain ⟨hi, kk⟩ := kk
      refine V_il hC ha1 dX12_mark_15 hi (fun z => ?_)
      replace kk := kk z
      refine V_iconst hC dX12_mark_16 ?_
      obtain ⟨ha, hb, k1, k2⟩ := kk
      refine V_icmp_ne hC 21 rfl dX12_mark_17 ⟨ha, hb, fun z => ?_, fun z => ?_⟩
      · replace kk := k1 z; clear k1 k2
        refine V_aload_n hC 1 rfl dX12_mark_21 ?_
        refine V_iload_n hC 2 rfl dX12_mark_22 ?_
        refine V_iconst hC dX12_mark_23 ?_
        obtain ⟨hi, hv, kk⟩ := kk
        refine V_is hC ha1 dX12_mark_24 hi hv ?_
        replace kk := kk _ rfl
        refine V_aload_n hC 0 rfl dX12_mark_25 ?_
        refine V_gr hC fr_X12_65 (hp_r23 ho) dX12_mark_26 ?_
        refine V_aload_n hC 0 rfl dX12_mark_29 ?_
        refine V_gi hC fr_X12_139 (hp_i25 ho) dX12_mark_30 (fun z => ?_)
        replace kk := kk z
        refine V_iload_n hC 2 rfl dX12_mark_33 ?_
        obtain ⟨hi, hv, kk⟩ := kk
        refine V_is hC (hp_a15 ho) dX12_mark_34 hi hv ?_
        replace kk := kk _ rfl
        refine V_aload_n hC 0 rfl dX12_mark_35 ?_
        refine V_dup hC rfl dX12_mark_36 ?_
        refine V_gi hC fr_X12_139 (hp_i25 ho) dX12_mark_37 (fun z => ?_)
        replace kk := kk z
        refine V_iconst hC dX12_mark_40 ?_
        refine V_iadd hC dX12_mark_41 ?_
        obtain ⟨hv, kk⟩ := kk
        refine V_pi hC fk_X12_139 (hp_i25 ho) dX12_mark_42 hv ?_
        replace kk := kk _ rfl
        exact V_vret hC hR rfl zk dX12_mark_45 ⟨rfl, kk⟩
      · replace kk := k2 z; clear k1 k2
        exact V_vret hC hR rfl zk dX12_mark_20 ⟨rfl, kk⟩
theorem ok_X12_mark {B : WB} {l : Launch} {k n : Nat} {X : va_W} {M : Mem} {Q : Mem → Prop} {E : String → Mem → Prop} {o : Nat} {a1 : Nat} {n1 : Int} {x2 : Int} (hl : l.stackTraces = false) (body : ∀ G : GT, Ct G md_X12_mark X (oV Q E) B l k n → L_X12_mark_0 G X o a1 n1 x2 M) : OkV B l md_X12_mark k n [.ref (ad B o), .ref (ad B a1), .int (I x2)] X M Q E :=
  Ok_of mk_X12_mark hl (Nat.le_of_ble_eq_true rfl) (fun G h => by have hb := body G h; obtain ⟨-, -, rfl, -, -⟩ := h; exact hb)
def L_X12_markRoots_0 (G : GT) (X : va_W) (o : Nat) (a1 : Nat) (n1 : Int) (M : Mem) : Prop := V G md_X12_markRoots 0 0 X M 0 [(0, .ref (ad (gB G) o)), (1, .ref (ad (gB G) a1))] []
def L_X12_markRoots_11 (G : GT) (X : va_W) (o : Nat) (a1 : Nat) (n1 : Int) (x3 : Int) (x4 : Int) (M : Mem) : Prop := V G md_X12_markRoots 0 0 X M 11 [(0, .ref (ad (gB G) o)), (1, .ref (ad (gB G) a1)), (2, .ref (ad (gB G) (o + 9))), (3, .int (I x3)), (4, .int (I x4))] []
def L_X12_markRoots_42 (G : GT) (X : va_W) (o : Nat) (a1 : Nat) (n1 : Int) (x2 : Int) (M : Mem) : Prop := V G md_X12_markRoots 0 0 X M 42 [(0, .ref (ad (gB G) o)), (1, .ref (ad (gB G) a1)), (2, .int (I x2))] []
def L_X12_markRoots_73 (G : GT) (X : va_W) (o : Nat) (a1 : Nat) (n1 : Int) (x2 : Int) (M : Mem) : Prop := V G md_X12_markRoots 0 0 X M 73 [(0, .ref (ad (gB G) o)), (1, .ref (ad (gB G) a1)), (2, .int (I x2))] []
def T_X12_markRoots_0 (G : GT) (X : va_W) (Q : Mem → Prop) (E : String → Mem → Prop) (o : Nat) (a1 : Nat) (n1 : Int) (M : Mem) : Prop := L_X12_markRoots_11 G X o a1 n1 (72 : Int) (0 : Int) M
set_option maxRecDepth 100000 in
set_option maxHeartbeats 4000000 in
theorem go_X12_markRoots_0 {G : GT} {X : va_W} {Q : Mem → Prop} {E : String → Mem → Prop} {B : WB} {l : Launch} {k n : Nat} {o : Nat} {a1 : Nat} {n1 : Int} {M : Mem} (h : Ct G md_X12_markRoots X (oV Q E) B l k n) (ho : isHp o) (ha1 : Arr a1 100 n1) (kk : T_X12_markRoots_0 G X Q E o a1 n1 M) : L_X12_markRoots_0 G X o a1 n1 M := by
  obtain ⟨hC, hR, rfl, hgr, rfl⟩ := h
  unfold T_X12_markRoots_0 at kk
  unfold L_X12_markRoots_0
  refine V_aload_n hC 0 rfl dX12_markRoots_0 ?_
  refine V_gr hC fr_X12_47 (hp_r17 ho) dX12_markRoots_1 ?_
  refine V_astore_n hC (lv' := [(2, _), (0, _), (1, _)]) (Nat.le_of_ble_eq_true rfl) rfl dX12_markRoots_4 ?_
  refine V_aload_n hC 0 rfl dX12_markRoots_5 ?_
  refine V_al hC (hp_a9 ho) dX12_markRoots_6 ?_
  refine V_istore_n hC (lv' := [(3, _), (2, _), (0, _), (1, _)]) (Nat.le_of_ble_eq_true rfl) rfl dX12_markRoots_7 ?_
  refine V_iconst hC dX12_markRoots_8 ?_
  refine V_istore hC (lv' := [(4, _), (3, _), (2, _), (0, _), (1, _)]) (Nat.le_of_ble_eq_true rfl) rfl dX12_markRoots_9 ?_
  exact V_sub [3, 4, 2, 1, 0] rfl kk
def T_X12_markRoots_11 (G : GT) (X : va_W) (Q : Mem → Prop) (E : String → Mem → Prop) (o : Nat) (a1 : Nat) (n1 : Int) (x3 : Int) (x4 : Int) (M : Mem) : Prop := (inR x4 ∧ inR x3 ∧ (x3 ≤ x4 → L_X12_markRoots_42 G X o a1 n1 (0 : Int) M) ∧ (x4 < x3 → ((0 ≤ x4 ∧ x4 < 72) ∧ (inR (M (o + 9) x4.toNat) → OkI (gB G) (gl G) md_X12_find 0 0 [.ref (ad (gB G) o), .int (I (M (o + 9) x4.toNat))] X M (fun r28 M1 => inR r28 → OkV (gB G) (gl G) md_X12_mark 0 0 [.ref (ad (gB G) o), .ref (ad (gB G) a1), .int (I r28)] X M1 (fun M2 => L_X12_markRoots_11 G X o a1 n1 x3 (x4 + 1) M2) NoX) NoX))))
set_option maxRecDepth 100000 in
set_option maxHeartbeats 4000000 in
theorem go_X12_markRoots_11 {G : GT} {X : va_W} {Q : Mem → Prop} {E : String → Mem → Prop} {B : WB} {l : Launch} {k n : Nat} {o : Nat} {a1 : Nat} {n1 : Int} {x3 : Int} {x4 : Int} {M : Mem} (h : Ct G md_X12_markRoots X (oV Q E) B l k n) (ho : isHp o) (ha1 : Arr a1 100 n1) (kk : T_X12_markRoots_11 G X Q E o a1 n1 x3 x4 M) : L_X12_markRoots_11 G X o a1 n1 x3 x4 M := by
  obtain ⟨hC, hR, rfl, hgr, rfl⟩ := h
  unfold T_X12_markRoots_11 at kk
  unfold L_X12_markRoots_11
  refine V_iload hC 4 rfl dX12_markRoots_11 ?_
  refine V_iload_n hC 3 rfl dX12_markRoots_13 ?_
  obtain ⟨ha, hb, k1, k2⟩ := kk
  refine V_icmp_ge hC 40 rfl dX12_markRoots_14 ⟨ha, hb, fun z => ?_, fun z => ?_⟩
  · replace kk := k1 z; clear k1 k2
    refine V_iconst hC dX12_markRoots_40 ?_
    refine V_istore_n hC (lv' := [(2, _), (0, _), (1, _), (3, _), (4, _)]) (Nat.le_of_ble_eq_true rfl) rfl dX12_markRoots_41 ?_
    exact V_sub [1, 2, 0] rfl kk
  · replace kk := k2 z; clear k1 k2
    refine V_aload_n hC 2 rfl dX12_markRoots_17 ?_
    refine V_iload hC 4 rfl dX12_markRoots_18 ?_
    obtain ⟨hi, kk⟩ := kk
    refine V_il hC (hp_a9 ho) dX12_markRoots_20 hi (fun z => ?_)
    replace kk := kk z
    refine V_istore hC (lv' := [(5, _), (0, _), (1, _), (2, _), (3, _), (4, _)]) (Nat.le_of_ble_eq_true rfl) rfl dX12_markRoots_21 ?_
    refine V_aload_n hC 1 rfl dX12_markRoots_23 ?_
    refine V_aload_n hC 2 rfl dX12_markRoots_24 ?_
    refine V_aload_n hC 1 rfl dX12_markRoots_25 ?_
    refine V_iload hC 0 rfl dX12_markRoots_26 ?_
    refine V_cVi hC (As := [_]) lv_X12_142 dX12_markRoots_28 (d0 := 1) (Nat.le_of_ble_eq_true rfl) (Rm_of hgr) (hp_v ho) rfl (Nat.le_of_ble_eq_true rfl) zk kk (fun r9 M9 z kk => ?_)
    replace kk := kk z
    refine V_cVv hC (As := [_, _]) lv_X12_145 dX12_markRoots_31 (d0 := 1) (Nat.le_of_ble_eq_true rfl) (Rm_of hgr) (hp_v ho) rfl (Nat.le_of_ble_eq_true rfl) zk kk (fun M9 kk => ?_)
    refine V_iinc hC (lv' := [(4, _), (5, _), (0, _), (1, _), (2, _), (3, _)]) 5 rfl (Nat.le_of_ble_eq_true rfl) rfl dX12_markRoots_34 ?_
    refine V_goto hC 11 rfl dX12_markRoots_37 ?_
    exact V_sub [2, 3, 4, 5, 0] rfl kk
def T_X12_markRoots_42 (G : GT) (X : va_W) (Q : Mem → Prop) (E : String → Mem → Prop) (o : Nat) (a1 : Nat) (n1 : Int) (x2 : Int) (M : Mem) : Prop := (inR (M o 7) → (inR x2 ∧ inR (M o 7) ∧ ((M o 7) ≤ x2 → L_X12_markRoots_73 G X o a1 n1 (0 : Int) M) ∧ (x2 < (M o 7) → ((0 ≤ x2 ∧ x2 < 256) ∧ (inR (M (o + 10) x2.toNat) → OkI (gB G) (gl G) md_X12_find 0 0 [.ref (ad (gB G) o), .int (I (M (o + 10) x2.toNat))] X M (fun r59 M1 => inR r59 → OkV (gB G) (gl G) md_X12_mark 0 0 [.ref (ad (gB G) o), .ref (ad (gB G) a1), .int (I r59)] X M1 (fun M2 => L_X12_markRoots_42 G X o a1 n1 (x2 + 1) M2) NoX) NoX)))))
set_option maxRecDepth 100000 in
set_option maxHeartbeats 4000000 in
theorem go_X12_markRoots_42 {G : GT} {X : va_W} {Q : Mem → Prop} {E : String → Mem → Prop} {B : WB} {l : Launch} {k n : Nat} {o : Nat} {a1 : Nat} {n1 : Int} {x2 : Int} {M : Mem} (h : Ct G md_X12_markRoots X (oV Q E) B l k n) (ho : isHp o) (ha1 : Arr a1 100 n1) (kk : T_X12_markRoots_42 G X Q E o a1 n1 x2 M) : L_X12_markRoots_42 G X o a1 n1 x2 M := by
  obtain ⟨hC, hR, rfl, hgr, rfl⟩ := h
  unfold T_X12_markRoots_42 at kk
  unfold L_X12_markRoots_42
  refine V_iload_n hC 2 rfl dX12_markRoots_42 ?_
  refine V_aload_n hC 0 rfl dX12_markRoots_43 ?_
  refine V_gi hC fr_X12_95 (hp_i7 ho) dX12_markRoots_44 (fun z => ?_)
  replace kk := kk z
  obtain ⟨ha, hb, k1, k2⟩ := kk
  refine V_icmp_ge hC 71 rfl dX12_markRoots_47 ⟨ha, hb, fun z => ?_, fun z => ?_⟩
  · replace kk := k1 z; clear k1 k2
    refine V_iconst hC dX12_markRoots_71 ?_
    refine V_istore_n hC (lv' := [(2, _), (0, _), (1, _)]) (Nat.le_of_ble_eq_true rfl) rfl dX12_markRoots_72 ?_
    exact V_sub [1, 2, 0] rfl kk
  · replace kk := k2 z; clear k1 k2
    refine V_aload_n hC 0 rfl dX12_markRoots_50 ?_
    refine V_aload_n hC 1 rfl dX12_markRoots_51 ?_
    refine V_aload_n hC 0 rfl dX12_markRoots_52 ?_
    refine V_aload_n hC 0 rfl dX12_markRoots_53 ?_
    refine V_gr hC fr_X12_50 (hp_r18 ho) dX12_markRoots_54 ?_
    refine V_iload_n hC 2 rfl dX12_markRoots_57 ?_
    obtain ⟨hi, kk⟩ := kk
    refine V_il hC (hp_a10 ho) dX12_markRoots_58 hi (fun z => ?_)
    replace kk := kk z
    refine V_cVi hC (As := [_]) lv_X12_142 dX12_markRoots_59 (d0 := 1) (Nat.le_of_ble_eq_true rfl) (Rm_of hgr) (hp_v ho) rfl (Nat.le_of_ble_eq_true rfl) zk kk (fun r9 M9 z kk => ?_)
    replace kk := kk z
    refine V_cVv hC (As := [_, _]) lv_X12_145 dX12_markRoots_62 (d0 := 1) (Nat.le_of_ble_eq_true rfl) (Rm_of hgr) (hp_v ho) rfl (Nat.le_of_ble_eq_true rfl) zk kk (fun M9 kk => ?_)
    refine V_iinc hC (lv' := [(2, _), (0, _), (1, _)]) 2 rfl (Nat.le_of_ble_eq_true rfl) rfl dX12_markRoots_65 ?_
    refine V_goto hC 42 rfl dX12_markRoots_68 ?_
    exact V_sub [1, 2, 0] rfl kk
def T_X12_markRoots_73 (G : GT) (X : va_W) (Q : Mem → Prop) (E : String → Mem → Prop) (o : Nat) (a1 : Nat) (n1 : Int) (x2 : Int) (M : Mem) : Prop := (inR (M o 8) → (inR x2 ∧ inR (M o 8) ∧ ((M o 8) ≤ x2 → Q M) ∧ (x2 < (M o 8) → ((0 ≤ x2 ∧ x2 < 256) ∧ (inR (M (o + 11) x2.toNat) → OkI (gB G) (gl G) md_X12_find 0 0 [.ref (ad (gB G) o), .int (I (M (o + 11) x2.toNat))] X M (fun r90 M1 => inR r90 → OkV (gB G) (gl G) md_X12_mark 0 0 [.ref (ad (gB G) o), .ref (ad (gB G) a1), .int (I r90)] X M1 (fun M2 => L_X12_markRoots_73 G X o a1 n1 (x2 + 1) M2) NoX) NoX)))))
set_option maxRecDepth 100000 in
set_option maxHeartbeats 4000000 in
theorem go_X12_markRoots_73 {G : GT} {X : va_W} {Q : Mem → Prop} {E : String → Mem → Prop} {B : WB} {l : Launch} {k n : Nat} {o : Nat} {a1 : Nat} {n1 : Int} {x2 : Int} {M : Mem} (h : Ct G md_X12_markRoots X (oV Q E) B l k n) (ho : isHp o) (ha1 : Arr a1 100 n1) (kk : T_X12_markRoots_73 G X Q E o a1 n1 x2 M) : L_X12_markRoots_73 G X o a1 n1 x2 M := by
  obtain ⟨hC, hR, rfl, hgr, rfl⟩ := h
  unfold T_X12_markRoots_73 at kk
  unfold L_X12_markRoots_73
  refine V_iload_n hC 2 rfl dX12_markRoots_73 ?_
  refine V_aload_n hC 0 rfl dX12_markRoots_74 ?_
  refine V_gi hC fr_X12_98 (hp_i8 ho) dX12_markRoots_75 (fun z => ?_)
  replace kk := kk z
  obtain ⟨ha, hb, k1, k2⟩ := kk
  refine V_icmp_ge hC 102 rfl dX12_markRoots_78 ⟨ha, hb, fun z => ?_, fun z => ?_⟩
  · replace kk := k1 z; clear k1 k2
    exact V_vret hC hR rfl zk dX12_markRoots_102 ⟨rfl, kk⟩
  · replace kk := k2 z; clear k1 k2
    refine V_aload_n hC 0 rfl dX12_markRoots_81 ?_
    refine V_aload_n hC 1 rfl dX12_markRoots_82 ?_
    refine V_aload_n hC 0 rfl dX12_markRoots_83 ?_
    refine V_aload_n hC 0 rfl dX12_markRoots_84 ?_
    refine V_gr hC fr_X12_53 (hp_r19 ho) dX12_markRoots_85 ?_
    refine V_iload_n hC 2 rfl dX12_markRoots_88 ?_
    obtain ⟨hi, kk⟩ := kk
    refine V_il hC (hp_a11 ho) dX12_markRoots_89 hi (fun z => ?_)
    replace kk := kk z
    refine V_cVi hC (As := [_]) lv_X12_142 dX12_markRoots_90 (d0 := 1) (Nat.le_of_ble_eq_true rfl) (Rm_of hgr) (hp_v ho) rfl (Nat.le_of_ble_eq_true rfl) zk kk (fun r9 M9 z kk => ?_)
    replace kk := kk z
    refine V_cVv hC (As := [_, _]) lv_X12_145 dX12_markRoots_93 (d0 := 1) (Nat.le_of_ble_eq_true rfl) (Rm_of hgr) (hp_v ho) rfl (Nat.le_of_ble_eq_true rfl) zk kk (fun M9 kk => ?_)
    refine V_iinc hC (lv' := [(2, _), (0, _), (1, _)]) 2 rfl (Nat.le_of_ble_eq_true rfl) rfl dX12_markRoots_96 ?_
    refine V_goto hC 73 rfl dX12_markRoots_99 ?_
    exact V_sub [1, 2, 0] rfl kk
theorem ok_X12_markRoots {B : WB} {l : Launch} {k n : Nat} {X : va_W} {M : Mem} {Q : Mem → Prop} {E : String → Mem → Prop} {o : Nat} {a1 : Nat} {n1 : Int} (hl : l.stackTraces = false) (body : ∀ G : GT, Ct G md_X12_markRoots X (oV Q E) B l k n → L_X12_markRoots_0 G X o a1 n1 M) : OkV B l md_X12_markRoots k n [.ref (ad B o), .ref (ad B a1)] X M Q E :=
  Ok_of mk_X12_markRoots hl (Nat.le_of_ble_eq_true rfl) (fun G h => by have hb := body G h; obtain ⟨-, -, rfl, -, -⟩ := h; exact hb)
def L_X12_spread_0 (G : GT) (X : va_W) (o : Nat) (a1 : Nat) (n1 : Int) (x2 : Int) (M : Mem) : Prop := V G md_X12_spread 0 0 X M 0 [(0, .ref (ad (gB G) o)), (1, .ref (ad (gB G) a1)), (2, .int (I x2))] []
def L_X12_spread_7 (G : GT) (X : va_W) (o : Nat) (a1 : Nat) (n1 : Int) (x2 : Int) (M : Mem) : Prop := V G md_X12_spread 0 0 X M 7 [(0, .ref (ad (gB G) o)), (1, .ref (ad (gB G) a1)), (2, .int (I x2))] []
def L_X12_spread_62 (G : GT) (X : va_W) (o : Nat) (a1 : Nat) (n1 : Int) (x2 : Int) (x3 : Int) (x4 : Int) (x5 : Int) (M : Mem) : Prop := V G md_X12_spread 0 0 X M 62 [(0, .ref (ad (gB G) o)), (1, .ref (ad (gB G) a1)), (2, .int (I x2)), (3, .int (I x3)), (4, .int (I x4)), (5, .int (I x5))] []
def L_X12_spread_103 (G : GT) (X : va_W) (o : Nat) (a1 : Nat) (n1 : Int) (x2 : Int) (x3 : Int) (M : Mem) : Prop := V G md_X12_spread 0 0 X M 103 [(0, .ref (ad (gB G) o)), (1, .ref (ad (gB G) a1)), (2, .int (I x2)), (3, .int (I x3))] []
def T_X12_spread_0 (G : GT) (X : va_W) (Q : Mem → Prop) (E : String → Mem → Prop) (o : Nat) (a1 : Nat) (n1 : Int) (x2 : Int) (M : Mem) : Prop := (inR (M o 25) → (inR (M o 25) ∧ ((M o 25) ≤ 0 → Q M) ∧ (0 < (M o 25) → L_X12_spread_7 G X o a1 n1 x2 M)))
set_option maxRecDepth 100000 in
set_option maxHeartbeats 4000000 in
theorem go_X12_spread_0 {G : GT} {X : va_W} {Q : Mem → Prop} {E : String → Mem → Prop} {B : WB} {l : Launch} {k n : Nat} {o : Nat} {a1 : Nat} {n1 : Int} {x2 : Int} {M : Mem} (h : Ct G md_X12_spread X (oV Q E) B l k n) (ho : isHp o) (ha1 : Arr a1 100 n1) (kk : T_X12_spread_0 G X Q E o a1 n1 x2 M) : L_X12_spread_0 G X o a1 n1 x2 M := by
  obtain ⟨hC, hR, rfl, hgr, rfl⟩ := h
  unfold T_X12_spread_0 at kk
  unfold L_X12_spread_0
  refine V_aload_n hC 0 rfl dX12_spread_0 ?_
  refine V_gi hC fr_X12_139 (hp_i25 ho) dX12_spread_1 (fun z => ?_)
  replace kk := kk z
  obtain ⟨ha, k1, k2⟩ := kk
  refine V_if_le hC 144 rfl dX12_spread_4 ⟨ha, fun z => ?_, fun z => ?_⟩
  · replace kk := k1 z; clear k1 k2
    exact V_vret hC hR rfl zk dX12_spread_144 ⟨rfl, kk⟩
  · replace kk := k2 z; clear k1 k2
    exact V_sub [0, 1, 2] rfl kk
def T_X12_spread_7 (G : GT) (X : va_W) (Q : Mem → Prop) (E : String → Mem → Prop) (o : Nat) (a1 : Nat) (n1 : Int) (x2 : Int) (M : Mem) : Prop := (inR (M o 25) → (inR (M o 25) ∧ ((M o 25) ≤ 0 → L_X12_spread_103 G X o a1 n1 x2 (0 : Int) M) ∧ (0 < (M o 25) → (inR (M o 25) → (inR ((M o 25) - (1 : Int)) ∧ ∀ M1 : Mem, M1 = up M o 25 ((M o 25) - (1 : Int)) → (inR (M1 o 25) → ((0 ≤ (M1 o 25) ∧ (M1 o 25) < 256) ∧ (inR (M1 (o + 15) (M1 o 25).toNat) → ((0 ≤ (M1 (o + 15) (M1 o 25).toNat) ∧ (M1 (o + 15) (M1 o 25).toNat) < 256) ∧ (inR (M1 (o + 2) (M1 (o + 15) (M1 o 25).toNat).toNat) → (inR (M1 (o + 2) (M1 (o + 15) (M1 o 25).toNat).toNat) ∧ inR (4 : Int) ∧ ((M1 (o + 2) (M1 (o + 15) (M1 o 25).toNat).toNat) ≠ (4 : Int) → OkI (gB G) (gl G) md_X12_links 0 0 [.ref (ad (gB G) o), .int (I (M1 (o + 15) (M1 o 25).toNat))] X M1 (fun r54 M2 => inR r54 → L_X12_spread_62 G X o a1 n1 x2 (M1 (o + 15) (M1 o 25).toNat) r54 (0 : Int) M2) NoX) ∧ ((M1 (o + 2) (M1 (o + 15) (M1 o 25).toNat).toNat) = (4 : Int) → (inR x2 ∧ (x2 ≠ 0 → OkI (gB G) (gl G) md_X12_links 0 0 [.ref (ad (gB G) o), .int (I (M1 (o + 15) (M1 o 25).toNat))] X M1 (fun r54 M2 => inR r54 → L_X12_spread_62 G X o a1 n1 x2 (M1 (o + 15) (M1 o 25).toNat) r54 (0 : Int) M2) NoX) ∧ (x2 = 0 → L_X12_spread_62 G X o a1 n1 x2 (M1 (o + 15) (M1 o 25).toNat) (1 : Int) (0 : Int) M1))))))))))))))
set_option maxRecDepth 100000 in
set_option maxHeartbeats 4000000 in
theorem go_X12_spread_7 {G : GT} {X : va_W} {Q : Mem → Prop} {E : String → Mem → Prop} {B : WB} {l : Launch} {k n : Nat} {o : Nat} {a1 : Nat} {n1 : Int} {x2 : Int} {M : Mem} (h : Ct G md_X12_spread X (oV Q E) B l k n) (ho : isHp o) (ha1 : Arr a1 100 n1) (kk : T_X12_spread_7 G X Q E o a1 n1 x2 M) : L_X12_spread_7 G X o a1 n1 x2 M := by
  obtain ⟨hC, hR, rfl, hgr, rfl⟩ := h
  unfold T_X12_spread_7 at kk
  unfold L_X12_spread_7
  refine V_aload_n hC 0 rfl dX12_spread_7 ?_
  refine V_gi hC fr_X12_139 (hp_i25 ho) dX12_spread_8 (fun z => ?_)
  replace kk := kk z
  obtain ⟨ha, k1, k2⟩ := kk
  refine V_if_le hC 101 rfl dX12_spread_11 ⟨ha, fun z => ?_, fun z => ?_⟩
  · replace kk := k1 z; clear k1 k2
    refine V_iconst hC dX12_spread_101 ?_
    refine V_istore_n hC (lv' := [(3, _), (0, _), (1, _), (2, _)]) (Nat.le_of_ble_eq_true rfl) rfl dX12_spread_102 ?_
    exact V_sub [1, 2, 3, 0] rfl kk
  · replace kk := k2 z; clear k1 k2
    refine V_aload_n hC 0 rfl dX12_spread_14 ?_
    refine V_dup hC rfl dX12_spread_15 ?_
    refine V_gi hC fr_X12_139 (hp_i25 ho) dX12_spread_16 (fun z => ?_)
    replace kk := kk z
    refine V_iconst hC dX12_spread_19 ?_
    refine V_isub hC dX12_spread_20 ?_
    obtain ⟨hv, kk⟩ := kk
    refine V_pi hC fk_X12_139 (hp_i25 ho) dX12_spread_21 hv ?_
    replace kk := kk _ rfl
    refine V_aload_n hC 0 rfl dX12_spread_24 ?_
    refine V_gr hC fr_X12_65 (hp_r23 ho) dX12_spread_25 ?_
    refine V_aload_n hC 0 rfl dX12_spread_28 ?_
    refine V_gi hC fr_X12_139 (hp_i25 ho) dX12_spread_29 (fun z => ?_)
    replace kk := kk z
    obtain ⟨hi, kk⟩ := kk
    refine V_il hC (hp_a15 ho) dX12_spread_32 hi (fun z => ?_)
    replace kk := kk z
    refine V_istore_n hC (lv' := [(3, _), (0, _), (1, _), (2, _)]) (Nat.le_of_ble_eq_true rfl) rfl dX12_spread_33 ?_
    refine V_aload_n hC 1 rfl dX12_spread_34 ?_
    refine V_gr hC fr_X12_26 (hp_r10 ho) dX12_spread_35 ?_
    refine V_iload_n hC 0 rfl dX12_spread_38 ?_
    obtain ⟨hi, kk⟩ := kk
    refine V_il hC (hp_a2 ho) dX12_spread_39 hi (fun z => ?_)
    replace kk := kk z
    refine V_iconst hC dX12_spread_40 ?_
    obtain ⟨ha, hb, k1, k2⟩ := kk
    refine V_icmp_ne hC 52 rfl dX12_spread_41 ⟨ha, hb, fun z => ?_, fun z => ?_⟩
    · replace kk := k1 z; clear k1 k2
      refine V_aload_n hC 1 rfl dX12_spread_52 ?_
      refine V_iload_n hC 0 rfl dX12_spread_53 ?_
      refine V_cVi hC (As := [_]) lv_X12_148 dX12_spread_54 (d0 := 2) (Nat.le_of_ble_eq_true rfl) (Rm_of hgr) (hp_v ho) rfl (Nat.le_of_ble_eq_true rfl) zk kk (fun r9 M9 z kk => ?_)
      replace kk := kk z
      refine V_istore hC (lv' := [(4, _), (3, _), (0, _), (1, _), (2, _)]) (Nat.le_of_ble_eq_true rfl) rfl dX12_spread_57 ?_
      refine V_iconst hC dX12_spread_59 ?_
      refine V_istore hC (lv' := [(5, _), (4, _), (3, _), (0, _), (1, _), (2, _)]) (Nat.le_of_ble_eq_true rfl) rfl dX12_spread_60 ?_
      exact V_sub [3, 4, 5, 2, 1, 0] rfl kk
    · replace kk := k2 z; clear k1 k2
      refine V_iload_n hC 3 rfl dX12_spread_44 ?_
      obtain ⟨ha, k1, k2⟩ := kk
      refine V_if_ne hC 52 rfl dX12_spread_45 ⟨ha, fun z => ?_, fun z => ?_⟩
      · replace kk := k1 z; clear k1 k2
        refine V_aload_n hC 1 rfl dX12_spread_52 ?_
        refine V_iload_n hC 0 rfl dX12_spread_53 ?_
        refine V_cVi hC (As := [_]) lv_X12_148 dX12_spread_54 (d0 := 2) (Nat.le_of_ble_eq_true rfl) (Rm_of hgr) (hp_v ho) rfl (Nat.le_of_ble_eq_true rfl) zk kk (fun r9 M9 z kk => ?_)
        replace kk := kk z
        refine V_istore hC (lv' := [(4, _), (3, _), (0, _), (1, _), (2, _)]) (Nat.le_of_ble_eq_true rfl) rfl dX12_spread_57 ?_
        refine V_iconst hC dX12_spread_59 ?_
        refine V_istore hC (lv' := [(5, _), (4, _), (3, _), (0, _), (1, _), (2, _)]) (Nat.le_of_ble_eq_true rfl) rfl dX12_spread_60 ?_
        exact V_sub [3, 4, 5, 2, 1, 0] rfl kk
      · replace kk := k2 z; clear k1 k2
        refine V_iconst hC dX12_spread_48 ?_
        refine V_goto hC 57 rfl dX12_spread_49 ?_
        refine V_istore hC (lv' := [(4, _), (3, _), (0, _), (1, _), (2, _)]) (Nat.le_of_ble_eq_true rfl) rfl dX12_spread_57 ?_
        refine V_iconst hC dX12_spread_59 ?_
        refine V_istore hC (lv' := [(5, _), (4, _), (3, _), (0, _), (1, _), (2, _)]) (Nat.le_of_ble_eq_true rfl) rfl dX12_spread_60 ?_
        exact V_sub [3, 4, 5, 2, 1, 0] rfl kk
def T_X12_spread_62 (G : GT) (X : va_W) (Q : Mem → Prop) (E : String → Mem → Prop) (o : Nat) (a1 : Nat) (n1 : Int) (x2 : Int) (x3 : Int) (x4 : Int) (x5 : Int) (M : Mem) : Prop := (inR x5 ∧ inR x4 ∧ (x4 ≤ x5 → L_X12_spread_7 G X o a1 n1 x2 M) ∧ (x5 < x4 → ((0 ≤ x3 ∧ x3 < 256) ∧ (inR (M (o + 4) x3.toNat) → ((0 ≤ ((M (o + 4) x3.toNat) + x5) ∧ ((M (o + 4) x3.toNat) + x5) < 2048) ∧ (inR (M (o + 7) ((M (o + 4) x3.toNat) + x5).toNat) → OkI (gB G) (gl G) md_X12_find 0 0 [.ref (ad (gB G) o), .int (I (M (o + 7) ((M (o + 4) x3.toNat) + x5).toNat))] X M (fun r86 M1 => inR r86 → OkV (gB G) (gl G) md_X12_mark 0 0 [.ref (ad (gB G) o), .ref (ad (gB G) a1), .int (I r86)] X M1 (fun M2 => L_X12_spread_62 G X o a1 n1 x2 x3 x4 (x5 + 1) M2) NoX) NoX))))))
set_option maxRecDepth 100000 in
set_option maxHeartbeats 4000000 in
theorem go_X12_spread_62 {G : GT} {X : va_W} {Q : Mem → Prop} {E : String → Mem → Prop} {B : WB} {l : Launch} {k n : Nat} {o : Nat} {a1 : Nat} {n1 : Int} {x2 : Int} {x3 : Int} {x4 : Int} {x5 : Int} {M : Mem} (h : Ct G md_X12_spread X (oV Q E) B l k n) (ho : isHp o) (ha1 : Arr a1 100 n1) (kk : T_X12_spread_62 G X Q E o a1 n1 x2 x3 x4 x5 M) : L_X12_spread_62 G X o a1 n1 x2 x3 x4 x5 M := by
  obtain ⟨hC, hR, rfl, hgr, rfl⟩ := h
  unfold T_X12_spread_62 at kk
  unfold L_X12_spread_62
  refine V_iload hC 5 rfl dX12_spread_62 ?_
  refine V_iload hC 4 rfl dX12_spread_64 ?_
  obtain ⟨ha, hb, k1, k2⟩ := kk
  refine V_icmp_ge hC 98 rfl dX12_spread_66 ⟨ha, hb, fun z => ?_, fun z => ?_⟩
  · replace kk := k1 z; clear k1 k2
    refine V_goto hC 7 rfl dX12_spread_98 ?_
    exact V_sub [0, 1, 2] rfl kk
  · replace kk := k2 z; clear k1 k2
    refine V_aload_n hC 0 rfl dX12_spread_69 ?_
    refine V_aload_n hC 1 rfl dX12_spread_70 ?_
    refine V_aload_n hC 0 rfl dX12_spread_71 ?_
    refine V_aload_n hC 0 rfl dX12_spread_72 ?_
    refine V_gr hC fr_X12_41 (hp_r15 ho) dX12_spread_73 ?_
    refine V_aload_n hC 0 rfl dX12_spread_76 ?_
    refine V_gr hC fr_X12_32 (hp_r12 ho) dX12_spread_77 ?_
    refine V_iload_n hC 3 rfl dX12_spread_80 ?_
    obtain ⟨hi, kk⟩ := kk
    refine V_il hC (hp_a4 ho) dX12_spread_81 hi (fun z => ?_)
    replace kk := kk z
    refine V_iload hC 5 rfl dX12_spread_82 ?_
    refine V_iadd hC dX12_spread_84 ?_
    obtain ⟨hi, kk⟩ := kk
    refine V_il hC (hp_a7 ho) dX12_spread_85 hi (fun z => ?_)
    replace kk := kk z
    refine V_cVi hC (As := [_]) lv_X12_142 dX12_spread_86 (d0 := 2) (Nat.le_of_ble_eq_true rfl) (Rm_of hgr) (hp_v ho) rfl (Nat.le_of_ble_eq_true rfl) zk kk (fun r9 M9 z kk => ?_)
    replace kk := kk z
    refine V_cVv hC (As := [_, _]) lv_X12_145 dX12_spread_89 (d0 := 2) (Nat.le_of_ble_eq_true rfl) (Rm_of hgr) (hp_v ho) rfl (Nat.le_of_ble_eq_true rfl) zk kk (fun M9 kk => ?_)
    refine V_iinc hC (lv' := [(5, _), (0, _), (1, _), (2, _), (3, _), (4, _)]) 5 rfl (Nat.le_of_ble_eq_true rfl) rfl dX12_spread_92 ?_
    refine V_goto hC 62 rfl dX12_spread_95 ?_
    exact V_sub [1, 2, 3, 4, 5, 0] rfl kk
def T_X12_spread_103 (G : GT) (X : va_W) (Q : Mem → Prop) (E : String → Mem → Prop) (o : Nat) (a1 : Nat) (n1 : Int) (x2 : Int) (x3 : Int) (M : Mem) : Prop := (inR (M o 0) → (inR x3 ∧ inR (M o 0) ∧ ((M o 0) ≤ x3 → L_X12_spread_0 G X o a1 n1 x2 M) ∧ (x3 < (M o 0) → ((0 ≤ x3 ∧ x3 < 256) ∧ (inR (M (o + 2) x3.toNat) → (inR (M (o + 2) x3.toNat) ∧ inR (6 : Int) ∧ ((M (o + 2) x3.toNat) ≠ (6 : Int) → L_X12_spread_103 G X o a1 n1 x2 (x3 + 1) M) ∧ ((M (o + 2) x3.toNat) = (6 : Int) → ((0 ≤ x3 ∧ x3 < n1) ∧ (inR (M a1 x3.toNat) → (inR (M a1 x3.toNat) ∧ inR (1 : Int) ∧ ((M a1 x3.toNat) ≠ (1 : Int) → L_X12_spread_103 G X o a1 n1 x2 (x3 + 1) M) ∧ ((M a1 x3.toNat) = (1 : Int) → OkV (gB G) (gl G) md_X12_values 0 0 [.ref (ad (gB G) o), .ref (ad (gB G) a1), .int (I x3)] X M (fun M1 => L_X12_spread_103 G X o a1 n1 x2 (x3 + 1) M1) NoX)))))))))))
set_option maxRecDepth 100000 in
set_option maxHeartbeats 4000000 in
theorem go_X12_spread_103 {G : GT} {X : va_W} {Q : Mem → Prop} {E : String → Mem → Prop} {B : WB} {l : Launch} {k n : Nat} {o : Nat} {a1 : Nat} {n1 : Int} {x2 : Int} {x3 : Int} {M : Mem} (h : Ct G md_X12_spread X (oV Q E) B l k n) (ho : isHp o) (ha1 : Arr a1 100 n1) (kk : T_X12_spread_103 G X Q E o a1 n1 x2 x3 M) : L_X12_spread_103 G X o a1 n1 x2 x3 M := by
  obtain ⟨hC, hR, rfl, hgr, rfl⟩ := h
  unfold T_X12_spread_103 at kk
  unfold L_X12_spread_103
  refine V_iload_n hC 3 rfl dX12_spread_103 ?_
  refine V_aload_n hC 0 rfl dX12_spread_104 ?_
  refine V_gi hC fr_X12_80 (hp_i0 ho) dX12_spread_105 (fun z => ?_)
  replace kk := kk z
  obtain ⟨ha, hb, k1, k2⟩ := kk
  refine V_icmp_ge hC 141 rfl dX12_spread_108 ⟨ha, hb, fun z => ?_, fun z => ?_⟩
  · replace kk := k1 z; clear k1 k2
    refine V_goto hC 0 rfl dX12_spread_141 ?_
    exact V_sub [0, 1, 2] rfl kk
  · replace kk := k2 z; clear k1 k2
    refine V_aload_n hC 0 rfl dX12_spread_111 ?_
    refine V_gr hC fr_X12_26 (hp_r10 ho) dX12_spread_112 ?_
    refine V_iload_n hC 3 rfl dX12_spread_115 ?_
    obtain ⟨hi, kk⟩ := kk
    refine V_il hC (hp_a2 ho) dX12_spread_116 hi (fun z => ?_)
    replace kk := kk z
    refine V_bipush hC (d := dX12_spread_117) rfl ?_
    obtain ⟨ha, hb, k1, k2⟩ := kk
    refine V_icmp_ne hC 135 rfl dX12_spread_119 ⟨ha, hb, fun z => ?_, fun z => ?_⟩
    · replace kk := k1 z; clear k1 k2
      refine V_iinc hC (lv' := [(3, _), (0, _), (1, _), (2, _)]) 3 rfl (Nat.le_of_ble_eq_true rfl) rfl dX12_spread_135 ?_
      refine V_goto hC 103 rfl dX12_spread_138 ?_
      exact V_sub [1, 2, 3, 0] rfl kk
    · replace kk := k2 z; clear k1 k2
      refine V_aload_n hC 1 rfl dX12_spread_122 ?_
      refine V_iload_n hC 3 rfl dX12_spread_123 ?_
      obtain ⟨hi, kk⟩ := kk
      refine V_il hC ha1 dX12_spread_124 hi (fun z => ?_)
      replace kk := kk z
      refine V_iconst hC dX12_spread_125 ?_
      obtain ⟨ha, hb, k1, k2⟩ := kk
      refine V_icmp_ne hC 135 rfl dX12_spread_126 ⟨ha, hb, fun z => ?_, fun z => ?_⟩
      · replace kk := k1 z; clear k1 k2
        refine V_iinc hC (lv' := [(3, _), (0, _), (1, _), (2, _)]) 3 rfl (Nat.le_of_ble_eq_true rfl) rfl dX12_spread_135 ?_
        refine V_goto hC 103 rfl dX12_spread_138 ?_
        exact V_sub [1, 2, 3, 0] rfl kk
      · replace kk := k2 z; clear k1 k2
        refine V_aload_n hC 0 rfl dX12_spread_129 ?_
        refine V_aload_n hC 1 rfl dX12_spread_130 ?_
        refine V_iload_n hC 3 rfl dX12_spread_131 ?_
        refine V_cVv hC (As := [_, _]) lv_X12_151 dX12_spread_132 (d0 := 2) (Nat.le_of_ble_eq_true rfl) (Rm_of hgr) (hp_v ho) rfl (Nat.le_of_ble_eq_true rfl) zk kk (fun M9 kk => ?_)
        refine V_iinc hC (lv' := [(3, _), (0, _), (1, _), (2, _)]) 3 rfl (Nat.le_of_ble_eq_true rfl) rfl dX12_spread_135 ?_
        refine V_goto hC 103 rfl dX12_spread_138 ?_
        exact V_sub [1, 2, 3, 0] rfl kk
theorem ok_X12_spread {B : WB} {l : Launch} {k n : Nat} {X : va_W} {M : Mem} {Q : Mem → Prop} {E : String → Mem → Prop} {o : Nat} {a1 : Nat} {n1 : Int} {x2 : Int} (hl : l.stackTraces = false) (body : ∀ G : GT, Ct G md_X12_spread X (oV Q E) B l k n → L_X12_spread_0 G X o a1 n1 x2 M) : OkV B l md_X12_spread k n [.ref (ad B o), .ref (ad B a1), .int (I x2)] X M Q E :=
  Ok_of mk_X12_spread hl (Nat.le_of_ble_eq_true rfl) (fun G h => by have hb := body G h; obtain ⟨-, -, rfl, -, -⟩ := h; exact hb)
def L_X12_values_0 (G : GT) (X : va_W) (o : Nat) (a1 : Nat) (n1 : Int) (x2 : Int) (M : Mem) : Prop := V G md_X12_values 0 0 X M 0 [(0, .ref (ad (gB G) o)), (1, .ref (ad (gB G) a1)), (2, .int (I x2))] []
def L_X12_values_7 (G : GT) (X : va_W) (o : Nat) (a1 : Nat) (n1 : Int) (x2 : Int) (x3 : Int) (M : Mem) : Prop := V G md_X12_values 0 0 X M 7 [(0, .ref (ad (gB G) o)), (1, .ref (ad (gB G) a1)), (2, .int (I x2)), (3, .int (I x3))] []
def T_X12_values_0 (G : GT) (X : va_W) (Q : Mem → Prop) (E : String → Mem → Prop) (o : Nat) (a1 : Nat) (n1 : Int) (x2 : Int) (M : Mem) : Prop := ((0 ≤ x2 ∧ x2 < 256) ∧ (inR (M (o + 4) x2.toNat) → L_X12_values_7 G X o a1 n1 x2 (M (o + 4) x2.toNat) M))
set_option maxRecDepth 100000 in
set_option maxHeartbeats 4000000 in
theorem go_X12_values_0 {G : GT} {X : va_W} {Q : Mem → Prop} {E : String → Mem → Prop} {B : WB} {l : Launch} {k n : Nat} {o : Nat} {a1 : Nat} {n1 : Int} {x2 : Int} {M : Mem} (h : Ct G md_X12_values X (oV Q E) B l k n) (ho : isHp o) (ha1 : Arr a1 100 n1) (kk : T_X12_values_0 G X Q E o a1 n1 x2 M) : L_X12_values_0 G X o a1 n1 x2 M := by
  obtain ⟨hC, hR, rfl, hgr, rfl⟩ := h
  unfold T_X12_values_0 at kk
  unfold L_X12_values_0
  refine V_aload_n hC 0 rfl dX12_values_0 ?_
  refine V_gr hC fr_X12_32 (hp_r12 ho) dX12_values_1 ?_
  refine V_iload_n hC 2 rfl dX12_values_4 ?_
  obtain ⟨hi, kk⟩ := kk
  refine V_il hC (hp_a4 ho) dX12_values_5 hi (fun z => ?_)
  replace kk := kk z
  refine V_istore_n hC (lv' := [(3, _), (0, _), (1, _), (2, _)]) (Nat.le_of_ble_eq_true rfl) rfl dX12_values_6 ?_
  exact V_sub [1, 2, 3, 0] rfl kk
def T_X12_values_7 (G : GT) (X : va_W) (Q : Mem → Prop) (E : String → Mem → Prop) (o : Nat) (a1 : Nat) (n1 : Int) (x2 : Int) (x3 : Int) (M : Mem) : Prop := ((0 ≤ x2 ∧ x2 < 256) ∧ (inR (M (o + 4) x2.toNat) → ((0 ≤ x2 ∧ x2 < 256) ∧ (inR (M (o + 3) x2.toNat) → (inR x3 ∧ inR ((M (o + 4) x2.toNat) + ((2 : Int) * (M (o + 3) x2.toNat))) ∧ (((M (o + 4) x2.toNat) + ((2 : Int) * (M (o + 3) x2.toNat))) ≤ x3 → Q M) ∧ (x3 < ((M (o + 4) x2.toNat) + ((2 : Int) * (M (o + 3) x2.toNat))) → ((0 ≤ x3 ∧ x3 < 2048) ∧ (inR (M (o + 7) x3.toNat) → OkI (gB G) (gl G) md_X12_find 0 0 [.ref (ad (gB G) o), .int (I (M (o + 7) x3.toNat))] X M (fun r33 M1 => inR r33 → (inR r33 ∧ inR (-1 : Int) ∧ (r33 = (-1 : Int) → L_X12_values_7 G X o a1 n1 x2 (x3 + 2) M1) ∧ (r33 ≠ (-1 : Int) → ((0 ≤ r33 ∧ r33 < n1) ∧ (inR (M1 a1 r33.toNat) → (inR (M1 a1 r33.toNat) ∧ inR (1 : Int) ∧ ((M1 a1 r33.toNat) ≠ (1 : Int) → L_X12_values_7 G X o a1 n1 x2 (x3 + 2) M1) ∧ ((M1 a1 r33.toNat) = (1 : Int) → ((0 ≤ (x3 + (1 : Int)) ∧ (x3 + (1 : Int)) < 2048) ∧ (inR (M1 (o + 7) (x3 + (1 : Int)).toNat) → OkI (gB G) (gl G) md_X12_find 0 0 [.ref (ad (gB G) o), .int (I (M1 (o + 7) (x3 + (1 : Int)).toNat))] X M1 (fun r63 M2 => inR r63 → OkV (gB G) (gl G) md_X12_mark 0 0 [.ref (ad (gB G) o), .ref (ad (gB G) a1), .int (I r63)] X M2 (fun M3 => L_X12_values_7 G X o a1 n1 x2 (x3 + 2) M3) NoX) NoX))))))))) NoX))))))))
set_option maxRecDepth 100000 in
set_option maxHeartbeats 4000000 in
theorem go_X12_values_7 {G : GT} {X : va_W} {Q : Mem → Prop} {E : String → Mem → Prop} {B : WB} {l : Launch} {k n : Nat} {o : Nat} {a1 : Nat} {n1 : Int} {x2 : Int} {x3 : Int} {M : Mem} (h : Ct G md_X12_values X (oV Q E) B l k n) (ho : isHp o) (ha1 : Arr a1 100 n1) (kk : T_X12_values_7 G X Q E o a1 n1 x2 x3 M) : L_X12_values_7 G X o a1 n1 x2 x3 M := by
  obtain ⟨hC, hR, rfl, hgr, rfl⟩ := h
  unfold T_X12_values_7 at kk
  unfold L_X12_values_7
  refine V_iload_n hC 3 rfl dX12_values_7 ?_
  refine V_aload_n hC 0 rfl dX12_values_8 ?_
  refine V_gr hC fr_X12_32 (hp_r12 ho) dX12_values_9 ?_
  refine V_iload_n hC 2 rfl dX12_values_12 ?_
  obtain ⟨hi, kk⟩ := kk
  refine V_il hC (hp_a4 ho) dX12_values_13 hi (fun z => ?_)
  replace kk := kk z
  refine V_iconst hC dX12_values_14 ?_
  refine V_aload_n hC 0 rfl dX12_values_15 ?_
  refine V_gr hC fr_X12_29 (hp_r11 ho) dX12_values_16 ?_
  refine V_iload_n hC 2 rfl dX12_values_19 ?_
  obtain ⟨hi, kk⟩ := kk
  refine V_il hC (hp_a3 ho) dX12_values_20 hi (fun z => ?_)
  replace kk := kk z
  refine V_imul hC dX12_values_21 ?_
  refine V_iadd hC dX12_values_22 ?_
  obtain ⟨ha, hb, k1, k2⟩ := kk
  refine V_icmp_ge hC 75 rfl dX12_values_23 ⟨ha, hb, fun z => ?_, fun z => ?_⟩
  · replace kk := k1 z; clear k1 k2
    exact V_vret hC hR rfl zk dX12_values_75 ⟨rfl, kk⟩
  · replace kk := k2 z; clear k1 k2
    refine V_aload_n hC 0 rfl dX12_values_26 ?_
    refine V_aload_n hC 0 rfl dX12_values_27 ?_
    refine V_gr hC fr_X12_41 (hp_r15 ho) dX12_values_28 ?_
    refine V_iload_n hC 3 rfl dX12_values_31 ?_
    obtain ⟨hi, kk⟩ := kk
    refine V_il hC (hp_a7 ho) dX12_values_32 hi (fun z => ?_)
    replace kk := kk z
    refine V_cVi hC (As := [_]) lv_X12_142 dX12_values_33 (d0 := 1) (Nat.le_of_ble_eq_true rfl) (Rm_of hgr) (hp_v ho) rfl (Nat.le_of_ble_eq_true rfl) zk kk (fun r9 M9 z kk => ?_)
    replace kk := kk z
    refine V_istore hC (lv' := [(4, _), (0, _), (1, _), (2, _), (3, _)]) (Nat.le_of_ble_eq_true rfl) rfl dX12_values_36 ?_
    refine V_iload hC 0 rfl dX12_values_38 ?_
    refine V_iconst hC dX12_values_40 ?_
    obtain ⟨ha, hb, k1, k2⟩ := kk
    refine V_icmp_eq hC 69 rfl dX12_values_41 ⟨ha, hb, fun z => ?_, fun z => ?_⟩
    · replace kk := k1 z; clear k1 k2
      refine V_iinc hC (lv' := [(3, _), (4, _), (0, _), (1, _), (2, _)]) 4 rfl (Nat.le_of_ble_eq_true rfl) rfl dX12_values_69 ?_
      refine V_goto hC 7 rfl dX12_values_72 ?_
      exact V_sub [2, 3, 4, 0] rfl kk
    · replace kk := k2 z; clear k1 k2
      refine V_aload_n hC 2 rfl dX12_values_44 ?_
      refine V_iload hC 0 rfl dX12_values_45 ?_
      obtain ⟨hi, kk⟩ := kk
      refine V_il hC ha1 dX12_values_47 hi (fun z => ?_)
      replace kk := kk z
      refine V_iconst hC dX12_values_48 ?_
      obtain ⟨ha, hb, k1, k2⟩ := kk
      refine V_icmp_ne hC 69 rfl dX12_values_49 ⟨ha, hb, fun z => ?_, fun z => ?_⟩
      · replace kk := k1 z; clear k1 k2
        refine V_iinc hC (lv' := [(3, _), (4, _), (0, _), (1, _), (2, _)]) 4 rfl (Nat.le_of_ble_eq_true rfl) rfl dX12_values_69 ?_
        refine V_goto hC 7 rfl dX12_values_72 ?_
        exact V_sub [2, 3, 4, 0] rfl kk
      · replace kk := k2 z; clear k1 k2
        refine V_aload_n hC 1 rfl dX12_values_52 ?_
        refine V_aload_n hC 2 rfl dX12_values_53 ?_
        refine V_aload_n hC 1 rfl dX12_values_54 ?_
        refine V_aload_n hC 1 rfl dX12_values_55 ?_
        refine V_gr hC fr_X12_41 (hp_r15 ho) dX12_values_56 ?_
        refine V_iload_n hC 4 rfl dX12_values_59 ?_
        refine V_iconst hC dX12_values_60 ?_
        refine V_iadd hC dX12_values_61 ?_
        obtain ⟨hi, kk⟩ := kk
        refine V_il hC (hp_a7 ho) dX12_values_62 hi (fun z => ?_)
        replace kk := kk z
        refine V_cVi hC (As := [_]) lv_X12_142 dX12_values_63 (d0 := 1) (Nat.le_of_ble_eq_true rfl) (Rm_of hgr) (hp_v ho) rfl (Nat.le_of_ble_eq_true rfl) zk kk (fun r9 M9 z kk => ?_)
        replace kk := kk z
        refine V_cVv hC (As := [_, _]) lv_X12_145 dX12_values_66 (d0 := 1) (Nat.le_of_ble_eq_true rfl) (Rm_of hgr) (hp_v ho) rfl (Nat.le_of_ble_eq_true rfl) zk kk (fun M9 kk => ?_)
        refine V_iinc hC (lv' := [(3, _), (4, _), (0, _), (1, _), (2, _)]) 4 rfl (Nat.le_of_ble_eq_true rfl) rfl dX12_values_69 ?_
        refine V_goto hC 7 rfl dX12_values_72 ?_
        exact V_sub [2, 3, 4, 0] rfl kk
theorem ok_X12_values {B : WB} {l : Launch} {k n : Nat} {X : va_W} {M : Mem} {Q : Mem → Prop} {E : String → Mem → Prop} {o : Nat} {a1 : Nat} {n1 : Int} {x2 : Int} (hl : l.stackTraces = false) (body : ∀ G : GT, Ct G md_X12_values X (oV Q E) B l k n → L_X12_values_0 G X o a1 n1 x2 M) : OkV B l md_X12_values k n [.ref (ad B o), .ref (ad B a1), .int (I x2)] X M Q E :=
  Ok_of mk_X12_values hl (Nat.le_of_ble_eq_true rfl) (fun G h => by have hb := body G h; obtain ⟨-, -, rfl, -, -⟩ := h; exact hb)
def L_X12_reach_0 (G : GT) (X : va_W) (o : Nat) (a1 : Nat) (n1 : Int) (x2 : Int) (M : Mem) : Prop := V G md_X12_reach 0 0 X M 0 [(0, .ref (ad (gB G) o)), (1, .ref (ad (gB G) a1)), (2, .int (I x2))] []
def T_X12_reach_0 (G : GT) (X : va_W) (Q : Nat → Mem → Prop) (E : String → Mem → Prop) (o : Nat) (a1 : Nat) (n1 : Int) (x2 : Int) (M : Mem) : Prop := OkV (gB G) (gl G) md_X12_none 0 0 [.ref (ad (gB G) o), .ref (ad (gB G) a1)] X M (fun M1 => OkV (gB G) (gl G) md_X12_markRoots 0 0 [.ref (ad (gB G) o), .ref (ad (gB G) a1)] X M1 (fun M2 => OkV (gB G) (gl G) md_X12_spread 0 0 [.ref (ad (gB G) o), .ref (ad (gB G) a1), .int (I x2)] X M2 (fun M3 => Q a1 M3) NoX) NoX) NoX
set_option maxRecDepth 100000 in
set_option maxHeartbeats 4000000 in
theorem go_X12_reach_0 {G : GT} {X : va_W} {Q : Nat → Mem → Prop} {E : String → Mem → Prop} {B : WB} {l : Launch} {k n : Nat} {o : Nat} {a1 : Nat} {n1 : Int} {x2 : Int} {M : Mem} (h : Ct G md_X12_reach X (oR B Q E) B l k n) (ho : isHp o) (ha1 : Arr a1 100 n1) (kk : T_X12_reach_0 G X Q E o a1 n1 x2 M) : L_X12_reach_0 G X o a1 n1 x2 M := by
  obtain ⟨hC, hR, rfl, hgr, rfl⟩ := h
  unfold T_X12_reach_0 at kk
  unfold L_X12_reach_0
  refine V_aload_n hC 0 rfl dX12_reach_0 ?_
  refine V_aload_n hC 1 rfl dX12_reach_1 ?_
  refine V_cVv hC (As := [_]) lv_X12_107 dX12_reach_2 (d0 := 3) (Nat.le_of_ble_eq_true rfl) (Rm_of hgr) (hp_v ho) rfl (Nat.le_of_ble_eq_true rfl) zk kk (fun M9 kk => ?_)
  refine V_aload_n hC 0 rfl dX12_reach_5 ?_
  refine V_aload_n hC 1 rfl dX12_reach_6 ?_
  refine V_cVv hC (As := [_]) lv_X12_154 dX12_reach_7 (d0 := 3) (Nat.le_of_ble_eq_true rfl) (Rm_of hgr) (hp_v ho) rfl (Nat.le_of_ble_eq_true rfl) zk kk (fun M9 kk => ?_)
  refine V_aload_n hC 0 rfl dX12_reach_10 ?_
  refine V_aload_n hC 1 rfl dX12_reach_11 ?_
  refine V_iload_n hC 2 rfl dX12_reach_12 ?_
  refine V_cVv hC (As := [_, _]) lv_X12_157 dX12_reach_13 (d0 := 3) (Nat.le_of_ble_eq_true rfl) (Rm_of hgr) (hp_v ho) rfl (Nat.le_of_ble_eq_true rfl) zk kk (fun M9 kk => ?_)
  refine V_aload_n hC 1 rfl dX12_reach_16 ?_
  exact V_aret hC hR rfl (Or.inr ⟨_, rfl⟩) zk dX12_reach_17 ⟨_, rfl, kk⟩
theorem ok_X12_reach {B : WB} {l : Launch} {k n : Nat} {X : va_W} {M : Mem} {Q : Nat → Mem → Prop} {E : String → Mem → Prop} {o : Nat} {a1 : Nat} {n1 : Int} {x2 : Int} (hl : l.stackTraces = false) (body : ∀ G : GT, Ct G md_X12_reach X (oR B Q E) B l k n → L_X12_reach_0 G X o a1 n1 x2 M) : OkR B l md_X12_reach k n [.ref (ad B o), .ref (ad B a1), .int (I x2)] X M Q E :=
  Ok_of mk_X12_reach hl (Nat.le_of_ble_eq_true rfl) (fun G h => by have hb := body G h; obtain ⟨-, -, rfl, -, -⟩ := h; exact hb)
def L_X12_reachedWords_0 (G : GT) (X : va_W) (o : Nat) (x1 : Int) (M : Mem) : Prop := V G md_X12_reachedWords 0 0 X M 0 [(0, .ref (ad (gB G) o)), (1, .int (I x1))] []
def L_X12_reachedWords_24 (G : GT) (X : va_W) (o : Nat) (x2 : Int) (x3 : Int) (M : Mem) : Prop := V G md_X12_reachedWords 0 0 X M 24 [(0, .ref (ad (gB G) o)), (2, .int (I x2)), (3, .int (I x3))] []
def T_X12_reachedWords_0 (G : GT) (X : va_W) (Q : Int → Mem → Prop) (E : String → Mem → Prop) (o : Nat) (x1 : Int) (M : Mem) : Prop := (inR x1 ∧ ∀ M1 : Mem, M1 = up M o 26 x1 → OkR (gB G) (gl G) md_X12_reach 0 0 [.ref (ad (gB G) o), .ref (ad (gB G) (o + 13)), .int (I (0 : Int))] X M1 (fun r11 M2 => r11 = (o + 13) ∧ (inR (-1 : Int) ∧ ∀ M3 : Mem, M3 = up M2 o 26 (-1 : Int) → L_X12_reachedWords_24 G X o (0 : Int) (0 : Int) M3)) NoX)
set_option maxRecDepth 100000 in
set_option maxHeartbeats 4000000 in
theorem go_X12_reachedWords_0 {G : GT} {X : va_W} {Q : Int → Mem → Prop} {E : String → Mem → Prop} {B : WB} {l : Launch} {k n : Nat} {o : Nat} {x1 : Int} {M : Mem} (h : Ct G md_X12_reachedWords X (oI Q E) B l k n) (ho : isHp o) (kk : T_X12_reachedWords_0 G X Q E o x1 M) : L_X12_reachedWords_0 G X o x1 M := by
  obtain ⟨hC, hR, rfl, hgr, rfl⟩ := h
  unfold T_X12_reachedWords_0 at kk
  unfold L_X12_reachedWords_0
  refine V_aload_n hC 0 rfl dX12_reachedWords_0 ?_
  refine V_iload_n hC 1 rfl dX12_reachedWords_1 ?_
  obtain ⟨hv, kk⟩ := kk
  refine V_pi hC fk_X12_71 (hp_i26 ho) dX12_reachedWords_2 hv ?_
  replace kk := kk _ rfl
  refine V_aload_n hC 0 rfl dX12_reachedWords_5 ?_
  refine V_aload_n hC 0 rfl dX12_reachedWords_6 ?_
  refine V_gr hC fr_X12_59 (hp_r21 ho) dX12_reachedWords_7 ?_
  refine V_iconst hC dX12_reachedWords_10 ?_
  refine V_cVr hC (As := [_, _]) lv_X12_161 dX12_reachedWords_11 (d0 := 4) (Nat.le_of_ble_eq_true rfl) (Rm_of hgr) (hp_v ho) rfl (Nat.le_of_ble_eq_true rfl) zk kk (fun r9 M9 kk => ?_)
  obtain ⟨rfl, kk⟩ := kk
  refine V_pop hC rfl dX12_reachedWords_14 ?_
  refine V_aload_n hC 0 rfl dX12_reachedWords_15 ?_
  refine V_iconst hC dX12_reachedWords_16 ?_
  obtain ⟨hv, kk⟩ := kk
  refine V_pi hC fk_X12_71 (hp_i26 ho) dX12_reachedWords_17 hv ?_
  replace kk := kk _ rfl
  refine V_iconst hC dX12_reachedWords_20 ?_
  refine V_istore_n hC (lv' := [(2, _), (0, _), (1, _)]) (Nat.le_of_ble_eq_true rfl) rfl dX12_reachedWords_21 ?_
  refine V_iconst hC dX12_reachedWords_22 ?_
  refine V_istore_n hC (lv' := [(3, _), (2, _), (0, _), (1, _)]) (Nat.le_of_ble_eq_true rfl) rfl dX12_reachedWords_23 ?_
  exact V_sub [2, 1, 0] rfl kk
def T_X12_reachedWords_24 (G : GT) (X : va_W) (Q : Int → Mem → Prop) (E : String → Mem → Prop) (o : Nat) (x2 : Int) (x3 : Int) (M : Mem) : Prop := (inR (M o 0) → (inR x3 ∧ inR (M o 0) ∧ ((M o 0) ≤ x3 → (inR x2 ∧ Q x2 M)) ∧ (x3 < (M o 0) → ((0 ≤ x3 ∧ x3 < 256) ∧ (inR (M (o + 13) x3.toNat) → (inR (M (o + 13) x3.toNat) ∧ inR (1 : Int) ∧ ((M (o + 13) x3.toNat) ≠ (1 : Int) → L_X12_reachedWords_24 G X o (x2 + (0 : Int)) (x3 + 1) M) ∧ ((M (o + 13) x3.toNat) = (1 : Int) → OkI (gB G) (gl G) md_X12_wordsOf 0 0 [.ref (ad (gB G) o), .int (I x3)] X M (fun r45 M1 => inR r45 → L_X12_reachedWords_24 G X o (x2 + r45) (x3 + 1) M1) NoX)))))))
set_option maxRecDepth 100000 in
set_option maxHeartbeats 4000000 in
theorem go_X12_reachedWords_24 {G : GT} {X : va_W} {Q : Int → Mem → Prop} {E : String → Mem → Prop} {B : WB} {l : Launch} {k n : Nat} {o : Nat} {x2 : Int} {x3 : Int} {M : Mem} (h : Ct G md_X12_reachedWords X (oI Q E) B l k n) (ho : isHp o) (kk : T_X12_reachedWords_24 G X Q E o x2 x3 M) : L_X12_reachedWords_24 G X o x2 x3 M := by
  obtain ⟨hC, hR, rfl, hgr, rfl⟩ := h
  unfold T_X12_reachedWords_24 at kk
  unfold L_X12_reachedWords_24
  refine V_iload_n hC 2 rfl dX12_reachedWords_24 ?_
  refine V_aload_n hC 0 rfl dX12_reachedWords_25 ?_
  refine V_gi hC fr_X12_80 (hp_i0 ho) dX12_reachedWords_26 (fun z => ?_)
  replace kk := kk z
  obtain ⟨ha, hb, k1, k2⟩ := kk
  refine V_icmp_ge hC 60 rfl dX12_reachedWords_29 ⟨ha, hb, fun z => ?_, fun z => ?_⟩
  · replace kk := k1 z; clear k1 k2
    refine V_iload_n hC 1 rfl dX12_reachedWords_60 ?_
    obtain ⟨hr, kk⟩ := kk
    exact V_iret hC hR (ty := .int) rfl rfl zk dX12_reachedWords_61 ⟨_, rfl, hr, kk⟩
  · replace kk := k2 z; clear k1 k2
    refine V_iload_n hC 1 rfl dX12_reachedWords_32 ?_
    refine V_aload_n hC 0 rfl dX12_reachedWords_33 ?_
    refine V_gr hC fr_X12_59 (hp_r21 ho) dX12_reachedWords_34 ?_
    refine V_iload_n hC 2 rfl dX12_reachedWords_37 ?_
    obtain ⟨hi, kk⟩ := kk
    refine V_il hC (hp_a13 ho) dX12_reachedWords_38 hi (fun z => ?_)
    replace kk := kk z
    refine V_iconst hC dX12_reachedWords_39 ?_
    obtain ⟨ha, hb, k1, k2⟩ := kk
    refine V_icmp_ne hC 51 rfl dX12_reachedWords_40 ⟨ha, hb, fun z => ?_, fun z => ?_⟩
    · replace kk := k1 z; clear k1 k2
      refine V_iconst hC dX12_reachedWords_51 ?_
      refine V_iadd hC dX12_reachedWords_52 ?_
      refine V_istore_n hC (lv' := [(2, _), (0, _), (3, _)]) (Nat.le_of_ble_eq_true rfl) rfl dX12_reachedWords_53 ?_
      refine V_iinc hC (lv' := [(3, _), (2, _), (0, _)]) 2 rfl (Nat.le_of_ble_eq_true rfl) rfl dX12_reachedWords_54 ?_
      refine V_goto hC 24 rfl dX12_reachedWords_57 ?_
      exact V_sub [2, 1, 0] rfl kk
    · replace kk := k2 z; clear k1 k2
      refine V_aload_n hC 0 rfl dX12_reachedWords_43 ?_
      refine V_iload_n hC 2 rfl dX12_reachedWords_44 ?_
      refine V_cVi hC (As := [_]) lv_X12_122 dX12_reachedWords_45 (d0 := 4) (Nat.le_of_ble_eq_true rfl) (Rm_of hgr) (hp_v ho) rfl (Nat.le_of_ble_eq_true rfl) zk kk (fun r9 M9 z kk => ?_)
      replace kk := kk z
      refine V_goto hC 52 rfl dX12_reachedWords_48 ?_
      refine V_iadd hC dX12_reachedWords_52 ?_
      refine V_istore_n hC (lv' := [(2, _), (0, _), (3, _)]) (Nat.le_of_ble_eq_true rfl) rfl dX12_reachedWords_53 ?_
      refine V_iinc hC (lv' := [(3, _), (2, _), (0, _)]) 2 rfl (Nat.le_of_ble_eq_true rfl) rfl dX12_reachedWords_54 ?_
      refine V_goto hC 24 rfl dX12_reachedWords_57 ?_
      exact V_sub [2, 1, 0] rfl kk
theorem ok_X12_reachedWords {B : WB} {l : Launch} {k n : Nat} {X : va_W} {M : Mem} {Q : Int → Mem → Prop} {E : String → Mem → Prop} {o : Nat} {x1 : Int} (hl : l.stackTraces = false) (body : ∀ G : GT, Ct G md_X12_reachedWords X (oI Q E) B l k n → L_X12_reachedWords_0 G X o x1 M) : OkI B l md_X12_reachedWords k n [.ref (ad B o), .int (I x1)] X M Q E :=
  Ok_of mk_X12_reachedWords hl (Nat.le_of_ble_eq_true rfl) (fun G h => by have hb := body G h; obtain ⟨-, -, rfl, -, -⟩ := h; exact hb)
def L_X12_heaviest_0 (G : GT) (X : va_W) (o : Nat) (M : Mem) : Prop := V G md_X12_heaviest 0 0 X M 0 [(0, .ref (ad (gB G) o))] []
def L_X12_heaviest_30 (G : GT) (X : va_W) (o : Nat) (x1 : Int) (x2 : Int) (x3 : Int) (x4 : Int) (M : Mem) : Prop := V G md_X12_heaviest 0 0 X M 30 [(0, .ref (ad (gB G) o)), (1, .int (I x1)), (2, .int (I x2)), (3, .int (I x3)), (4, .int (I x4))] []
def T_X12_heaviest_0 (G : GT) (X : va_W) (Q : Int → Mem → Prop) (E : String → Mem → Prop) (o : Nat) (M : Mem) : Prop := OkI (gB G) (gl G) md_X12_reachedWords 0 0 [.ref (ad (gB G) o), .int (I (-1 : Int))] X M (fun r2 M1 => inR r2 → (inR (M1 o 0) → ((0 ≤ (0 : Int) ∧ 0 ≤ (0 : Int) ∧ 0 ≤ (M1 o 0) ∧ (0 : Int) + (M1 o 0) ≤ 256 ∧ (0 : Int) + (M1 o 0) ≤ 256) ∧ ∀ M2 : Mem, M2 = cpM M1 (o + 13) (0 : Int).toNat (o + 14) (0 : Int).toNat (M1 o 0).toNat → L_X12_heaviest_30 G X o r2 (-1 : Int) (0 : Int) (0 : Int) M2))) NoX
set_option maxRecDepth 100000 in
set_option maxHeartbeats 4000000 in
theorem go_X12_heaviest_0 {G : GT} {X : va_W} {Q : Int → Mem → Prop} {E : String → Mem → Prop} {B : WB} {l : Launch} {k n : Nat} {o : Nat} {M : Mem} (h : Ct G md_X12_heaviest X (oI Q E) B l k n) (ho : isHp o) (kk : T_X12_heaviest_0 G X Q E o M) : L_X12_heaviest_0 G X o M := by
  obtain ⟨hC, hR, rfl, hgr, rfl⟩ := h
  unfold T_X12_heaviest_0 at kk
  unfold L_X12_heaviest_0
  refine V_aload_n hC 0 rfl dX12_heaviest_0 ?_
  refine V_iconst hC dX12_heaviest_1 ?_
  refine V_cVi hC (As := [_]) lv_X12_165 dX12_heaviest_2 (d0 := 5) (Nat.le_of_ble_eq_true rfl) (Rm_of hgr) (hp_v ho) rfl (Nat.le_of_ble_eq_true rfl) zk kk (fun r9 M9 z kk => ?_)
  replace kk := kk z
  refine V_istore_n hC (lv' := [(1, _), (0, _)]) (Nat.le_of_ble_eq_true rfl) rfl dX12_heaviest_5 ?_
  refine V_iconst hC dX12_heaviest_6 ?_
  refine V_istore_n hC (lv' := [(2, _), (1, _), (0, _)]) (Nat.le_of_ble_eq_true rfl) rfl dX12_heaviest_7 ?_
  refine V_iconst hC dX12_heaviest_8 ?_
  refine V_istore_n hC (lv' := [(3, _), (2, _), (1, _), (0, _)]) (Nat.le_of_ble_eq_true rfl) rfl dX12_heaviest_9 ?_
  refine V_aload_n hC 3 rfl dX12_heaviest_10 ?_
  refine V_gr hC fr_X12_59 (hp_r21 ho) dX12_heaviest_11 ?_
  refine V_iconst hC dX12_heaviest_14 ?_
  refine V_aload_n hC 3 rfl dX12_heaviest_15 ?_
  refine V_gr hC fr_X12_62 (hp_r22 ho) dX12_heaviest_16 ?_
  refine V_iconst hC dX12_heaviest_19 ?_
  refine V_aload_n hC 3 rfl dX12_heaviest_20 ?_
  refine V_gi hC fr_X12_80 (hp_i0 ho) dX12_heaviest_21 (fun z => ?_)
  replace kk := kk z
  obtain ⟨hi, kk⟩ := kk
  refine V_cp hC cp_X12_101 (hp_a13 ho) (hp_a14 ho) dX12_heaviest_24 (R8_of hgr) (Nat.le_of_ble_eq_true rfl) hi ?_
  replace kk := kk _ rfl
  refine V_iconst hC dX12_heaviest_27 ?_
  refine V_istore hC (lv' := [(4, _), (3, _), (2, _), (1, _), (0, _)]) (Nat.le_of_ble_eq_true rfl) rfl dX12_heaviest_28 ?_
  exact V_sub [4, 3, 2, 1, 0] rfl kk
def T_X12_heaviest_30 (G : GT) (X : va_W) (Q : Int → Mem → Prop) (E : String → Mem → Prop) (o : Nat) (x1 : Int) (x2 : Int) (x3 : Int) (x4 : Int) (M : Mem) : Prop := (inR (M o 0) → (inR x4 ∧ inR (M o 0) ∧ ((M o 0) ≤ x4 → (inR x2 ∧ Q x2 M)) ∧ (x4 < (M o 0) → ((0 ≤ x4 ∧ x4 < 256) ∧ (inR (M (o + 14) x4.toNat) → (inR (M (o + 14) x4.toNat) ∧ ((M (o + 14) x4.toNat) ≠ 0 → OkI (gB G) (gl G) md_X12_reachedWords 0 0 [.ref (ad (gB G) o), .int (I x4)] X M (fun r56 M1 => inR r56 → (inR (x1 - r56) ∧ inR x3 ∧ (x3 < (x1 - r56) → ((0 ≤ x4 ∧ x4 < 256) ∧ (inR (M1 (o + 1) x4.toNat) → L_X12_heaviest_30 G X o x1 (M1 (o + 1) x4.toNat) (x1 - r56) (x4 + 1) M1))) ∧ ((x1 - r56) ≤ x3 → L_X12_heaviest_30 G X o x1 x2 x3 (x4 + 1) M1))) NoX) ∧ ((M (o + 14) x4.toNat) = 0 → L_X12_heaviest_30 G X o x1 x2 x3 (x4 + 1) M)))))))
set_option maxRecDepth 100000 in
set_option maxHeartbeats 4000000 in
theorem go_X12_heaviest_30 {G : GT} {X : va_W} {Q : Int → Mem → Prop} {E : String → Mem → Prop} {B : WB} {l : Launch} {k n : Nat} {o : Nat} {x1 : Int} {x2 : Int} {x3 : Int} {x4 : Int} {M : Mem} (h : Ct G md_X12_heaviest X (oI Q E) B l k n) (ho : isHp o) (kk : T_X12_heaviest_30 G X Q E o x1 x2 x3 x4 M) : L_X12_heaviest_30 G X o x1 x2 x3 x4 M := by
  obtain ⟨hC, hR, rfl, hgr, rfl⟩ := h
  unfold T_X12_heaviest_30 at kk
  unfold L_X12_heaviest_30
  refine V_iload hC 4 rfl dX12_heaviest_30 ?_
  refine V_aload_n hC 0 rfl dX12_heaviest_32 ?_
  refine V_gi hC fr_X12_80 (hp_i0 ho) dX12_heaviest_33 (fun z => ?_)
  replace kk := kk z
  obtain ⟨ha, hb, k1, k2⟩ := kk
  refine V_icmp_ge hC 88 rfl dX12_heaviest_36 ⟨ha, hb, fun z => ?_, fun z => ?_⟩
  · replace kk := k1 z; clear k1 k2
    refine V_iload_n hC 2 rfl dX12_heaviest_88 ?_
    obtain ⟨hr, kk⟩ := kk
    exact V_iret hC hR (ty := .int) rfl rfl zk dX12_heaviest_89 ⟨_, rfl, hr, kk⟩
  · replace kk := k2 z; clear k1 k2
    refine V_aload_n hC 0 rfl dX12_heaviest_39 ?_
    refine V_gr hC fr_X12_62 (hp_r22 ho) dX12_heaviest_40 ?_
    refine V_iload hC 4 rfl dX12_heaviest_43 ?_
    obtain ⟨hi, kk⟩ := kk
    refine V_il hC (hp_a14 ho) dX12_heaviest_45 hi (fun z => ?_)
    replace kk := kk z
    obtain ⟨ha, k1, k2⟩ := kk
    refine V_if_ne hC 52 rfl dX12_heaviest_46 ⟨ha, fun z => ?_, fun z => ?_⟩
    · replace kk := k1 z; clear k1 k2
      refine V_iload_n hC 1 rfl dX12_heaviest_52 ?_
      refine V_aload_n hC 0 rfl dX12_heaviest_53 ?_
      refine V_iload hC 4 rfl dX12_heaviest_54 ?_
      refine V_cVi hC (As := [_]) lv_X12_165 dX12_heaviest_56 (d0 := 5) (Nat.le_of_ble_eq_true rfl) (Rm_of hgr) (hp_v ho) rfl (Nat.le_of_ble_eq_true rfl) zk kk (fun r9 M9 z kk => ?_)
      replace kk := kk z
      refine V_isub hC dX12_heaviest_59 ?_
      refine V_istore hC (lv' := [(5, _), (0, _), (1, _), (2, _), (3, _), (4, _)]) (Nat.le_of_ble_eq_true rfl) rfl dX12_heaviest_60 ?_
      refine V_iload hC 0 rfl dX12_heaviest_62 ?_
      refine V_iload_n hC 4 rfl dX12_heaviest_64 ?_
      obtain ⟨ha, hb, k1, k2⟩ := kk
      refine V_icmp_gt hC 71 rfl dX12_heaviest_65 ⟨ha, hb, fun z => ?_, fun z => ?_⟩
      · replace kk := k1 z; clear k1 k2
        refine V_iload hC 0 rfl dX12_heaviest_71 ?_
        refine V_istore_n hC (lv' := [(3, _), (5, _), (0, _), (1, _), (2, _), (4, _)]) (Nat.le_of_ble_eq_true rfl) rfl dX12_heaviest_73 ?_
        refine V_aload_n hC 2 rfl dX12_heaviest_74 ?_
        refine V_gr hC fr_X12_22 (hp_r9 ho) dX12_heaviest_75 ?_
        refine V_iload hC 5 rfl dX12_heaviest_78 ?_
        obtain ⟨hi, kk⟩ := kk
        refine V_il hC (hp_a1 ho) dX12_heaviest_80 hi (fun z => ?_)
        replace kk := kk z
        refine V_istore_n hC (lv' := [(2, _), (3, _), (5, _), (0, _), (1, _), (4, _)]) (Nat.le_of_ble_eq_true rfl) rfl dX12_heaviest_81 ?_
        refine V_iinc hC (lv' := [(4, _), (2, _), (3, _), (5, _), (0, _), (1, _)]) 5 rfl (Nat.le_of_ble_eq_true rfl) rfl dX12_heaviest_82 ?_
        refine V_goto hC 30 rfl dX12_heaviest_85 ?_
        exact V_sub [4, 5, 1, 2, 0] rfl kk
      · replace kk := k2 z; clear k1 k2
        refine V_goto hC 82 rfl dX12_heaviest_68 ?_
        refine V_iinc hC (lv' := [(4, _), (5, _), (0, _), (1, _), (2, _), (3, _)]) 5 rfl (Nat.le_of_ble_eq_true rfl) rfl dX12_heaviest_82 ?_
        refine V_goto hC 30 rfl dX12_heaviest_85 ?_
        exact V_sub [2, 3, 4, 5, 0] rfl kk
    · replace kk := k2 z; clear k1 k2
      refine V_goto hC 82 rfl dX12_heaviest_49 ?_
      refine V_iinc hC (lv' := [(4, _), (0, _), (1, _), (2, _), (3, _)]) 4 rfl (Nat.le_of_ble_eq_true rfl) rfl dX12_heaviest_82 ?_
      refine V_goto hC 30 rfl dX12_heaviest_85 ?_
      exact V_sub [1, 2, 3, 4, 0] rfl kk
theorem ok_X12_heaviest {B : WB} {l : Launch} {k n : Nat} {X : va_W} {M : Mem} {Q : Int → Mem → Prop} {E : String → Mem → Prop} {o : Nat} (hl : l.stackTraces = false) (body : ∀ G : GT, Ct G md_X12_heaviest X (oI Q E) B l k n → L_X12_heaviest_0 G X o M) : OkI B l md_X12_heaviest k n [.ref (ad B o)] X M Q E :=
  Ok_of mk_X12_heaviest hl (Nat.le_of_ble_eq_true rfl) (fun G h => by have hb := body G h; obtain ⟨-, -, rfl, -, -⟩ := h; exact hb)
def L_X12_far_0 (G : GT) (X : va_W) (o : Nat) (M : Mem) : Prop := V G md_X12_far 0 0 X M 0 [(0, .ref (ad (gB G) o))] []
def L_X12_far_36 (G : GT) (X : va_W) (o : Nat) (x1 : Int) (x2 : Int) (M : Mem) : Prop := V G md_X12_far 0 0 X M 36 [(0, .ref (ad (gB G) o)), (1, .int (I x1)), (2, .int (I x2))] []
def L_X12_far_61 (G : GT) (X : va_W) (o : Nat) (x1 : Int) (x2 : Int) (M : Mem) : Prop := V G md_X12_far 0 0 X M 61 [(0, .ref (ad (gB G) o)), (1, .int (I x1)), (2, .int (I x2))] []
def L_X12_far_76 (G : GT) (X : va_W) (o : Nat) (x1 : Int) (x2 : Int) (x3 : Int) (x4 : Int) (M : Mem) : Prop := V G md_X12_far 0 0 X M 76 [(0, .ref (ad (gB G) o)), (1, .int (I x1)), (2, .int (I x2)), (3, .int (I x3)), (4, .int (I x4))] []
def T_X12_far_0 (G : GT) (X : va_W) (Q : Nat → Mem → Prop) (E : String → Mem → Prop) (o : Nat) (M : Mem) : Prop := OkV (gB G) (gl G) md_X12_none 0 0 [.ref (ad (gB G) o), .ref (ad (gB G) (o + 16))] X M (fun M1 => OkV (gB G) (gl G) md_X12_none 0 0 [.ref (ad (gB G) o), .ref (ad (gB G) (o + 13))] X M1 (fun M2 => OkV (gB G) (gl G) md_X12_markRoots 0 0 [.ref (ad (gB G) o), .ref (ad (gB G) (o + 13))] X M2 (fun M3 => (inR (M3 o 25) → (inR (0 : Int) ∧ ∀ M4 : Mem, M4 = up M3 o 25 (0 : Int) → L_X12_far_36 G X o (M3 o 25) (0 : Int) M4))) NoX) NoX) NoX
set_option maxRecDepth 100000 in
set_option maxHeartbeats 4000000 in
theorem go_X12_far_0 {G : GT} {X : va_W} {Q : Nat → Mem → Prop} {E : String → Mem → Prop} {B : WB} {l : Launch} {k n : Nat} {o : Nat} {M : Mem} (h : Ct G md_X12_far X (oR B Q E) B l k n) (ho : isHp o) (kk : T_X12_far_0 G X Q E o M) : L_X12_far_0 G X o M := by
  obtain ⟨hC, hR, rfl, hgr, rfl⟩ := h
  unfold T_X12_far_0 at kk
  unfold L_X12_far_0
  refine V_aload_n hC 0 rfl dX12_far_0 ?_
  refine V_aload_n hC 0 rfl dX12_far_1 ?_
  refine V_gr hC fr_X12_68 (hp_r24 ho) dX12_far_2 ?_
  refine V_cVv hC (As := [_]) lv_X12_107 dX12_far_5 (d0 := 3) (Nat.le_of_ble_eq_true rfl) (Rm_of hgr) (hp_v ho) rfl (Nat.le_of_ble_eq_true rfl) zk kk (fun M9 kk => ?_)
  refine V_aload_n hC 0 rfl dX12_far_8 ?_
  refine V_aload_n hC 0 rfl dX12_far_9 ?_
  refine V_gr hC fr_X12_59 (hp_r21 ho) dX12_far_10 ?_
  refine V_cVv hC (As := [_]) lv_X12_107 dX12_far_13 (d0 := 3) (Nat.le_of_ble_eq_true rfl) (Rm_of hgr) (hp_v ho) rfl (Nat.le_of_ble_eq_true rfl) zk kk (fun M9 kk => ?_)
  refine V_aload_n hC 0 rfl dX12_far_16 ?_
  refine V_aload_n hC 0 rfl dX12_far_17 ?_
  refine V_gr hC fr_X12_59 (hp_r21 ho) dX12_far_18 ?_
  refine V_cVv hC (As := [_]) lv_X12_154 dX12_far_21 (d0 := 3) (Nat.le_of_ble_eq_true rfl) (Rm_of hgr) (hp_v ho) rfl (Nat.le_of_ble_eq_true rfl) zk kk (fun M9 kk => ?_)
  refine V_aload_n hC 0 rfl dX12_far_24 ?_
  refine V_gi hC fr_X12_139 (hp_i25 ho) dX12_far_25 (fun z => ?_)
  replace kk := kk z
  refine V_istore_n hC (lv' := [(1, _), (0, _)]) (Nat.le_of_ble_eq_true rfl) rfl dX12_far_28 ?_
  refine V_aload_n hC 1 rfl dX12_far_29 ?_
  refine V_iconst hC dX12_far_30 ?_
  obtain ⟨hv, kk⟩ := kk
  refine V_pi hC fk_X12_139 (hp_i25 ho) dX12_far_31 hv ?_
  replace kk := kk _ rfl
  refine V_iconst hC dX12_far_34 ?_
  refine V_istore_n hC (lv' := [(2, _), (1, _), (0, _)]) (Nat.le_of_ble_eq_true rfl) rfl dX12_far_35 ?_
  exact V_sub [2, 1, 0] rfl kk
def T_X12_far_36 (G : GT) (X : va_W) (Q : Nat → Mem → Prop) (E : String → Mem → Prop) (o : Nat) (x1 : Int) (x2 : Int) (M : Mem) : Prop := (inR x2 ∧ inR x1 ∧ (x1 ≤ x2 → L_X12_far_61 G X o x1 (0 : Int) M) ∧ (x2 < x1 → ((0 ≤ x2 ∧ x2 < 256) ∧ (inR (M (o + 15) x2.toNat) → ((0 ≤ (M (o + 15) x2.toNat) ∧ (M (o + 15) x2.toNat) < 256) ∧ inR (1 : Int) ∧ ∀ M1 : Mem, M1 = up M (o + 16) (M (o + 15) x2.toNat).toNat (1 : Int) → L_X12_far_36 G X o x1 (x2 + 1) M1)))))
set_option maxRecDepth 100000 in
set_option maxHeartbeats 4000000 in
theorem go_X12_far_36 {G : GT} {X : va_W} {Q : Nat → Mem → Prop} {E : String → Mem → Prop} {B : WB} {l : Launch} {k n : Nat} {o : Nat} {x1 : Int} {x2 : Int} {M : Mem} (h : Ct G md_X12_far X (oR B Q E) B l k n) (ho : isHp o) (kk : T_X12_far_36 G X Q E o x1 x2 M) : L_X12_far_36 G X o x1 x2 M := by
  obtain ⟨hC, hR, rfl, hgr, rfl⟩ := h
  unfold T_X12_far_36 at kk
  unfold L_X12_far_36
  refine V_iload_n hC 2 rfl dX12_far_36 ?_
  refine V_iload_n hC 1 rfl dX12_far_37 ?_
  obtain ⟨ha, hb, k1, k2⟩ := kk
  refine V_icmp_ge hC 59 rfl dX12_far_38 ⟨ha, hb, fun z => ?_, fun z => ?_⟩
  · replace kk := k1 z; clear k1 k2
    refine V_iconst hC dX12_far_59 ?_
    refine V_istore_n hC (lv' := [(2, _), (0, _), (1, _)]) (Nat.le_of_ble_eq_true rfl) rfl dX12_far_60 ?_
    exact V_sub [1, 2, 0] rfl kk
  · replace kk := k2 z; clear k1 k2
    refine V_aload_n hC 0 rfl dX12_far_41 ?_
    refine V_gr hC fr_X12_68 (hp_r24 ho) dX12_far_42 ?_
    refine V_aload_n hC 0 rfl dX12_far_45 ?_
    refine V_gr hC fr_X12_65 (hp_r23 ho) dX12_far_46 ?_
    refine V_iload_n hC 2 rfl dX12_far_49 ?_
    obtain ⟨hi, kk⟩ := kk
    refine V_il hC (hp_a15 ho) dX12_far_50 hi (fun z => ?_)
    replace kk := kk z
    refine V_iconst hC dX12_far_51 ?_
    obtain ⟨hi, hv, kk⟩ := kk
    refine V_is hC (hp_a16 ho) dX12_far_52 hi hv ?_
    replace kk := kk _ rfl
    refine V_iinc hC (lv' := [(2, _), (0, _), (1, _)]) 2 rfl (Nat.le_of_ble_eq_true rfl) rfl dX12_far_53 ?_
    refine V_goto hC 36 rfl dX12_far_56 ?_
    exact V_sub [1, 2, 0] rfl kk
def T_X12_far_61 (G : GT) (X : va_W) (Q : Nat → Mem → Prop) (E : String → Mem → Prop) (o : Nat) (x1 : Int) (x2 : Int) (M : Mem) : Prop := (inR x2 ∧ inR x1 ∧ (x1 ≤ x2 → Q (o + 16) M) ∧ (x2 < x1 → ((0 ≤ x2 ∧ x2 < 256) ∧ (inR (M (o + 15) x2.toNat) → L_X12_far_76 G X o x1 x2 (M (o + 15) x2.toNat) (0 : Int) M))))
set_option maxRecDepth 100000 in
set_option maxHeartbeats 4000000 in
theorem go_X12_far_61 {G : GT} {X : va_W} {Q : Nat → Mem → Prop} {E : String → Mem → Prop} {B : WB} {l : Launch} {k n : Nat} {o : Nat} {x1 : Int} {x2 : Int} {M : Mem} (h : Ct G md_X12_far X (oR B Q E) B l k n) (ho : isHp o) (kk : T_X12_far_61 G X Q E o x1 x2 M) : L_X12_far_61 G X o x1 x2 M := by
  obtain ⟨hC, hR, rfl, hgr, rfl⟩ := h
  unfold T_X12_far_61 at kk
  unfold L_X12_far_61
  refine V_iload_n hC 2 rfl dX12_far_61 ?_
  refine V_iload_n hC 1 rfl dX12_far_62 ?_
  obtain ⟨ha, hb, k1, k2⟩ := kk
  refine V_icmp_ge hC 163 rfl dX12_far_63 ⟨ha, hb, fun z => ?_, fun z => ?_⟩
  · replace kk := k1 z; clear k1 k2
    refine V_aload_n hC 0 rfl dX12_far_163 ?_
    refine V_gr hC fr_X12_68 (hp_r24 ho) dX12_far_164 ?_
    exact V_aret hC hR rfl (Or.inr ⟨_, rfl⟩) zk dX12_far_167 ⟨_, rfl, kk⟩
  · replace kk := k2 z; clear k1 k2
    refine V_aload_n hC 0 rfl dX12_far_66 ?_
    refine V_gr hC fr_X12_65 (hp_r23 ho) dX12_far_67 ?_
    refine V_iload_n hC 2 rfl dX12_far_70 ?_
    obtain ⟨hi, kk⟩ := kk
    refine V_il hC (hp_a15 ho) dX12_far_71 hi (fun z => ?_)
    replace kk := kk z
    refine V_istore_n hC (lv' := [(3, _), (0, _), (1, _), (2, _)]) (Nat.le_of_ble_eq_true rfl) rfl dX12_far_72 ?_
    refine V_iconst hC dX12_far_73 ?_
    refine V_istore hC (lv' := [(4, _), (3, _), (0, _), (1, _), (2, _)]) (Nat.le_of_ble_eq_true rfl) rfl dX12_far_74 ?_
    exact V_sub [2, 3, 4, 1, 0] rfl kk
def T_X12_far_76 (G : GT) (X : va_W) (Q : Nat → Mem → Prop) (E : String → Mem → Prop) (o : Nat) (x1 : Int) (x2 : Int) (x3 : Int) (x4 : Int) (M : Mem) : Prop := OkI (gB G) (gl G) md_X12_links 0 0 [.ref (ad (gB G) o), .int (I x3)] X M (fun r80 M1 => inR r80 → (inR x4 ∧ inR r80 ∧ (r80 ≤ x4 → L_X12_far_61 G X o x1 (x2 + 1) M1) ∧ (x4 < r80 → ((0 ≤ x3 ∧ x3 < 256) ∧ (inR (M1 (o + 4) x3.toNat) → ((0 ≤ ((M1 (o + 4) x3.toNat) + x4) ∧ ((M1 (o + 4) x3.toNat) + x4) < 2048) ∧ (inR (M1 (o + 7) ((M1 (o + 4) x3.toNat) + x4).toNat) → OkI (gB G) (gl G) md_X12_find 0 0 [.ref (ad (gB G) o), .int (I (M1 (o + 7) ((M1 (o + 4) x3.toNat) + x4).toNat))] X M1 (fun r101 M2 => inR r101 → (inR r101 ∧ inR (-1 : Int) ∧ (r101 = (-1 : Int) → L_X12_far_76 G X o x1 x2 x3 (x4 + 1) M2) ∧ (r101 ≠ (-1 : Int) → ((0 ≤ r101 ∧ r101 < 256) ∧ (inR (M2 (o + 16) r101.toNat) → (inR (M2 (o + 16) r101.toNat) ∧ ((M2 (o + 16) r101.toNat) ≤ 0 → ((0 ≤ x3 ∧ x3 < 256) ∧ (inR (M2 (o + 16) x3.toNat) → ((0 ≤ r101 ∧ r101 < 256) ∧ inR ((M2 (o + 16) x3.toNat) + (1 : Int)) ∧ ∀ M3 : Mem, M3 = up M2 (o + 16) r101.toNat ((M2 (o + 16) x3.toNat) + (1 : Int)) → ((0 ≤ x1 ∧ x1 < 256) ∧ inR r101 ∧ ∀ M4 : Mem, M4 = up M3 (o + 15) x1.toNat r101 → L_X12_far_76 G X o (x1 + 1) x2 x3 (x4 + 1) M4))))) ∧ (0 < (M2 (o + 16) r101.toNat) → L_X12_far_76 G X o x1 x2 x3 (x4 + 1) M2))))))) NoX))))))) NoX
set_option maxRecDepth 100000 in
set_option maxHeartbeats 4000000 in
theorem go_X12_far_76 {G : GT} {X : va_W} {Q : Nat → Mem → Prop} {E : String → Mem → Prop} {B : WB} {l : Launch} {k n : Nat} {o : Nat} {x1 : Int} {x2 : Int} {x3 : Int} {x4 : Int} {M : Mem} (h : Ct G md_X12_far X (oR B Q E) B l k n) (ho : isHp o) (kk : T_X12_far_76 G X Q E o x1 x2 x3 x4 M) : L_X12_far_76 G X o x1 x2 x3 x4 M := by
  obtain ⟨hC, hR, rfl, hgr, rfl⟩ := h
  unfold T_X12_far_76 at kk
  unfold L_X12_far_76
  refine V_iload hC 4 rfl dX12_far_76 ?_
  refine V_aload_n hC 0 rfl dX12_far_78 ?_
  refine V_iload_n hC 3 rfl dX12_far_79 ?_
  refine V_cVi hC (As := [_]) lv_X12_148 dX12_far_80 (d0 := 3) (Nat.le_of_ble_eq_true rfl) (Rm_of hgr) (hp_v ho) rfl (Nat.le_of_ble_eq_true rfl) zk kk (fun r9 M9 z kk => ?_)
  replace kk := kk z
  obtain ⟨ha, hb, k1, k2⟩ := kk
  refine V_icmp_ge hC 157 rfl dX12_far_83 ⟨ha, hb, fun z => ?_, fun z => ?_⟩
  · replace kk := k1 z; clear k1 k2
    refine V_iinc hC (lv' := [(2, _), (0, _), (1, _), (3, _), (4, _)]) 2 rfl (Nat.le_of_ble_eq_true rfl) rfl dX12_far_157 ?_
    refine V_goto hC 61 rfl dX12_far_160 ?_
    exact V_sub [1, 2, 0] rfl kk
  · replace kk := k2 z; clear k1 k2
    refine V_aload_n hC 0 rfl dX12_far_86 ?_
    refine V_aload_n hC 0 rfl dX12_far_87 ?_
    refine V_gr hC fr_X12_41 (hp_r15 ho) dX12_far_88 ?_
    refine V_aload_n hC 0 rfl dX12_far_91 ?_
    refine V_gr hC fr_X12_32 (hp_r12 ho) dX12_far_92 ?_
    refine V_iload_n hC 3 rfl dX12_far_95 ?_
    obtain ⟨hi, kk⟩ := kk
    refine V_il hC (hp_a4 ho) dX12_far_96 hi (fun z => ?_)
    replace kk := kk z
    refine V_iload hC 4 rfl dX12_far_97 ?_
    refine V_iadd hC dX12_far_99 ?_
    obtain ⟨hi, kk⟩ := kk
    refine V_il hC (hp_a7 ho) dX12_far_100 hi (fun z => ?_)
    replace kk := kk z
    refine V_cVi hC (As := [_]) lv_X12_142 dX12_far_101 (d0 := 3) (Nat.le_of_ble_eq_true rfl) (Rm_of hgr) (hp_v ho) rfl (Nat.le_of_ble_eq_true rfl) zk kk (fun r9 M9 z kk => ?_)
    replace kk := kk z
    refine V_istore hC (lv' := [(5, _), (0, _), (1, _), (2, _), (3, _), (4, _)]) (Nat.le_of_ble_eq_true rfl) rfl dX12_far_104 ?_
    refine V_iload hC 0 rfl dX12_far_106 ?_
    refine V_iconst hC dX12_far_108 ?_
    obtain ⟨ha, hb, k1, k2⟩ := kk
    refine V_icmp_eq hC 151 rfl dX12_far_109 ⟨ha, hb, fun z => ?_, fun z => ?_⟩
    · replace kk := k1 z; clear k1 k2
      refine V_iinc hC (lv' := [(4, _), (5, _), (0, _), (1, _), (2, _), (3, _)]) 5 rfl (Nat.le_of_ble_eq_true rfl) rfl dX12_far_151 ?_
      refine V_goto hC 76 rfl dX12_far_154 ?_
      exact V_sub [2, 3, 4, 5, 0] rfl kk
    · replace kk := k2 z; clear k1 k2
      refine V_aload_n hC 1 rfl dX12_far_112 ?_
      refine V_gr hC fr_X12_68 (hp_r24 ho) dX12_far_113 ?_
      refine V_iload hC 0 rfl dX12_far_116 ?_
      obtain ⟨hi, kk⟩ := kk
      refine V_il hC (hp_a16 ho) dX12_far_118 hi (fun z => ?_)
      replace kk := kk z
      obtain ⟨ha, k1, k2⟩ := kk
      refine V_if_le hC 125 rfl dX12_far_119 ⟨ha, fun z => ?_, fun z => ?_⟩
      · replace kk := k1 z; clear k1 k2
        refine V_aload_n hC 1 rfl dX12_far_125 ?_
        refine V_gr hC fr_X12_68 (hp_r24 ho) dX12_far_126 ?_
        refine V_iload hC 0 rfl dX12_far_129 ?_
        refine V_aload_n hC 1 rfl dX12_far_131 ?_
        refine V_gr hC fr_X12_68 (hp_r24 ho) dX12_far_132 ?_
        refine V_iload_n hC 4 rfl dX12_far_135 ?_
        obtain ⟨hi, kk⟩ := kk
        refine V_il hC (hp_a16 ho) dX12_far_136 hi (fun z => ?_)
        replace kk := kk z
        refine V_iconst hC dX12_far_137 ?_
        refine V_iadd hC dX12_far_138 ?_
        obtain ⟨hi, hv, kk⟩ := kk
        refine V_is hC (hp_a16 ho) dX12_far_139 hi hv ?_
        replace kk := kk _ rfl
        refine V_aload_n hC 1 rfl dX12_far_140 ?_
        refine V_gr hC fr_X12_65 (hp_r23 ho) dX12_far_141 ?_
        refine V_iload_n hC 2 rfl dX12_far_144 ?_
        refine V_iload hC 0 rfl dX12_far_145 ?_
        obtain ⟨hi, hv, kk⟩ := kk
        refine V_is hC (hp_a15 ho) dX12_far_147 hi hv ?_
        replace kk := kk _ rfl
        refine V_iinc hC (lv' := [(1, _), (5, _), (0, _), (2, _), (3, _), (4, _)]) 2 rfl (Nat.le_of_ble_eq_true rfl) rfl dX12_far_148 ?_
        refine V_iinc hC (lv' := [(4, _), (1, _), (5, _), (0, _), (2, _), (3, _)]) 5 rfl (Nat.le_of_ble_eq_true rfl) rfl dX12_far_151 ?_
        refine V_goto hC 76 rfl dX12_far_154 ?_
        exact V_sub [3, 1, 4, 5, 0] rfl kk
      · replace kk := k2 z; clear k1 k2
        refine V_goto hC 151 rfl dX12_far_122 ?_
        refine V_iinc hC (lv' := [(4, _), (5, _), (0, _), (1, _), (2, _), (3, _)]) 5 rfl (Nat.le_of_ble_eq_true rfl) rfl dX12_far_151 ?_
        refine V_goto hC 76 rfl dX12_far_154 ?_
        exact V_sub [2, 3, 4, 5, 0] rfl kk
theorem ok_X12_far {B : WB} {l : Launch} {k n : Nat} {X : va_W} {M : Mem} {Q : Nat → Mem → Prop} {E : String → Mem → Prop} {o : Nat} (hl : l.stackTraces = false) (body : ∀ G : GT, Ct G md_X12_far X (oR B Q E) B l k n → L_X12_far_0 G X o M) : OkR B l md_X12_far k n [.ref (ad B o)] X M Q E :=
  Ok_of mk_X12_far hl (Nat.le_of_ble_eq_true rfl) (fun G h => by have hb := body G h; obtain ⟨-, -, rfl, -, -⟩ := h; exact hb)
def L_X12_net_0 (G : GT) (X : va_W) (o : Nat) (x1 : Int) (M : Mem) : Prop := V G md_X12_net 0 0 X M 0 [(0, .ref (ad (gB G) o)), (1, .int (I x1))] []
def L_X12_net_26 (G : GT) (X : va_W) (o : Nat) (x2 : Int) (x3 : Int) (M : Mem) : Prop := V G md_X12_net 0 0 X M 26 [(0, .ref (ad (gB G) o)), (2, .int (I x2)), (3, .int (I x3))] []
def L_X12_net_42 (G : GT) (X : va_W) (o : Nat) (x2 : Int) (x3 : Int) (x4 : Int) (x5 : Int) (M : Mem) : Prop := V G md_X12_net 0 0 X M 42 [(0, .ref (ad (gB G) o)), (2, .int (I x2)), (3, .int (I x3)), (4, .int (I x4)), (5, .int (I x5))] []
def T_X12_net_0 (G : GT) (X : va_W) (Q : Int → Mem → Prop) (E : String → Mem → Prop) (o : Nat) (x1 : Int) (M : Mem) : Prop := OkV (gB G) (gl G) md_X12_none 0 0 [.ref (ad (gB G) o), .ref (ad (gB G) (o + 16))] X M (fun M1 => ((0 ≤ (0 : Int) ∧ (0 : Int) < 256) ∧ inR x1 ∧ ∀ M2 : Mem, M2 = up M1 (o + 15) (0 : Int).toNat x1 → ((0 ≤ x1 ∧ x1 < 256) ∧ inR (1 : Int) ∧ ∀ M3 : Mem, M3 = up M2 (o + 16) x1.toNat (1 : Int) → L_X12_net_26 G X o (1 : Int) (0 : Int) M3))) NoX
set_option maxRecDepth 100000 in
set_option maxHeartbeats 4000000 in
theorem go_X12_net_0 {G : GT} {X : va_W} {Q : Int → Mem → Prop} {E : String → Mem → Prop} {B : WB} {l : Launch} {k n : Nat} {o : Nat} {x1 : Int} {M : Mem} (h : Ct G md_X12_net X (oI Q E) B l k n) (ho : isHp o) (kk : T_X12_net_0 G X Q E o x1 M) : L_X12_net_0 G X o x1 M := by
  obtain ⟨hC, hR, rfl, hgr, rfl⟩ := h
  unfold T_X12_net_0 at kk
  unfold L_X12_net_0
  refine V_aload_n hC 0 rfl dX12_net_0 ?_
  refine V_aload_n hC 0 rfl dX12_net_1 ?_
  refine V_gr hC fr_X12_68 (hp_r24 ho) dX12_net_2 ?_
  refine V_cVv hC (As := [_]) lv_X12_107 dX12_net_5 (d0 := 3) (Nat.le_of_ble_eq_true rfl) (Rm_of hgr) (hp_v ho) rfl (Nat.le_of_ble_eq_true rfl) zk kk (fun M9 kk => ?_)
  refine V_aload_n hC 0 rfl dX12_net_8 ?_
  refine V_gr hC fr_X12_65 (hp_r23 ho) dX12_net_9 ?_
  refine V_iconst hC dX12_net_12 ?_
  refine V_iload_n hC 1 rfl dX12_net_13 ?_
  obtain ⟨hi, hv, kk⟩ := kk
  refine V_is hC (hp_a15 ho) dX12_net_14 hi hv ?_
  replace kk := kk _ rfl
  refine V_aload_n hC 0 rfl dX12_net_15 ?_
  refine V_gr hC fr_X12_68 (hp_r24 ho) dX12_net_16 ?_
  refine V_iload_n hC 1 rfl dX12_net_19 ?_
  refine V_iconst hC dX12_net_20 ?_
  obtain ⟨hi, hv, kk⟩ := kk
  refine V_is hC (hp_a16 ho) dX12_net_21 hi hv ?_
  replace kk := kk _ rfl
  refine V_iconst hC dX12_net_22 ?_
  refine V_istore_n hC (lv' := [(2, _), (0, _), (1, _)]) (Nat.le_of_ble_eq_true rfl) rfl dX12_net_23 ?_
  refine V_iconst hC dX12_net_24 ?_
  refine V_istore_n hC (lv' := [(3, _), (2, _), (0, _), (1, _)]) (Nat.le_of_ble_eq_true rfl) rfl dX12_net_25 ?_
  exact V_sub [2, 1, 0] rfl kk
def T_X12_net_26 (G : GT) (X : va_W) (Q : Int → Mem → Prop) (E : String → Mem → Prop) (o : Nat) (x2 : Int) (x3 : Int) (M : Mem) : Prop := (inR x3 ∧ inR x2 ∧ (x2 ≤ x3 → (inR x2 ∧ Q x2 M)) ∧ (x3 < x2 → ((0 ≤ x3 ∧ x3 < 256) ∧ (inR (M (o + 15) x3.toNat) → L_X12_net_42 G X o x2 x3 (M (o + 15) x3.toNat) (0 : Int) M))))
set_option maxRecDepth 100000 in
set_option maxHeartbeats 4000000 in
theorem go_X12_net_26 {G : GT} {X : va_W} {Q : Int → Mem → Prop} {E : String → Mem → Prop} {B : WB} {l : Launch} {k n : Nat} {o : Nat} {x2 : Int} {x3 : Int} {M : Mem} (h : Ct G md_X12_net X (oI Q E) B l k n) (ho : isHp o) (kk : T_X12_net_26 G X Q E o x2 x3 M) : L_X12_net_26 G X o x2 x3 M := by
  obtain ⟨hC, hR, rfl, hgr, rfl⟩ := h
  unfold T_X12_net_26 at kk
  unfold L_X12_net_26
  refine V_iload_n hC 2 rfl dX12_net_26 ?_
  refine V_iload_n hC 1 rfl dX12_net_27 ?_
  obtain ⟨ha, hb, k1, k2⟩ := kk
  refine V_icmp_ge hC 135 rfl dX12_net_28 ⟨ha, hb, fun z => ?_, fun z => ?_⟩
  · replace kk := k1 z; clear k1 k2
    refine V_iload_n hC 1 rfl dX12_net_135 ?_
    obtain ⟨hr, kk⟩ := kk
    exact V_iret hC hR (ty := .int) rfl rfl zk dX12_net_136 ⟨_, rfl, hr, kk⟩
  · replace kk := k2 z; clear k1 k2
    refine V_aload_n hC 0 rfl dX12_net_31 ?_
    refine V_gr hC fr_X12_65 (hp_r23 ho) dX12_net_32 ?_
    refine V_iload_n hC 2 rfl dX12_net_35 ?_
    obtain ⟨hi, kk⟩ := kk
    refine V_il hC (hp_a15 ho) dX12_net_36 hi (fun z => ?_)
    replace kk := kk z
    refine V_istore hC (lv' := [(4, _), (0, _), (2, _), (3, _)]) (Nat.le_of_ble_eq_true rfl) rfl dX12_net_37 ?_
    refine V_iconst hC dX12_net_39 ?_
    refine V_istore hC (lv' := [(5, _), (4, _), (0, _), (2, _), (3, _)]) (Nat.le_of_ble_eq_true rfl) rfl dX12_net_40 ?_
    exact V_sub [2, 3, 4, 1, 0] rfl kk
def T_X12_net_42 (G : GT) (X : va_W) (Q : Int → Mem → Prop) (E : String → Mem → Prop) (o : Nat) (x2 : Int) (x3 : Int) (x4 : Int) (x5 : Int) (M : Mem) : Prop := OkI (gB G) (gl G) md_X12_links 0 0 [.ref (ad (gB G) o), .int (I x4)] X M (fun r47 M1 => inR r47 → (inR x5 ∧ inR r47 ∧ (r47 ≤ x5 → L_X12_net_26 G X o x2 (x3 + 1) M1) ∧ (x5 < r47 → ((0 ≤ x4 ∧ x4 < 256) ∧ (inR (M1 (o + 4) x4.toNat) → ((0 ≤ ((M1 (o + 4) x4.toNat) + x5) ∧ ((M1 (o + 4) x4.toNat) + x5) < 2048) ∧ (inR (M1 (o + 7) ((M1 (o + 4) x4.toNat) + x5).toNat) → OkI (gB G) (gl G) md_X12_find 0 0 [.ref (ad (gB G) o), .int (I (M1 (o + 7) ((M1 (o + 4) x4.toNat) + x5).toNat))] X M1 (fun r69 M2 => inR r69 → (inR r69 ∧ inR (-1 : Int) ∧ (r69 = (-1 : Int) → L_X12_net_42 G X o x2 x3 x4 (x5 + 1) M2) ∧ (r69 ≠ (-1 : Int) → ((0 ≤ r69 ∧ r69 < 256) ∧ (inR (M2 (o + 2) r69.toNat) → (inR (M2 (o + 2) r69.toNat) ∧ inR (2 : Int) ∧ ((2 : Int) < (M2 (o + 2) r69.toNat) → L_X12_net_42 G X o x2 x3 x4 (x5 + 1) M2) ∧ ((M2 (o + 2) r69.toNat) ≤ (2 : Int) → ((0 ≤ r69 ∧ r69 < 256) ∧ (inR (M2 (o + 16) r69.toNat) → (inR (M2 (o + 16) r69.toNat) ∧ ((M2 (o + 16) r69.toNat) ≤ 0 → ((0 ≤ x2 ∧ x2 < 256) ∧ inR r69 ∧ ∀ M3 : Mem, M3 = up M2 (o + 15) x2.toNat r69 → ((0 ≤ r69 ∧ r69 < 256) ∧ inR (x2 + 1) ∧ ∀ M4 : Mem, M4 = up M3 (o + 16) r69.toNat (x2 + 1) → L_X12_net_42 G X o (x2 + 1) x3 x4 (x5 + 1) M4))) ∧ (0 < (M2 (o + 16) r69.toNat) → L_X12_net_42 G X o x2 x3 x4 (x5 + 1) M2))))))))))) NoX))))))) NoX
set_option maxRecDepth 100000 in
set_option maxHeartbeats 4000000 in
theorem go_X12_net_42 {G : GT} {X : va_W} {Q : Int → Mem → Prop} {E : String → Mem → Prop} {B : WB} {l : Launch} {k n : Nat} {o : Nat} {x2 : Int} {x3 : Int} {x4 : Int} {x5 : Int} {M : Mem} (h : Ct G md_X12_net X (oI Q E) B l k n) (ho : isHp o) (kk : T_X12_net_42 G X Q E o x2 x3 x4 x5 M) : L_X12_net_42 G X o x2 x3 x4 x5 M := by
  obtain ⟨hC, hR, rfl, hgr, rfl⟩ := h
  unfold T_X12_net_42 at kk
  unfold L_X12_net_42
  refine V_iload hC 4 rfl dX12_net_42 ?_
  refine V_aload_n hC 0 rfl dX12_net_44 ?_
  refine V_iload hC 3 rfl dX12_net_45 ?_
  refine V_cVi hC (As := [_]) lv_X12_148 dX12_net_47 (d0 := 3) (Nat.le_of_ble_eq_true rfl) (Rm_of hgr) (hp_v ho) rfl (Nat.le_of_ble_eq_true rfl) zk kk (fun r9 M9 z kk => ?_)
  replace kk := kk z
  obtain ⟨ha, hb, k1, k2⟩ := kk
  refine V_icmp_ge hC 129 rfl dX12_net_50 ⟨ha, hb, fun z => ?_, fun z => ?_⟩
  · replace kk := k1 z; clear k1 k2
    refine V_iinc hC (lv' := [(3, _), (0, _), (2, _), (4, _), (5, _)]) 2 rfl (Nat.le_of_ble_eq_true rfl) rfl dX12_net_129 ?_
    refine V_goto hC 26 rfl dX12_net_132 ?_
    exact V_sub [1, 2, 0] rfl kk
  · replace kk := k2 z; clear k1 k2
    refine V_aload_n hC 0 rfl dX12_net_53 ?_
    refine V_aload_n hC 0 rfl dX12_net_54 ?_
    refine V_gr hC fr_X12_41 (hp_r15 ho) dX12_net_55 ?_
    refine V_aload_n hC 0 rfl dX12_net_58 ?_
    refine V_gr hC fr_X12_32 (hp_r12 ho) dX12_net_59 ?_
    refine V_iload hC 3 rfl dX12_net_62 ?_
    obtain ⟨hi, kk⟩ := kk
    refine V_il hC (hp_a4 ho) dX12_net_64 hi (fun z => ?_)
    replace kk := kk z
    refine V_iload hC 4 rfl dX12_net_65 ?_
    refine V_iadd hC dX12_net_67 ?_
    obtain ⟨hi, kk⟩ := kk
    refine V_il hC (hp_a7 ho) dX12_net_68 hi (fun z => ?_)
    replace kk := kk z
    refine V_cVi hC (As := [_]) lv_X12_142 dX12_net_69 (d0 := 3) (Nat.le_of_ble_eq_true rfl) (Rm_of hgr) (hp_v ho) rfl (Nat.le_of_ble_eq_true rfl) zk kk (fun r9 M9 z kk => ?_)
    replace kk := kk z
    refine V_istore hC (lv' := [(6, _), (0, _), (2, _), (3, _), (4, _), (5, _)]) (Nat.le_of_ble_eq_true rfl) rfl dX12_net_72 ?_
    refine V_iload hC 0 rfl dX12_net_74 ?_
    refine V_iconst hC dX12_net_76 ?_
    obtain ⟨ha, hb, k1, k2⟩ := kk
    refine V_icmp_eq hC 123 rfl dX12_net_77 ⟨ha, hb, fun z => ?_, fun z => ?_⟩
    · replace kk := k1 z; clear k1 k2
      refine V_iinc hC (lv' := [(5, _), (6, _), (0, _), (2, _), (3, _), (4, _)]) 5 rfl (Nat.le_of_ble_eq_true rfl) rfl dX12_net_123 ?_
      refine V_goto hC 42 rfl dX12_net_126 ?_
      exact V_sub [2, 3, 4, 5, 0] rfl kk
    · replace kk := k2 z; clear k1 k2
      refine V_aload_n hC 1 rfl dX12_net_80 ?_
      refine V_gr hC fr_X12_26 (hp_r10 ho) dX12_net_81 ?_
      refine V_iload hC 0 rfl dX12_net_84 ?_
      obtain ⟨hi, kk⟩ := kk
      refine V_il hC (hp_a2 ho) dX12_net_86 hi (fun z => ?_)
      replace kk := kk z
      refine V_iconst hC dX12_net_87 ?_
      obtain ⟨ha, hb, k1, k2⟩ := kk
      refine V_icmp_gt hC 123 rfl dX12_net_88 ⟨ha, hb, fun z => ?_, fun z => ?_⟩
      · replace kk := k1 z; clear k1 k2
        refine V_iinc hC (lv' := [(5, _), (6, _), (0, _), (2, _), (3, _), (4, _)]) 5 rfl (Nat.le_of_ble_eq_true rfl) rfl dX12_net_123 ?_
        refine V_goto hC 42 rfl dX12_net_126 ?_
        exact V_sub [2, 3, 4, 5, 0] rfl kk
      · replace kk := k2 z; clear k1 k2
        refine V_aload_n hC 1 rfl dX12_net_91 ?_
        refine V_gr hC fr_X12_68 (hp_r24 ho) dX12_net_92 ?_
        refine V_iload hC 0 rfl dX12_net_95 ?_
        obtain ⟨hi, kk⟩ := kk
        refine V_il hC (hp_a16 ho) dX12_net_97 hi (fun z => ?_)
        replace kk := kk z
        obtain ⟨ha, k1, k2⟩ := kk
        refine V_if_le hC 104 rfl dX12_net_98 ⟨ha, fun z => ?_, fun z => ?_⟩
        · replace kk := k1 z; clear k1 k2
          refine V_aload_n hC 1 rfl dX12_net_104 ?_
          refine V_gr hC fr_X12_65 (hp_r23 ho) dX12_net_105 ?_
          refine V_iload_n hC 2 rfl dX12_net_108 ?_
          refine V_iload hC 0 rfl dX12_net_109 ?_
          obtain ⟨hi, hv, kk⟩ := kk
          refine V_is hC (hp_a15 ho) dX12_net_111 hi hv ?_
          replace kk := kk _ rfl
          refine V_iinc hC (lv' := [(2, _), (6, _), (0, _), (3, _), (4, _), (5, _)]) 2 rfl (Nat.le_of_ble_eq_true rfl) rfl dX12_net_112 ?_
          refine V_aload_n hC 2 rfl dX12_net_115 ?_
          refine V_gr hC fr_X12_68 (hp_r24 ho) dX12_net_116 ?_
          refine V_iload hC 1 rfl dX12_net_119 ?_
          refine V_iload_n hC 0 rfl dX12_net_121 ?_
          obtain ⟨hi, hv, kk⟩ := kk
          refine V_is hC (hp_a16 ho) dX12_net_122 hi hv ?_
          replace kk := kk _ rfl
          refine V_iinc hC (lv' := [(5, _), (2, _), (6, _), (0, _), (3, _), (4, _)]) 5 rfl (Nat.le_of_ble_eq_true rfl) rfl dX12_net_123 ?_
          refine V_goto hC 42 rfl dX12_net_126 ?_
          exact V_sub [3, 1, 4, 5, 0] rfl kk
        · replace kk := k2 z; clear k1 k2
          refine V_goto hC 123 rfl dX12_net_101 ?_
          refine V_iinc hC (lv' := [(5, _), (6, _), (0, _), (2, _), (3, _), (4, _)]) 5 rfl (Nat.le_of_ble_eq_true rfl) rfl dX12_net_123 ?_
          refine V_goto hC 42 rfl dX12_net_126 ?_
          exact V_sub [2, 3, 4, 5, 0] rfl kk
theorem ok_X12_net {B : WB} {l : Launch} {k n : Nat} {X : va_W} {M : Mem} {Q : Int → Mem → Prop} {E : String → Mem → Prop} {o : Nat} {x1 : Int} (hl : l.stackTraces = false) (body : ∀ G : GT, Ct G md_X12_net X (oI Q E) B l k n → L_X12_net_0 G X o x1 M) : OkI B l md_X12_net k n [.ref (ad B o), .int (I x1)] X M Q E :=
  Ok_of mk_X12_net hl (Nat.le_of_ble_eq_true rfl) (fun G h => by have hb := body G h; obtain ⟨-, -, rfl, -, -⟩ := h; exact hb)
def L_X12_isCircle_0 (G : GT) (X : va_W) (o : Nat) (x1 : Int) (M : Mem) : Prop := V G md_X12_isCircle 0 0 X M 0 [(0, .ref (ad (gB G) o)), (1, .int (I x1))] []
def L_X12_isCircle_10 (G : GT) (X : va_W) (o : Nat) (x1 : Int) (x2 : Int) (M : Mem) : Prop := V G md_X12_isCircle 0 0 X M 10 [(0, .ref (ad (gB G) o)), (1, .int (I x1)), (2, .int (I x2))] []
def L_X12_isCircle_50 (G : GT) (X : va_W) (o : Nat) (x1 : Int) (M : Mem) : Prop := V G md_X12_isCircle 0 0 X M 50 [(0, .ref (ad (gB G) o)), (1, .int (I x1))] []
def L_X12_isCircle_79 (G : GT) (X : va_W) (o : Nat) (x1 : Int) (x2 : Int) (x3 : Int) (M : Mem) : Prop := V G md_X12_isCircle 0 0 X M 79 [(0, .ref (ad (gB G) o)), (1, .int (I x1)), (2, .int (I x2)), (3, .int (I x3))] []
def T_X12_isCircle_0 (G : GT) (X : va_W) (Q : Int → Mem → Prop) (E : String → Mem → Prop) (o : Nat) (x1 : Int) (M : Mem) : Prop := OkV (gB G) (gl G) md_X12_none 0 0 [.ref (ad (gB G) o), .ref (ad (gB G) (o + 13))] X M (fun M1 => L_X12_isCircle_10 G X o x1 (0 : Int) M1) NoX
set_option maxRecDepth 100000 in
set_option maxHeartbeats 4000000 in
theorem go_X12_isCircle_0 {G : GT} {X : va_W} {Q : Int → Mem → Prop} {E : String → Mem → Prop} {B : WB} {l : Launch} {k n : Nat} {o : Nat} {x1 : Int} {M : Mem} (h : Ct G md_X12_isCircle X (oI Q E) B l k n) (ho : isHp o) (kk : T_X12_isCircle_0 G X Q E o x1 M) : L_X12_isCircle_0 G X o x1 M := by
  obtain ⟨hC, hR, rfl, hgr, rfl⟩ := h
  unfold T_X12_isCircle_0 at kk
  unfold L_X12_isCircle_0
  refine V_aload_n hC 0 rfl dX12_isCircle_0 ?_
  refine V_aload_n hC 0 rfl dX12_isCircle_1 ?_
  refine V_gr hC fr_X12_59 (hp_r21 ho) dX12_isCircle_2 ?_
  refine V_cVv hC (As := [_]) lv_X12_107 dX12_isCircle_5 (d0 := 3) (Nat.le_of_ble_eq_true rfl) (Rm_of hgr) (hp_v ho) rfl (Nat.le_of_ble_eq_true rfl) zk kk (fun M9 kk => ?_)
  refine V_iconst hC dX12_isCircle_8 ?_
  refine V_istore_n hC (lv' := [(2, _), (0, _), (1, _)]) (Nat.le_of_ble_eq_true rfl) rfl dX12_isCircle_9 ?_
  exact V_sub [1, 2, 0] rfl kk
def T_X12_isCircle_10 (G : GT) (X : va_W) (Q : Int → Mem → Prop) (E : String → Mem → Prop) (o : Nat) (x1 : Int) (x2 : Int) (M : Mem) : Prop := OkI (gB G) (gl G) md_X12_links 0 0 [.ref (ad (gB G) o), .int (I x1)] X M (fun r13 M1 => inR r13 → (inR x2 ∧ inR r13 ∧ (r13 ≤ x2 → L_X12_isCircle_50 G X o x1 M1) ∧ (x2 < r13 → ((0 ≤ x1 ∧ x1 < 256) ∧ (inR (M1 (o + 4) x1.toNat) → ((0 ≤ ((M1 (o + 4) x1.toNat) + x2) ∧ ((M1 (o + 4) x1.toNat) + x2) < 2048) ∧ (inR (M1 (o + 7) ((M1 (o + 4) x1.toNat) + x2).toNat) → OkI (gB G) (gl G) md_X12_find 0 0 [.ref (ad (gB G) o), .int (I (M1 (o + 7) ((M1 (o + 4) x1.toNat) + x2).toNat))] X M1 (fun r38 M2 => inR r38 → OkV (gB G) (gl G) md_X12_mark 0 0 [.ref (ad (gB G) o), .ref (ad (gB G) (o + 13)), .int (I r38)] X M2 (fun M3 => L_X12_isCircle_10 G X o x1 (x2 + 1) M3) NoX) NoX))))))) NoX
set_option maxRecDepth 100000 in
set_option maxHeartbeats 4000000 in
theorem go_X12_isCircle_10 {G : GT} {X : va_W} {Q : Int → Mem → Prop} {E : String → Mem → Prop} {B : WB} {l : Launch} {k n : Nat} {o : Nat} {x1 : Int} {x2 : Int} {M : Mem} (h : Ct G md_X12_isCircle X (oI Q E) B l k n) (ho : isHp o) (kk : T_X12_isCircle_10 G X Q E o x1 x2 M) : L_X12_isCircle_10 G X o x1 x2 M := by
  obtain ⟨hC, hR, rfl, hgr, rfl⟩ := h
  unfold T_X12_isCircle_10 at kk
  unfold L_X12_isCircle_10
  refine V_iload_n hC 2 rfl dX12_isCircle_10 ?_
  refine V_aload_n hC 0 rfl dX12_isCircle_11 ?_
  refine V_iload_n hC 1 rfl dX12_isCircle_12 ?_
  refine V_cVi hC (As := [_]) lv_X12_148 dX12_isCircle_13 (d0 := 3) (Nat.le_of_ble_eq_true rfl) (Rm_of hgr) (hp_v ho) rfl (Nat.le_of_ble_eq_true rfl) zk kk (fun r9 M9 z kk => ?_)
  replace kk := kk z
  obtain ⟨ha, hb, k1, k2⟩ := kk
  refine V_icmp_ge hC 50 rfl dX12_isCircle_16 ⟨ha, hb, fun z => ?_, fun z => ?_⟩
  · replace kk := k1 z; clear k1 k2
    exact V_sub [0, 1] rfl kk
  · replace kk := k2 z; clear k1 k2
    refine V_aload_n hC 0 rfl dX12_isCircle_19 ?_
    refine V_aload_n hC 0 rfl dX12_isCircle_20 ?_
    refine V_gr hC fr_X12_59 (hp_r21 ho) dX12_isCircle_21 ?_
    refine V_aload_n hC 0 rfl dX12_isCircle_24 ?_
    refine V_aload_n hC 0 rfl dX12_isCircle_25 ?_
    refine V_gr hC fr_X12_41 (hp_r15 ho) dX12_isCircle_26 ?_
    refine V_aload_n hC 0 rfl dX12_isCircle_29 ?_
    refine V_gr hC fr_X12_32 (hp_r12 ho) dX12_isCircle_30 ?_
    refine V_iload_n hC 1 rfl dX12_isCircle_33 ?_
    obtain ⟨hi, kk⟩ := kk
    refine V_il hC (hp_a4 ho) dX12_isCircle_34 hi (fun z => ?_)
    replace kk := kk z
    refine V_iload_n hC 2 rfl dX12_isCircle_35 ?_
    refine V_iadd hC dX12_isCircle_36 ?_
    obtain ⟨hi, kk⟩ := kk
    refine V_il hC (hp_a7 ho) dX12_isCircle_37 hi (fun z => ?_)
    replace kk := kk z
    refine V_cVi hC (As := [_]) lv_X12_142 dX12_isCircle_38 (d0 := 3) (Nat.le_of_ble_eq_true rfl) (Rm_of hgr) (hp_v ho) rfl (Nat.le_of_ble_eq_true rfl) zk kk (fun r9 M9 z kk => ?_)
    replace kk := kk z
    refine V_cVv hC (As := [_, _]) lv_X12_145 dX12_isCircle_41 (d0 := 3) (Nat.le_of_ble_eq_true rfl) (Rm_of hgr) (hp_v ho) rfl (Nat.le_of_ble_eq_true rfl) zk kk (fun M9 kk => ?_)
    refine V_iinc hC (lv' := [(2, _), (0, _), (1, _)]) 2 rfl (Nat.le_of_ble_eq_true rfl) rfl dX12_isCircle_44 ?_
    refine V_goto hC 10 rfl dX12_isCircle_47 ?_
    exact V_sub [1, 2, 0] rfl kk
def T_X12_isCircle_50 (G : GT) (X : va_W) (Q : Int → Mem → Prop) (E : String → Mem → Prop) (o : Nat) (x1 : Int) (M : Mem) : Prop := (inR (M o 25) → (inR (M o 25) ∧ ((M o 25) ≤ 0 → ((0 ≤ x1 ∧ x1 < 256) ∧ (inR (M (o + 13) x1.toNat) → (inR (M (o + 13) x1.toNat) ∧ inR (1 : Int) ∧ ((M (o + 13) x1.toNat) ≠ (1 : Int) → (((0 : Int) = 0 ∨ (0 : Int) = 1) ∧ Q (0 : Int) M)) ∧ ((M (o + 13) x1.toNat) = (1 : Int) → (((1 : Int) = 0 ∨ (1 : Int) = 1) ∧ Q (1 : Int) M)))))) ∧ (0 < (M o 25) → (inR (M o 25) → (inR ((M o 25) - (1 : Int)) ∧ ∀ M1 : Mem, M1 = up M o 25 ((M o 25) - (1 : Int)) → (inR (M1 o 25) → ((0 ≤ (M1 o 25) ∧ (M1 o 25) < 256) ∧ (inR (M1 (o + 15) (M1 o 25).toNat) → L_X12_isCircle_79 G X o x1 (M1 (o + 15) (M1 o 25).toNat) (0 : Int) M1))))))))
set_option maxRecDepth 100000 in
set_option maxHeartbeats 4000000 in
theorem go_X12_isCircle_50 {G : GT} {X : va_W} {Q : Int → Mem → Prop} {E : String → Mem → Prop} {B : WB} {l : Launch} {k n : Nat} {o : Nat} {x1 : Int} {M : Mem} (h : Ct G md_X12_isCircle X (oI Q E) B l k n) (ho : isHp o) (kk : T_X12_isCircle_50 G X Q E o x1 M) : L_X12_isCircle_50 G X o x1 M := by
  obtain ⟨hC, hR, rfl, hgr, rfl⟩ := h
  unfold T_X12_isCircle_50 at kk
  unfold L_X12_isCircle_50
  refine V_aload_n hC 0 rfl dX12_isCircle_50 ?_
  refine V_gi hC fr_X12_139 (hp_i25 ho) dX12_isCircle_51 (fun z => ?_)
  replace kk := kk z
  obtain ⟨ha, k1, k2⟩ := kk
  refine V_if_le hC 122 rfl dX12_isCircle_54 ⟨ha, fun z => ?_, fun z => ?_⟩
  · replace kk := k1 z; clear k1 k2
    refine V_aload_n hC 0 rfl dX12_isCircle_122 ?_
    refine V_gr hC fr_X12_59 (hp_r21 ho) dX12_isCircle_123 ?_
    refine V_iload_n hC 1 rfl dX12_isCircle_126 ?_
    obtain ⟨hi, kk⟩ := kk
    refine V_il hC (hp_a13 ho) dX12_isCircle_127 hi (fun z => ?_)
    replace kk := kk z
    refine V_iconst hC dX12_isCircle_128 ?_
    obtain ⟨ha, hb, k1, k2⟩ := kk
    refine V_icmp_ne hC 136 rfl dX12_isCircle_129 ⟨ha, hb, fun z => ?_, fun z => ?_⟩
    · replace kk := k1 z; clear k1 k2
      refine V_iconst hC dX12_isCircle_136 ?_
      obtain ⟨hr, kk⟩ := kk
      exact V_iret hC hR (ty := .boolean) rfl (bitI hr).1 zk dX12_isCircle_137 ⟨_, rfl, (bitI hr).2.2.1, kk⟩
    · replace kk := k2 z; clear k1 k2
      refine V_iconst hC dX12_isCircle_132 ?_
      refine V_goto hC 137 rfl dX12_isCircle_133 ?_
      obtain ⟨hr, kk⟩ := kk
      exact V_iret hC hR (ty := .boolean) rfl (bitI hr).1 zk dX12_isCircle_137 ⟨_, rfl, (bitI hr).2.2.1, kk⟩
  · replace kk := k2 z; clear k1 k2
    refine V_aload_n hC 0 rfl dX12_isCircle_57 ?_
    refine V_dup hC rfl dX12_isCircle_58 ?_
    refine V_gi hC fr_X12_139 (hp_i25 ho) dX12_isCircle_59 (fun z => ?_)
    replace kk := kk z
    refine V_iconst hC dX12_isCircle_62 ?_
    refine V_isub hC dX12_isCircle_63 ?_
    obtain ⟨hv, kk⟩ := kk
    refine V_pi hC fk_X12_139 (hp_i25 ho) dX12_isCircle_64 hv ?_
    replace kk := kk _ rfl
    refine V_aload_n hC 0 rfl dX12_isCircle_67 ?_
    refine V_gr hC fr_X12_65 (hp_r23 ho) dX12_isCircle_68 ?_
    refine V_aload_n hC 0 rfl dX12_isCircle_71 ?_
    refine V_gi hC fr_X12_139 (hp_i25 ho) dX12_isCircle_72 (fun z => ?_)
    replace kk := kk z
    obtain ⟨hi, kk⟩ := kk
    refine V_il hC (hp_a15 ho) dX12_isCircle_75 hi (fun z => ?_)
    replace kk := kk z
    refine V_istore_n hC (lv' := [(2, _), (0, _), (1, _)]) (Nat.le_of_ble_eq_true rfl) rfl dX12_isCircle_76 ?_
    refine V_iconst hC dX12_isCircle_77 ?_
    refine V_istore_n hC (lv' := [(3, _), (2, _), (0, _), (1, _)]) (Nat.le_of_ble_eq_true rfl) rfl dX12_isCircle_78 ?_
    exact V_sub [2, 3, 1, 0] rfl kk
def T_X12_isCircle_79 (G : GT) (X : va_W) (Q : Int → Mem → Prop) (E : String → Mem → Prop) (o : Nat) (x1 : Int) (x2 : Int) (x3 : Int) (M : Mem) : Prop := OkI (gB G) (gl G) md_X12_links 0 0 [.ref (ad (gB G) o), .int (I x2)] X M (fun r82 M1 => inR r82 → (inR x3 ∧ inR r82 ∧ (r82 ≤ x3 → L_X12_isCircle_50 G X o x1 M1) ∧ (x3 < r82 → ((0 ≤ x2 ∧ x2 < 256) ∧ (inR (M1 (o + 4) x2.toNat) → ((0 ≤ ((M1 (o + 4) x2.toNat) + x3) ∧ ((M1 (o + 4) x2.toNat) + x3) < 2048) ∧ (inR (M1 (o + 7) ((M1 (o + 4) x2.toNat) + x3).toNat) → OkI (gB G) (gl G) md_X12_find 0 0 [.ref (ad (gB G) o), .int (I (M1 (o + 7) ((M1 (o + 4) x2.toNat) + x3).toNat))] X M1 (fun r107 M2 => inR r107 → OkV (gB G) (gl G) md_X12_mark 0 0 [.ref (ad (gB G) o), .ref (ad (gB G) (o + 13)), .int (I r107)] X M2 (fun M3 => L_X12_isCircle_79 G X o x1 x2 (x3 + 1) M3) NoX) NoX))))))) NoX
set_option maxRecDepth 100000 in
set_option maxHeartbeats 4000000 in
theorem go_X12_isCircle_79 {G : GT} {X : va_W} {Q : Int → Mem → Prop} {E : String → Mem → Prop} {B : WB} {l : Launch} {k n : Nat} {o : Nat} {x1 : Int} {x2 : Int} {x3 : Int} {M : Mem} (h : Ct G md_X12_isCircle X (oI Q E) B l k n) (ho : isHp o) (kk : T_X12_isCircle_79 G X Q E o x1 x2 x3 M) : L_X12_isCircle_79 G X o x1 x2 x3 M := by
  obtain ⟨hC, hR, rfl, hgr, rfl⟩ := h
  unfold T_X12_isCircle_79 at kk
  unfold L_X12_isCircle_79
  refine V_iload_n hC 3 rfl dX12_isCircle_79 ?_
  refine V_aload_n hC 0 rfl dX12_isCircle_80 ?_
  refine V_iload_n hC 2 rfl dX12_isCircle_81 ?_
  refine V_cVi hC (As := [_]) lv_X12_148 dX12_isCircle_82 (d0 := 3) (Nat.le_of_ble_eq_true rfl) (Rm_of hgr) (hp_v ho) rfl (Nat.le_of_ble_eq_true rfl) zk kk (fun r9 M9 z kk => ?_)
  replace kk := kk z
  obtain ⟨ha, hb, k1, k2⟩ := kk
  refine V_icmp_ge hC 119 rfl dX12_isCircle_85 ⟨ha, hb, fun z => ?_, fun z => ?_⟩
  · replace kk := k1 z; clear k1 k2
    refine V_goto hC 50 rfl dX12_isCircle_119 ?_
    exact V_sub [0, 1] rfl kk
  · replace kk := k2 z; clear k1 k2
    refine V_aload_n hC 0 rfl dX12_isCircle_88 ?_
    refine V_aload_n hC 0 rfl dX12_isCircle_89 ?_
    refine V_gr hC fr_X12_59 (hp_r21 ho) dX12_isCircle_90 ?_
    refine V_aload_n hC 0 rfl dX12_isCircle_93 ?_
    refine V_aload_n hC 0 rfl dX12_isCircle_94 ?_
    refine V_gr hC fr_X12_41 (hp_r15 ho) dX12_isCircle_95 ?_
    refine V_aload_n hC 0 rfl dX12_isCircle_98 ?_
    refine V_gr hC fr_X12_32 (hp_r12 ho) dX12_isCircle_99 ?_
    refine V_iload_n hC 2 rfl dX12_isCircle_102 ?_
    obtain ⟨hi, kk⟩ := kk
    refine V_il hC (hp_a4 ho) dX12_isCircle_103 hi (fun z => ?_)
    replace kk := kk z
    refine V_iload_n hC 3 rfl dX12_isCircle_104 ?_
    refine V_iadd hC dX12_isCircle_105 ?_
    obtain ⟨hi, kk⟩ := kk
    refine V_il hC (hp_a7 ho) dX12_isCircle_106 hi (fun z => ?_)
    replace kk := kk z
    refine V_cVi hC (As := [_]) lv_X12_142 dX12_isCircle_107 (d0 := 3) (Nat.le_of_ble_eq_true rfl) (Rm_of hgr) (hp_v ho) rfl (Nat.le_of_ble_eq_true rfl) zk kk (fun r9 M9 z kk => ?_)
    replace kk := kk z
    refine V_cVv hC (As := [_, _]) lv_X12_145 dX12_isCircle_110 (d0 := 3) (Nat.le_of_ble_eq_true rfl) (Rm_of hgr) (hp_v ho) rfl (Nat.le_of_ble_eq_true rfl) zk kk (fun M9 kk => ?_)
    refine V_iinc hC (lv' := [(3, _), (0, _), (1, _), (2, _)]) 3 rfl (Nat.le_of_ble_eq_true rfl) rfl dX12_isCircle_113 ?_
    refine V_goto hC 79 rfl dX12_isCircle_116 ?_
    exact V_sub [1, 2, 3, 0] rfl kk
theorem ok_X12_isCircle {B : WB} {l : Launch} {k n : Nat} {X : va_W} {M : Mem} {Q : Int → Mem → Prop} {E : String → Mem → Prop} {o : Nat} {x1 : Int} (hl : l.stackTraces = false) (body : ∀ G : GT, Ct G md_X12_isCircle X (oI Q E) B l k n → L_X12_isCircle_0 G X o x1 M) : OkI B l md_X12_isCircle k n [.ref (ad B o), .int (I x1)] X M Q E :=
  Ok_of mk_X12_isCircle hl (Nat.le_of_ble_eq_true rfl) (fun G h => by have hb := body G h; obtain ⟨-, -, rfl, -, -⟩ := h; exact hb)
def L_X12_collect_0 (G : GT) (X : va_W) (o : Nat) (x1 : Int) (M : Mem) : Prop := V G md_X12_collect 0 0 X M 0 [(0, .ref (ad (gB G) o)), (1, .int (I x1))] []
def L_X12_collect_37 (G : GT) (X : va_W) (o : Nat) (x1 : Int) (s0 : Int) (M : Mem) : Prop := V G md_X12_collect 0 0 X M 37 [(0, .ref (ad (gB G) o)), (1, .int (I x1))] [.int (I s0)]
def L_X12_collect_68 (G : GT) (X : va_W) (o : Nat) (x1 : Int) (x3 : Int) (x4 : Int) (M : Mem) : Prop := V G md_X12_collect 0 0 X M 68 [(0, .ref (ad (gB G) o)), (1, .int (I x1)), (3, .int (I x3)), (4, .int (I x4))] []
def T_X12_collect_0 (G : GT) (X : va_W) (Q : Int → Mem → Prop) (E : String → Mem → Prop) (o : Nat) (x1 : Int) (M : Mem) : Prop := (inR x1 ∧ (x1 ≠ 0 → (inR x1 ∧ inR (2 : Int) ∧ (x1 ≠ (2 : Int) → L_X12_collect_37 G X o x1 (0 : Int) M) ∧ (x1 = (2 : Int) → L_X12_collect_37 G X o x1 (1 : Int) M))) ∧ (x1 = 0 → OkI (gB G) (gl G) md_X12_allWords 0 0 [.ref (ad (gB G) o), .int (I (0 : Int))] X M (fun r6 M1 => inR r6 → OkI (gB G) (gl G) md_X12_allWords 0 0 [.ref (ad (gB G) o), .int (I (1 : Int))] X M1 (fun r11 M2 => inR r11 → (inR (r6 + r11) ∧ inR (320 : Int) ∧ ((r6 + r11) ≤ (320 : Int) → (inR x1 ∧ inR (2 : Int) ∧ (x1 ≠ (2 : Int) → L_X12_collect_37 G X o x1 (0 : Int) M2) ∧ (x1 = (2 : Int) → L_X12_collect_37 G X o x1 (1 : Int) M2))) ∧ ((320 : Int) < (r6 + r11) → OkI (gB G) (gl G) md_X12_collectR 0 0 [.ref (ad (gB G) o), .int (I (1 : Int))] X M2 (fun r23 M3 => inR r23 → (inR r23 ∧ Q r23 M3)) NoX))) NoX) NoX))
set_option maxRecDepth 100000 in
set_option maxHeartbeats 4000000 in
theorem go_X12_collect_0 {G : GT} {X : va_W} {Q : Int → Mem → Prop} {E : String → Mem → Prop} {B : WB} {l : Launch} {k n : Nat} {o : Nat} {x1 : Int} {M : Mem} (h : Ct G md_X12_collect X (oI Q E) B l k n) (ho : isHp o) (kk : T_X12_collect_0 G X Q E o x1 M) : L_X12_collect_0 G X o x1 M := by
  obtain ⟨hC, hR, rfl, hgr, rfl⟩ := h
  unfold T_X12_collect_0 at kk
  unfold L_X12_collect_0
  refine V_iload_n hC 1 rfl dX12_collect_0 ?_
  obtain ⟨ha, k1, k2⟩ := kk
  refine V_if_ne hC 27 rfl dX12_collect_1 ⟨ha, fun z => ?_, fun z => ?_⟩
  · replace kk := k1 z; clear k1 k2
    refine V_iload_n hC 1 rfl dX12_collect_27 ?_
    refine V_iconst hC dX12_collect_28 ?_
    obtain ⟨ha, hb, k1, k2⟩ := kk
    refine V_icmp_ne hC 36 rfl dX12_collect_29 ⟨ha, hb, fun z => ?_, fun z => ?_⟩
    · replace kk := k1 z; clear k1 k2
      refine V_iconst hC dX12_collect_36 ?_
      exact V_sub [0, 1] rfl kk
    · replace kk := k2 z; clear k1 k2
      refine V_iconst hC dX12_collect_32 ?_
      refine V_goto hC 37 rfl dX12_collect_33 ?_
      exact V_sub [0, 1] rfl kk
  · replace kk := k2 z; clear k1 k2
    refine V_aload_n hC 0 rfl dX12_collect_4 ?_
    refine V_iconst hC dX12_collect_5 ?_
    refine V_cVi hC (As := [_]) lv_X12_168 dX12_collect_6 (d0 := 6) (Nat.le_of_ble_eq_true rfl) (Rm_of hgr) (hp_v ho) rfl (Nat.le_of_ble_eq_true rfl) zk kk (fun r9 M9 z kk => ?_)
    replace kk := kk z
    refine V_aload_n hC 0 rfl dX12_collect_9 ?_
    refine V_iconst hC dX12_collect_10 ?_
    refine V_cVi hC (As := [_]) lv_X12_168 dX12_collect_11 (d0 := 6) (Nat.le_of_ble_eq_true rfl) (Rm_of hgr) (hp_v ho) rfl (Nat.le_of_ble_eq_true rfl) zk kk (fun r9 M9 z kk => ?_)
    replace kk := kk z
    refine V_iadd hC dX12_collect_14 ?_
    refine V_sipush hC (d := dX12_collect_15) rfl ?_
    obtain ⟨ha, hb, k1, k2⟩ := kk
    refine V_icmp_le hC 27 rfl dX12_collect_18 ⟨ha, hb, fun z => ?_, fun z => ?_⟩
    · replace kk := k1 z; clear k1 k2
      refine V_iload_n hC 1 rfl dX12_collect_27 ?_
      refine V_iconst hC dX12_collect_28 ?_
      obtain ⟨ha, hb, k1, k2⟩ := kk
      refine V_icmp_ne hC 36 rfl dX12_collect_29 ⟨ha, hb, fun z => ?_, fun z => ?_⟩
      · replace kk := k1 z; clear k1 k2
        refine V_iconst hC dX12_collect_36 ?_
        exact V_sub [0, 1] rfl kk
      · replace kk := k2 z; clear k1 k2
        refine V_iconst hC dX12_collect_32 ?_
        refine V_goto hC 37 rfl dX12_collect_33 ?_
        exact V_sub [0, 1] rfl kk
    · replace kk := k2 z; clear k1 k2
      refine V_aload_n hC 0 rfl dX12_collect_21 ?_
      refine V_iconst hC dX12_collect_22 ?_
      refine V_cVi hC (As := [_]) lv_X12_172 dX12_collect_23 (d0 := 6) (Nat.le_of_ble_eq_true rfl) (Rm_of hgr) (hp_v ho) rfl (Nat.le_of_ble_eq_true rfl) zk kk (fun r9 M9 z kk => ?_)
      replace kk := kk z
      obtain ⟨hr, kk⟩ := kk
      exact V_iret hC hR (ty := .int) rfl rfl zk dX12_collect_26 ⟨_, rfl, hr, kk⟩
def T_X12_collect_37 (G : GT) (X : va_W) (Q : Int → Mem → Prop) (E : String → Mem → Prop) (o : Nat) (x1 : Int) (s0 : Int) (M : Mem) : Prop := (inR (M o 0) → (inR x1 ∧ inR (3 : Int) ∧ (x1 ≠ (3 : Int) → OkV (gB G) (gl G) md_X12_markStrong 0 0 [.ref (ad (gB G) o), .int (I x1)] X M (fun M1 => OkV (gB G) (gl G) md_X12_markAll 0 0 [.ref (ad (gB G) o), .int (I s0)] X M1 (fun M2 => L_X12_collect_68 G X o x1 (M o 0) (0 : Int) M2) NoX) NoX) ∧ (x1 = (3 : Int) → OkV (gB G) (gl G) md_X12_markKept 0 0 [.ref (ad (gB G) o)] X M (fun M1 => OkV (gB G) (gl G) md_X12_markAll 0 0 [.ref (ad (gB G) o), .int (I s0)] X M1 (fun M2 => L_X12_collect_68 G X o x1 (M o 0) (0 : Int) M2) NoX) NoX)))
set_option maxRecDepth 100000 in
set_option maxHeartbeats 4000000 in
theorem go_X12_collect_37 {G : GT} {X : va_W} {Q : Int → Mem → Prop} {E : String → Mem → Prop} {B : WB} {l : Launch} {k n : Nat} {o : Nat} {x1 : Int} {s0 : Int} {M : Mem} (h : Ct G md_X12_collect X (oI Q E) B l k n) (ho : isHp o) (kk : T_X12_collect_37 G X Q E o x1 s0 M) : L_X12_collect_37 G X o x1 s0 M := by
  obtain ⟨hC, hR, rfl, hgr, rfl⟩ := h
  unfold T_X12_collect_37 at kk
  unfold L_X12_collect_37
  refine V_istore_n hC (lv' := [(2, _), (0, _), (1, _)]) (Nat.le_of_ble_eq_true rfl) rfl dX12_collect_37 ?_
  refine V_aload_n hC 1 rfl dX12_collect_38 ?_
  refine V_gi hC fr_X12_80 (hp_i0 ho) dX12_collect_39 (fun z => ?_)
  replace kk := kk z
  refine V_istore_n hC (lv' := [(3, _), (2, _), (0, _), (1, _)]) (Nat.le_of_ble_eq_true rfl) rfl dX12_collect_42 ?_
  refine V_iload_n hC 3 rfl dX12_collect_43 ?_
  refine V_iconst hC dX12_collect_44 ?_
  obtain ⟨ha, hb, k1, k2⟩ := kk
  refine V_icmp_ne hC 55 rfl dX12_collect_45 ⟨ha, hb, fun z => ?_, fun z => ?_⟩
  · replace kk := k1 z; clear k1 k2
    refine V_aload_n hC 2 rfl dX12_collect_55 ?_
    refine V_iload_n hC 3 rfl dX12_collect_56 ?_
    refine V_cVv hC (As := [_]) lv_X12_178 dX12_collect_57 (d0 := 6) (Nat.le_of_ble_eq_true rfl) (Rm_of hgr) (hp_v ho) rfl (Nat.le_of_ble_eq_true rfl) zk kk (fun M9 kk => ?_)
    refine V_aload_n hC 2 rfl dX12_collect_60 ?_
    refine V_iload_n hC 1 rfl dX12_collect_61 ?_
    refine V_cVv hC (As := [_]) lv_X12_182 dX12_collect_62 (d0 := 6) (Nat.le_of_ble_eq_true rfl) (Rm_of hgr) (hp_v ho) rfl (Nat.le_of_ble_eq_true rfl) zk kk (fun M9 kk => ?_)
    refine V_iconst hC dX12_collect_65 ?_
    refine V_istore hC (lv' := [(4, _), (3, _), (2, _), (0, _), (1, _)]) (Nat.le_of_ble_eq_true rfl) rfl dX12_collect_66 ?_
    exact V_sub [3, 4, 1, 0] rfl kk
  · replace kk := k2 z; clear k1 k2
    refine V_aload_n hC 2 rfl dX12_collect_48 ?_
    refine V_cVv hC (As := []) lv_X12_175 dX12_collect_49 (d0 := 6) (Nat.le_of_ble_eq_true rfl) (Rm_of hgr) (hp_v ho) rfl (Nat.le_of_ble_eq_true rfl) zk kk (fun M9 kk => ?_)
    refine V_goto hC 60 rfl dX12_collect_52 ?_
    refine V_aload_n hC 2 rfl dX12_collect_60 ?_
    refine V_iload_n hC 1 rfl dX12_collect_61 ?_
    refine V_cVv hC (As := [_]) lv_X12_182 dX12_collect_62 (d0 := 6) (Nat.le_of_ble_eq_true rfl) (Rm_of hgr) (hp_v ho) rfl (Nat.le_of_ble_eq_true rfl) zk kk (fun M9 kk => ?_)
    refine V_iconst hC dX12_collect_65 ?_
    refine V_istore hC (lv' := [(4, _), (3, _), (2, _), (0, _), (1, _)]) (Nat.le_of_ble_eq_true rfl) rfl dX12_collect_66 ?_
    exact V_sub [3, 4, 1, 0] rfl kk
def T_X12_collect_68 (G : GT) (X : va_W) (Q : Int → Mem → Prop) (E : String → Mem → Prop) (o : Nat) (x1 : Int) (x3 : Int) (x4 : Int) (M : Mem) : Prop := (inR (M o 0) → (inR x4 ∧ inR (M o 0) ∧ ((M o 0) ≤ x4 → OkV (gB G) (gl G) md_X12_closeUp 0 0 [.ref (ad (gB G) o)] X M (fun M1 => (inR x1 ∧ (x1 ≠ 0 → OkV (gB G) (gl G) md_X12_rise 0 0 [.ref (ad (gB G) o)] X M1 (fun M2 => (inR (M2 o 0) → (inR (x3 - (M2 o 0)) ∧ Q (x3 - (M2 o 0)) M2))) NoX) ∧ (x1 = 0 → OkV (gB G) (gl G) md_X12_grow 0 0 [.ref (ad (gB G) o)] X M1 (fun M2 => (inR (M2 o 0) → (inR (x3 - (M2 o 0)) ∧ Q (x3 - (M2 o 0)) M2))) NoX))) NoX) ∧ (x4 < (M o 0) → ((0 ≤ x4 ∧ x4 < 256) ∧ (inR (M (o + 14) x4.toNat) → (inR (M (o + 14) x4.toNat) ∧ inR (1 : Int) ∧ ((M (o + 14) x4.toNat) ≠ (1 : Int) → L_X12_collect_68 G X o x1 x3 (x4 + 1) M) ∧ ((M (o + 14) x4.toNat) = (1 : Int) → ((0 ≤ x4 ∧ x4 < 256) ∧ (inR (M (o + 2) x4.toNat) → (inR (M (o + 2) x4.toNat) ∧ inR (3 : Int) ∧ ((M (o + 2) x4.toNat) < (3 : Int) → L_X12_collect_68 G X o x1 x3 (x4 + 1) M) ∧ ((3 : Int) ≤ (M (o + 2) x4.toNat) → OkV (gB G) (gl G) md_X12_loosen 0 0 [.ref (ad (gB G) o), .int (I x4)] X M (fun M1 => L_X12_collect_68 G X o x1 x3 (x4 + 1) M1) NoX)))))))))))
set_option maxRecDepth 100000 in
set_option maxHeartbeats 4000000 in
theorem go_X12_collect_68 {G : GT} {X : va_W} {Q : Int → Mem → Prop} {E : String → Mem → Prop} {B : WB} {l : Launch} {k n : Nat} {o : Nat} {x1 : Int} {x3 : Int} {x4 : Int} {M : Mem} (h : Ct G md_X12_collect X (oI Q E) B l k n) (ho : isHp o) (kk : T_X12_collect_68 G X Q E o x1 x3 x4 M) : L_X12_collect_68 G X o x1 x3 x4 M := by
  obtain ⟨hC, hR, rfl, hgr, rfl⟩ := h
  unfold T_X12_collect_68 at kk
  unfold L_X12_collect_68
  refine V_iload hC 3 rfl dX12_collect_68 ?_
  refine V_aload_n hC 0 rfl dX12_collect_70 ?_
  refine V_gi hC fr_X12_80 (hp_i0 ho) dX12_collect_71 (fun z => ?_)
  replace kk := kk z
  obtain ⟨ha, hb, k1, k2⟩ := kk
  refine V_icmp_ge hC 111 rfl dX12_collect_74 ⟨ha, hb, fun z => ?_, fun z => ?_⟩
  · replace kk := k1 z; clear k1 k2
    refine V_aload_n hC 0 rfl dX12_collect_111 ?_
    refine V_cVv hC (As := []) lv_X12_189 dX12_collect_112 (d0 := 6) (Nat.le_of_ble_eq_true rfl) (Rm_of hgr) (hp_v ho) rfl (Nat.le_of_ble_eq_true rfl) zk kk (fun M9 kk => ?_)
    refine V_iload_n hC 1 rfl dX12_collect_115 ?_
    obtain ⟨ha, k1, k2⟩ := kk
    refine V_if_ne hC 126 rfl dX12_collect_116 ⟨ha, fun z => ?_, fun z => ?_⟩
    · replace kk := k1 z; clear k1 k2
      refine V_aload_n hC 0 rfl dX12_collect_126 ?_
      refine V_cVv hC (As := []) lv_X12_195 dX12_collect_127 (d0 := 6) (Nat.le_of_ble_eq_true rfl) (Rm_of hgr) (hp_v ho) rfl (Nat.le_of_ble_eq_true rfl) zk kk (fun M9 kk => ?_)
      refine V_iload_n hC 2 rfl dX12_collect_130 ?_
      refine V_aload_n hC 0 rfl dX12_collect_131 ?_
      refine V_gi hC fr_X12_80 (hp_i0 ho) dX12_collect_132 (fun z => ?_)
      replace kk := kk z
      refine V_isub hC dX12_collect_135 ?_
      obtain ⟨hr, kk⟩ := kk
      exact V_iret hC hR (ty := .int) rfl rfl zk dX12_collect_136 ⟨_, rfl, hr, kk⟩
    · replace kk := k2 z; clear k1 k2
      refine V_aload_n hC 0 rfl dX12_collect_119 ?_
      refine V_cVv hC (As := []) lv_X12_192 dX12_collect_120 (d0 := 6) (Nat.le_of_ble_eq_true rfl) (Rm_of hgr) (hp_v ho) rfl (Nat.le_of_ble_eq_true rfl) zk kk (fun M9 kk => ?_)
      refine V_goto hC 130 rfl dX12_collect_123 ?_
      refine V_iload_n hC 2 rfl dX12_collect_130 ?_
      refine V_aload_n hC 0 rfl dX12_collect_131 ?_
      refine V_gi hC fr_X12_80 (hp_i0 ho) dX12_collect_132 (fun z => ?_)
      replace kk := kk z
      refine V_isub hC dX12_collect_135 ?_
      obtain ⟨hr, kk⟩ := kk
      exact V_iret hC hR (ty := .int) rfl rfl zk dX12_collect_136 ⟨_, rfl, hr, kk⟩
  · replace kk := k2 z; clear k1 k2
    refine V_aload_n hC 0 rfl dX12_collect_77 ?_
    refine V_gr hC fr_X12_62 (hp_r22 ho) dX12_collect_78 ?_
    refine V_iload hC 3 rfl dX12_collect_81 ?_
    obtain ⟨hi, kk⟩ := kk
    refine V_il hC (hp_a14 ho) dX12_collect_83 hi (fun z => ?_)
    replace kk := kk z
    refine V_iconst hC dX12_collect_84 ?_
    obtain ⟨ha, hb, k1, k2⟩ := kk
    refine V_icmp_ne hC 105 rfl dX12_collect_85 ⟨ha, hb, fun z => ?_, fun z => ?_⟩
    · replace kk := k1 z; clear k1 k2
      refine V_iinc hC (lv' := [(4, _), (0, _), (1, _), (3, _)]) 3 rfl (Nat.le_of_ble_eq_true rfl) rfl dX12_collect_105 ?_
      refine V_goto hC 68 rfl dX12_collect_108 ?_
      exact V_sub [1, 2, 3, 0] rfl kk
    · replace kk := k2 z; clear k1 k2
      refine V_aload_n hC 0 rfl dX12_collect_88 ?_
      refine V_gr hC fr_X12_26 (hp_r10 ho) dX12_collect_89 ?_
      refine V_iload hC 3 rfl dX12_collect_92 ?_
      obtain ⟨hi, kk⟩ := kk
      refine V_il hC (hp_a2 ho) dX12_collect_94 hi (fun z => ?_)
      replace kk := kk z
      refine V_iconst hC dX12_collect_95 ?_
      obtain ⟨ha, hb, k1, k2⟩ := kk
      refine V_icmp_lt hC 105 rfl dX12_collect_96 ⟨ha, hb, fun z => ?_, fun z => ?_⟩
      · replace kk := k1 z; clear k1 k2
        refine V_iinc hC (lv' := [(4, _), (0, _), (1, _), (3, _)]) 3 rfl (Nat.le_of_ble_eq_true rfl) rfl dX12_collect_105 ?_
        refine V_goto hC 68 rfl dX12_collect_108 ?_
        exact V_sub [1, 2, 3, 0] rfl kk
      · replace kk := k2 z; clear k1 k2
        refine V_aload_n hC 0 rfl dX12_collect_99 ?_
        refine V_iload hC 3 rfl dX12_collect_100 ?_
        refine V_cVv hC (As := [_]) lv_X12_186 dX12_collect_102 (d0 := 6) (Nat.le_of_ble_eq_true rfl) (Rm_of hgr) (hp_v ho) rfl (Nat.le_of_ble_eq_true rfl) zk kk (fun M9 kk => ?_)
        refine V_iinc hC (lv' := [(4, _), (0, _), (1, _), (3, _)]) 3 rfl (Nat.le_of_ble_eq_true rfl) rfl dX12_collect_105 ?_
        refine V_goto hC 68 rfl dX12_collect_108 ?_
        exact V_sub [1, 2, 3, 0] rfl kk
theorem ok_X12_collect {B : WB} {l : Launch} {k n : Nat} {X : va_W} {M : Mem} {Q : Int → Mem → Prop} {E : String → Mem → Prop} {o : Nat} {x1 : Int} (hl : l.stackTraces = false) (body : ∀ G : GT, Ct G md_X12_collect X (oI Q E) B l k n → L_X12_collect_0 G X o x1 M) : OkI B l md_X12_collect k n [.ref (ad B o), .int (I x1)] X M Q E :=
  Ok_of mk_X12_collect hl (Nat.le_of_ble_eq_true rfl) (fun G h => by have hb := body G h; obtain ⟨-, -, rfl, -, -⟩ := h; exact hb)
theorem ok_X12_collectR {B : WB} {l : Launch} {k n : Nat} {X : va_W} {M : Mem} {Q : Int → Mem → Prop} {E : String → Mem → Prop} {o : Nat} {x1 : Int} (hl : l.stackTraces = false) (body : ∀ G : GT, Ct G md_X12_collectR X (oI Q E) B l k n → V G md_X12_collectR 0 0 X M 0 [(0, .ref (ad (gB G) o)), (1, .int (I x1))] []) : OkI B l md_X12_collectR k n [.ref (ad B o), .int (I x1)] X M Q E :=
  Ok_of mk_X12_collectR hl (Nat.le_of_ble_eq_true rfl) (fun G h => by have hb := body G h; obtain ⟨-, -, rfl, -, -⟩ := h; exact hb)
def L_X12_markStrong_0 (G : GT) (X : va_W) (o : Nat) (x1 : Int) (M : Mem) : Prop := V G md_X12_markStrong 0 0 X M 0 [(0, .ref (ad (gB G) o)), (1, .int (I x1))] []
def L_X12_markStrong_18 (G : GT) (X : va_W) (o : Nat) (x1 : Int) (x2 : Int) (M : Mem) : Prop := V G md_X12_markStrong 0 0 X M 18 [(0, .ref (ad (gB G) o)), (1, .int (I x1)), (2, .int (I x2))] []
def T_X12_markStrong_0 (G : GT) (X : va_W) (Q : Mem → Prop) (E : String → Mem → Prop) (o : Nat) (x1 : Int) (M : Mem) : Prop := OkV (gB G) (gl G) md_X12_none 0 0 [.ref (ad (gB G) o), .ref (ad (gB G) (o + 13))] X M (fun M1 => OkV (gB G) (gl G) md_X12_markRoots 0 0 [.ref (ad (gB G) o), .ref (ad (gB G) (o + 13))] X M1 (fun M2 => L_X12_markStrong_18 G X o x1 (0 : Int) M2) NoX) NoX
set_option maxRecDepth 100000 in
set_option maxHeartbeats 4000000 in
theorem go_X12_markStrong_0 {G : GT} {X : va_W} {Q : Mem → Prop} {E : String → Mem → Prop} {B : WB} {l : Launch} {k n : Nat} {o : Nat} {x1 : Int} {M : Mem} (h : Ct G md_X12_markStrong X (oV Q E) B l k n) (ho : isHp o) (kk : T_X12_markStrong_0 G X Q E o x1 M) : L_X12_markStrong_0 G X o x1 M := by
  obtain ⟨hC, hR, rfl, hgr, rfl⟩ := h
  unfold T_X12_markStrong_0 at kk
  unfold L_X12_markStrong_0
  refine V_aload_n hC 0 rfl dX12_markStrong_0 ?_
  refine V_aload_n hC 0 rfl dX12_markStrong_1 ?_
  refine V_gr hC fr_X12_59 (hp_r21 ho) dX12_markStrong_2 ?_
  refine V_cVv hC (As := [_]) lv_X12_107 dX12_markStrong_5 (d0 := 3) (Nat.le_of_ble_eq_true rfl) (Rm_of hgr) (hp_v ho) rfl (Nat.le_of_ble_eq_true rfl) zk kk (fun M9 kk => ?_)
  refine V_aload_n hC 0 rfl dX12_markStrong_8 ?_
  refine V_aload_n hC 0 rfl dX12_markStrong_9 ?_
  refine V_gr hC fr_X12_59 (hp_r21 ho) dX12_markStrong_10 ?_
  refine V_cVv hC (As := [_]) lv_X12_154 dX12_markStrong_13 (d0 := 3) (Nat.le_of_ble_eq_true rfl) (Rm_of hgr) (hp_v ho) rfl (Nat.le_of_ble_eq_true rfl) zk kk (fun M9 kk => ?_)
  refine V_iconst hC dX12_markStrong_16 ?_
  refine V_istore_n hC (lv' := [(2, _), (0, _), (1, _)]) (Nat.le_of_ble_eq_true rfl) rfl dX12_markStrong_17 ?_
  exact V_sub [1, 2, 0] rfl kk
def T_X12_markStrong_18 (G : GT) (X : va_W) (Q : Mem → Prop) (E : String → Mem → Prop) (o : Nat) (x1 : Int) (x2 : Int) (M : Mem) : Prop := (inR (M o 0) → (inR x2 ∧ inR (M o 0) ∧ ((M o 0) ≤ x2 → (inR x1 ∧ inR (2 : Int) ∧ (x1 ≠ (2 : Int) → OkV (gB G) (gl G) md_X12_spread 0 0 [.ref (ad (gB G) o), .ref (ad (gB G) (o + 13)), .int (I (0 : Int))] X M (fun M1 => Q M1) NoX) ∧ (x1 = (2 : Int) → OkV (gB G) (gl G) md_X12_spread 0 0 [.ref (ad (gB G) o), .ref (ad (gB G) (o + 13)), .int (I (1 : Int))] X M (fun M1 => Q M1) NoX))) ∧ (x2 < (M o 0) → (inR x1 ∧ (x1 ≠ 0 → (inR x1 ∧ inR (2 : Int) ∧ (x1 ≠ (2 : Int) → OkV (gB G) (gl G) md_X12_spread 0 0 [.ref (ad (gB G) o), .ref (ad (gB G) (o + 13)), .int (I (0 : Int))] X M (fun M1 => Q M1) NoX) ∧ (x1 = (2 : Int) → OkV (gB G) (gl G) md_X12_spread 0 0 [.ref (ad (gB G) o), .ref (ad (gB G) (o + 13)), .int (I (1 : Int))] X M (fun M1 => Q M1) NoX))) ∧ (x1 = 0 → OkI (gB G) (gl G) md_X12_is 0 0 [.ref (ad (gB G) o), .int (I x2), .int (I (1 : Int))] X M (fun r33 M1 => inR r33 → (inR r33 ∧ (r33 = 0 → L_X12_markStrong_18 G X o x1 (x2 + 1) M1) ∧ (r33 ≠ 0 → OkV (gB G) (gl G) md_X12_mark 0 0 [.ref (ad (gB G) o), .ref (ad (gB G) (o + 13)), .int (I x2)] X M1 (fun M2 => L_X12_markStrong_18 G X o x1 (x2 + 1) M2) NoX))) NoX)))))
set_option maxRecDepth 100000 in
set_option maxHeartbeats 4000000 in
theorem go_X12_markStrong_18 {G : GT} {X : va_W} {Q : Mem → Prop} {E : String → Mem → Prop} {B : WB} {l : Launch} {k n : Nat} {o : Nat} {x1 : Int} {x2 : Int} {M : Mem} (h : Ct G md_X12_markStrong X (oV Q E) B l k n) (ho : isHp o) (kk : T_X12_markStrong_18 G X Q E o x1 x2 M) : L_X12_markStrong_18 G X o x1 x2 M := by
  obtain ⟨hC, hR, rfl, hgr, rfl⟩ := h
  unfold T_X12_markStrong_18 at kk
  unfold L_X12_markStrong_18
  refine V_iload_n hC 2 rfl dX12_markStrong_18 ?_
  refine V_aload_n hC 0 rfl dX12_markStrong_19 ?_
  refine V_gi hC fr_X12_80 (hp_i0 ho) dX12_markStrong_20 (fun z => ?_)
  replace kk := kk z
  obtain ⟨ha, hb, k1, k2⟩ := kk
  refine V_icmp_ge hC 54 rfl dX12_markStrong_23 ⟨ha, hb, fun z => ?_, fun z => ?_⟩
  · replace kk := k1 z; clear k1 k2
    refine V_aload_n hC 0 rfl dX12_markStrong_54 ?_
    refine V_aload_n hC 0 rfl dX12_markStrong_55 ?_
    refine V_gr hC fr_X12_59 (hp_r21 ho) dX12_markStrong_56 ?_
    refine V_iload_n hC 1 rfl dX12_markStrong_59 ?_
    refine V_iconst hC dX12_markStrong_60 ?_
    obtain ⟨ha, hb, k1, k2⟩ := kk
    refine V_icmp_ne hC 68 rfl dX12_markStrong_61 ⟨ha, hb, fun z => ?_, fun z => ?_⟩
    · replace kk := k1 z; clear k1 k2
      refine V_iconst hC dX12_markStrong_68 ?_
      refine V_cVv hC (As := [_, _]) lv_X12_157 dX12_markStrong_69 (d0 := 3) (Nat.le_of_ble_eq_true rfl) (Rm_of hgr) (hp_v ho) rfl (Nat.le_of_ble_eq_true rfl) zk kk (fun M9 kk => ?_)
      exact V_vret hC hR rfl zk dX12_markStrong_72 ⟨rfl, kk⟩
    · replace kk := k2 z; clear k1 k2
      refine V_iconst hC dX12_markStrong_64 ?_
      refine V_goto hC 69 rfl dX12_markStrong_65 ?_
      refine V_cVv hC (As := [_, _]) lv_X12_157 dX12_markStrong_69 (d0 := 3) (Nat.le_of_ble_eq_true rfl) (Rm_of hgr) (hp_v ho) rfl (Nat.le_of_ble_eq_true rfl) zk kk (fun M9 kk => ?_)
      exact V_vret hC hR rfl zk dX12_markStrong_72 ⟨rfl, kk⟩
  · replace kk := k2 z; clear k1 k2
    refine V_iload_n hC 1 rfl dX12_markStrong_26 ?_
    obtain ⟨ha, k1, k2⟩ := kk
    refine V_if_ne hC 54 rfl dX12_markStrong_27 ⟨ha, fun z => ?_, fun z => ?_⟩
    · replace kk := k1 z; clear k1 k2
      refine V_aload_n hC 0 rfl dX12_markStrong_54 ?_
      refine V_aload_n hC 0 rfl dX12_markStrong_55 ?_
      refine V_gr hC fr_X12_59 (hp_r21 ho) dX12_markStrong_56 ?_
      refine V_iload_n hC 1 rfl dX12_markStrong_59 ?_
      refine V_iconst hC dX12_markStrong_60 ?_
      obtain ⟨ha, hb, k1, k2⟩ := kk
      refine V_icmp_ne hC 68 rfl dX12_markStrong_61 ⟨ha, hb, fun z => ?_, fun z => ?_⟩
      · replace kk := k1 z; clear k1 k2
        refine V_iconst hC dX12_markStrong_68 ?_
        refine V_cVv hC (As := [_, _]) lv_X12_157 dX12_markStrong_69 (d0 := 3) (Nat.le_of_ble_eq_true rfl) (Rm_of hgr) (hp_v ho) rfl (Nat.le_of_ble_eq_true rfl) zk kk (fun M9 kk => ?_)
        exact V_vret hC hR rfl zk dX12_markStrong_72 ⟨rfl, kk⟩
      · replace kk := k2 z; clear k1 k2
        refine V_iconst hC dX12_markStrong_64 ?_
        refine V_goto hC 69 rfl dX12_markStrong_65 ?_
        refine V_cVv hC (As := [_, _]) lv_X12_157 dX12_markStrong_69 (d0 := 3) (Nat.le_of_ble_eq_true rfl) (Rm_of hgr) (hp_v ho) rfl (Nat.le_of_ble_eq_true rfl) zk kk (fun M9 kk => ?_)
        exact V_vret hC hR rfl zk dX12_markStrong_72 ⟨rfl, kk⟩
    · replace kk := k2 z; clear k1 k2
      refine V_aload_n hC 0 rfl dX12_markStrong_30 ?_
      refine V_iload_n hC 2 rfl dX12_markStrong_31 ?_
      refine V_iconst hC dX12_markStrong_32 ?_
      refine V_cVi hC (As := [_, _]) lv_X12_118 dX12_markStrong_33 (d0 := 3) (Nat.le_of_ble_eq_true rfl) (Rm_of hgr) (hp_v ho) rfl (Nat.le_of_ble_eq_true rfl) zk kk (fun r9 M9 z kk => ?_)
      replace kk := kk z
      obtain ⟨ha, k1, k2⟩ := kk
      refine V_if_eq hC 48 rfl dX12_markStrong_36 ⟨ha, fun z => ?_, fun z => ?_⟩
      · replace kk := k1 z; clear k1 k2
        refine V_iinc hC (lv' := [(2, _), (0, _), (1, _)]) 2 rfl (Nat.le_of_ble_eq_true rfl) rfl dX12_markStrong_48 ?_
        refine V_goto hC 18 rfl dX12_markStrong_51 ?_
        exact V_sub [1, 2, 0] rfl kk
      · replace kk := k2 z; clear k1 k2
        refine V_aload_n hC 0 rfl dX12_markStrong_39 ?_
        refine V_aload_n hC 0 rfl dX12_markStrong_40 ?_
        refine V_gr hC fr_X12_59 (hp_r21 ho) dX12_markStrong_41 ?_
        refine V_iload_n hC 2 rfl dX12_markStrong_44 ?_
        refine V_cVv hC (As := [_, _]) lv_X12_145 dX12_markStrong_45 (d0 := 3) (Nat.le_of_ble_eq_true rfl) (Rm_of hgr) (hp_v ho) rfl (Nat.le_of_ble_eq_true rfl) zk kk (fun M9 kk => ?_)
        refine V_iinc hC (lv' := [(2, _), (0, _), (1, _)]) 2 rfl (Nat.le_of_ble_eq_true rfl) rfl dX12_markStrong_48 ?_
        refine V_goto hC 18 rfl dX12_markStrong_51 ?_
        exact V_sub [1, 2, 0] rfl kk
theorem ok_X12_markStrong {B : WB} {l : Launch} {k n : Nat} {X : va_W} {M : Mem} {Q : Mem → Prop} {E : String → Mem → Prop} {o : Nat} {x1 : Int} (hl : l.stackTraces = false) (body : ∀ G : GT, Ct G md_X12_markStrong X (oV Q E) B l k n → L_X12_markStrong_0 G X o x1 M) : OkV B l md_X12_markStrong k n [.ref (ad B o), .int (I x1)] X M Q E :=
  Ok_of mk_X12_markStrong hl (Nat.le_of_ble_eq_true rfl) (fun G h => by have hb := body G h; obtain ⟨-, -, rfl, -, -⟩ := h; exact hb)
def L_X12_markKept_0 (G : GT) (X : va_W) (o : Nat) (M : Mem) : Prop := V G md_X12_markKept 0 0 X M 0 [(0, .ref (ad (gB G) o))] []
def L_X12_markKept_13 (G : GT) (X : va_W) (o : Nat) (x1 : Int) (M : Mem) : Prop := V G md_X12_markKept 0 0 X M 13 [(0, .ref (ad (gB G) o)), (1, .int (I x1))] []
def T_X12_markKept_0 (G : GT) (X : va_W) (Q : Mem → Prop) (E : String → Mem → Prop) (o : Nat) (M : Mem) : Prop := OkI (gB G) (gl G) md_X12_toKeep 0 0 [.ref (ad (gB G) 97)] X M (fun r7 M1 => inR r7 → L_X12_markKept_13 G X o (0 : Int) M1) NoX
set_option maxRecDepth 100000 in
set_option maxHeartbeats 4000000 in
theorem go_X12_markKept_0 {G : GT} {X : va_W} {Q : Mem → Prop} {E : String → Mem → Prop} {B : WB} {l : Launch} {k n : Nat} {o : Nat} {M : Mem} (h : Ct G md_X12_markKept X (oV Q E) B l k n) (ho : isHp o) (kk : T_X12_markKept_0 G X Q E o M) : L_X12_markKept_0 G X o M := by
  obtain ⟨hC, hR, rfl, hgr, rfl⟩ := h
  unfold T_X12_markKept_0 at kk
  unfold L_X12_markKept_0
  refine V_aload_n hC 0 rfl dX12_markKept_0 ?_
  refine V_gr hC fr_X12_3 (hp_r27 ho) dX12_markKept_1 ?_
  refine V_gr hC fr_X12_198 qr_72_13 dX12_markKept_4 ?_
  refine V_cVi hC (As := []) lv_X12_202 dX12_markKept_7 (d0 := 4) (Nat.le_of_ble_eq_true rfl) (Rm_of hgr) rv_97 rfl (Nat.le_of_ble_eq_true rfl) zk kk (fun r9 M9 z kk => ?_)
  replace kk := kk z
  refine V_pop hC rfl dX12_markKept_10 ?_
  refine V_iconst hC dX12_markKept_11 ?_
  refine V_istore_n hC (lv' := [(1, _), (0, _)]) (Nat.le_of_ble_eq_true rfl) rfl dX12_markKept_12 ?_
  exact V_sub [1, 0] rfl kk
def T_X12_markKept_13 (G : GT) (X : va_W) (Q : Mem → Prop) (E : String → Mem → Prop) (o : Nat) (x1 : Int) (M : Mem) : Prop := (inR (M o 0) → (inR x1 ∧ inR (M o 0) ∧ ((M o 0) ≤ x1 → Q M) ∧ (x1 < (M o 0) → ((0 ≤ x1 ∧ x1 < 256) ∧ (inR (M (o + 1) x1.toNat) → OkI (gB G) (gl G) md_X12_find 0 0 [.ref (ad (gB G) 97), .int (I (M (o + 1) x1.toNat))] X M (fun r34 M1 => inR r34 → ((0 ≤ x1 ∧ x1 < 256) ∧ (inR (M1 (o + 1) x1.toNat) → (inR (M1 97 2) → (inR (M1 (o + 1) x1.toNat) ∧ inR (M1 97 2) ∧ ((M1 97 2) ≤ (M1 (o + 1) x1.toNat) → ((0 ≤ x1 ∧ x1 < 256) ∧ inR (1 : Int) ∧ ∀ M2 : Mem, M2 = up M1 (o + 13) x1.toNat (1 : Int) → L_X12_markKept_13 G X o (x1 + 1) M2)) ∧ ((M1 (o + 1) x1.toNat) < (M1 97 2) → (inR r34 ∧ inR (-1 : Int) ∧ (r34 = (-1 : Int) → ((0 ≤ x1 ∧ x1 < 256) ∧ inR (0 : Int) ∧ ∀ M2 : Mem, M2 = up M1 (o + 13) x1.toNat (0 : Int) → L_X12_markKept_13 G X o (x1 + 1) M2)) ∧ (r34 ≠ (-1 : Int) → ((0 ≤ r34 ∧ r34 < 256) ∧ (inR (M1 111 r34.toNat) → (inR (M1 111 r34.toNat) ∧ inR (1 : Int) ∧ ((M1 111 r34.toNat) ≠ (1 : Int) → ((0 ≤ x1 ∧ x1 < 256) ∧ inR (0 : Int) ∧ ∀ M2 : Mem, M2 = up M1 (o + 13) x1.toNat (0 : Int) → L_X12_markKept_13 G X o (x1 + 1) M2)) ∧ ((M1 111 r34.toNat) = (1 : Int) → ((0 ≤ x1 ∧ x1 < 256) ∧ inR (1 : Int) ∧ ∀ M2 : Mem, M2 = up M1 (o + 13) x1.toNat (1 : Int) → L_X12_markKept_13 G X o (x1 + 1) M2))))))))))))) NoX)))))
set_option maxRecDepth 100000 in
set_option maxHeartbeats 4000000 in
theorem go_X12_markKept_13 {G : GT} {X : va_W} {Q : Mem → Prop} {E : String → Mem → Prop} {B : WB} {l : Launch} {k n : Nat} {o : Nat} {x1 : Int} {M : Mem} (h : Ct G md_X12_markKept X (oV Q E) B l k n) (ho : isHp o) (kk : T_X12_markKept_13 G X Q E o x1 M) : L_X12_markKept_13 G X o x1 M := by
  obtain ⟨hC, hR, rfl, hgr, rfl⟩ := h
  unfold T_X12_markKept_13 at kk
  unfold L_X12_markKept_13
  refine V_iload_n hC 1 rfl dX12_markKept_13 ?_
  refine V_aload_n hC 0 rfl dX12_markKept_14 ?_
  refine V_gi hC fr_X12_80 (hp_i0 ho) dX12_markKept_15 (fun z => ?_)
  replace kk := kk z
  obtain ⟨ha, hb, k1, k2⟩ := kk
  refine V_icmp_ge hC 95 rfl dX12_markKept_18 ⟨ha, hb, fun z => ?_, fun z => ?_⟩
  · replace kk := k1 z; clear k1 k2
    exact V_vret hC hR rfl zk dX12_markKept_95 ⟨rfl, kk⟩
  · replace kk := k2 z; clear k1 k2
    refine V_aload_n hC 0 rfl dX12_markKept_21 ?_
    refine V_gr hC fr_X12_3 (hp_r27 ho) dX12_markKept_22 ?_
    refine V_gr hC fr_X12_198 qr_72_13 dX12_markKept_25 ?_
    refine V_aload_n hC 0 rfl dX12_markKept_28 ?_
    refine V_gr hC fr_X12_22 (hp_r9 ho) dX12_markKept_29 ?_
    refine V_iload_n hC 1 rfl dX12_markKept_32 ?_
    obtain ⟨hi, kk⟩ := kk
    refine V_il hC (hp_a1 ho) dX12_markKept_33 hi (fun z => ?_)
    replace kk := kk z
    refine V_cVi hC (As := [_]) lv_X12_142 dX12_markKept_34 (d0 := 4) (Nat.le_of_ble_eq_true rfl) (Rm_of hgr) rv_97 rfl (Nat.le_of_ble_eq_true rfl) zk kk (fun r9 M9 z kk => ?_)
    replace kk := kk z
    refine V_istore_n hC (lv' := [(2, _), (0, _), (1, _)]) (Nat.le_of_ble_eq_true rfl) rfl dX12_markKept_37 ?_
    refine V_aload_n hC 1 rfl dX12_markKept_38 ?_
    refine V_gr hC fr_X12_59 (hp_r21 ho) dX12_markKept_39 ?_
    refine V_iload_n hC 2 rfl dX12_markKept_42 ?_
    refine V_aload_n hC 1 rfl dX12_markKept_43 ?_
    refine V_gr hC fr_X12_22 (hp_r9 ho) dX12_markKept_44 ?_
    refine V_iload_n hC 2 rfl dX12_markKept_47 ?_
    obtain ⟨hi, kk⟩ := kk
    refine V_il hC (hp_a1 ho) dX12_markKept_48 hi (fun z => ?_)
    replace kk := kk z
    refine V_aload_n hC 1 rfl dX12_markKept_49 ?_
    refine V_gr hC fr_X12_3 (hp_r27 ho) dX12_markKept_50 ?_
    refine V_gr hC fr_X12_198 qr_72_13 dX12_markKept_53 ?_
    refine V_gi hC fr_X12_86 qi_97_2 dX12_markKept_56 (fun z => ?_)
    replace kk := kk z
    obtain ⟨ha, hb, k1, k2⟩ := kk
    refine V_icmp_ge hC 83 rfl dX12_markKept_59 ⟨ha, hb, fun z => ?_, fun z => ?_⟩
    · replace kk := k1 z; clear k1 k2
      refine V_iconst hC dX12_markKept_83 ?_
      refine V_goto hC 88 rfl dX12_markKept_84 ?_
      obtain ⟨hi, hv, kk⟩ := kk
      refine V_is hC (hp_a13 ho) dX12_markKept_88 hi hv ?_
      replace kk := kk _ rfl
      refine V_iinc hC (lv' := [(1, _), (2, _), (0, _)]) 2 rfl (Nat.le_of_ble_eq_true rfl) rfl dX12_markKept_89 ?_
      refine V_goto hC 13 rfl dX12_markKept_92 ?_
      exact V_sub [2, 0] rfl kk
    · replace kk := k2 z; clear k1 k2
      refine V_iload_n hC 0 rfl dX12_markKept_62 ?_
      refine V_iconst hC dX12_markKept_63 ?_
      obtain ⟨ha, hb, k1, k2⟩ := kk
      refine V_icmp_eq hC 87 rfl dX12_markKept_64 ⟨ha, hb, fun z => ?_, fun z => ?_⟩
      · replace kk := k1 z; clear k1 k2
        refine V_iconst hC dX12_markKept_87 ?_
        obtain ⟨hi, hv, kk⟩ := kk
        refine V_is hC (hp_a13 ho) dX12_markKept_88 hi hv ?_
        replace kk := kk _ rfl
        refine V_iinc hC (lv' := [(1, _), (2, _), (0, _)]) 2 rfl (Nat.le_of_ble_eq_true rfl) rfl dX12_markKept_89 ?_
        refine V_goto hC 13 rfl dX12_markKept_92 ?_
        exact V_sub [2, 0] rfl kk
      · replace kk := k2 z; clear k1 k2
        refine V_aload_n hC 1 rfl dX12_markKept_67 ?_
        refine V_gr hC fr_X12_3 (hp_r27 ho) dX12_markKept_68 ?_
        refine V_gr hC fr_X12_198 qr_72_13 dX12_markKept_71 ?_
        refine V_gr hC fr_X12_62 qr_97_22 dX12_markKept_74 ?_
        refine V_iload_n hC 0 rfl dX12_markKept_77 ?_
        obtain ⟨hi, kk⟩ := kk
        refine V_il hC qa_111 dX12_markKept_78 hi (fun z => ?_)
        replace kk := kk z
        refine V_iconst hC dX12_markKept_79 ?_
        obtain ⟨ha, hb, k1, k2⟩ := kk
        refine V_icmp_ne hC 87 rfl dX12_markKept_80 ⟨ha, hb, fun z => ?_, fun z => ?_⟩
        · replace kk := k1 z; clear k1 k2
          refine V_iconst hC dX12_markKept_87 ?_
          obtain ⟨hi, hv, kk⟩ := kk
          refine V_is hC (hp_a13 ho) dX12_markKept_88 hi hv ?_
          replace kk := kk _ rfl
          refine V_iinc hC (lv' := [(1, _), (2, _), (0, _)]) 2 rfl (Nat.le_of_ble_eq_true rfl) rfl dX12_markKept_89 ?_
          refine V_goto hC 13 rfl dX12_markKept_92 ?_
          exact V_sub [2, 0] rfl kk
        · replace kk := k2 z; clear k1 k2
          refine V_iconst hC dX12_markKept_83 ?_
          refine V_goto hC 88 rfl dX12_markKept_84 ?_
          obtain ⟨hi, hv, kk⟩ := kk
          refine V_is hC (hp_a13 ho) dX12_markKept_88 hi hv ?_
          replace kk := kk _ rfl
          refine V_iinc hC (lv' := [(1, _), (2, _), (0, _)]) 2 rfl (Nat.le_of_ble_eq_true rfl) rfl dX12_markKept_89 ?_
          refine V_goto hC 13 rfl dX12_markKept_92 ?_
          exact V_sub [2, 0] rfl kk
theorem ok_X12_markKept {B : WB} {l : Launch} {k n : Nat} {X : va_W} {M : Mem} {Q : Mem → Prop} {E : String → Mem → Prop} {o : Nat} (hl : l.stackTraces = false) (body : ∀ G : GT, Ct G md_X12_markKept X (oV Q E) B l k n → L_X12_markKept_0 G X o M) : OkV B l md_X12_markKept k n [.ref (ad B o)] X M Q E :=
  Ok_of mk_X12_markKept hl (Nat.le_of_ble_eq_true rfl) (fun G h => by have hb := body G h; obtain ⟨-, -, rfl, -, -⟩ := h; exact hb)
def L_X12_markAll_0 (G : GT) (X : va_W) (o : Nat) (x1 : Int) (M : Mem) : Prop := V G md_X12_markAll 0 0 X M 0 [(0, .ref (ad (gB G) o)), (1, .int (I x1))] []
def L_X12_markAll_10 (G : GT) (X : va_W) (o : Nat) (x1 : Int) (x2 : Int) (M : Mem) : Prop := V G md_X12_markAll 0 0 X M 10 [(0, .ref (ad (gB G) o)), (1, .int (I x1)), (2, .int (I x2))] []
def L_X12_markAll_75 (G : GT) (X : va_W) (o : Nat) (x1 : Int) (x2 : Int) (x3 : Int) (M : Mem) : Prop := V G md_X12_markAll 0 0 X M 75 [(0, .ref (ad (gB G) o)), (1, .int (I x1)), (2, .int (I x2)), (3, .int (I x3))] []
def T_X12_markAll_0 (G : GT) (X : va_W) (Q : Mem → Prop) (E : String → Mem → Prop) (o : Nat) (x1 : Int) (M : Mem) : Prop := OkV (gB G) (gl G) md_X12_none 0 0 [.ref (ad (gB G) o), .ref (ad (gB G) (o + 14))] X M (fun M1 => L_X12_markAll_10 G X o x1 (0 : Int) M1) NoX
set_option maxRecDepth 100000 in
set_option maxHeartbeats 4000000 in
theorem go_X12_markAll_0 {G : GT} {X : va_W} {Q : Mem → Prop} {E : String → Mem → Prop} {B : WB} {l : Launch} {k n : Nat} {o : Nat} {x1 : Int} {M : Mem} (h : Ct G md_X12_markAll X (oV Q E) B l k n) (ho : isHp o) (kk : T_X12_markAll_0 G X Q E o x1 M) : L_X12_markAll_0 G X o x1 M := by
  obtain ⟨hC, hR, rfl, hgr, rfl⟩ := h
  unfold T_X12_markAll_0 at kk
  unfold L_X12_markAll_0
  refine V_aload_n hC 0 rfl dX12_markAll_0 ?_
  refine V_aload_n hC 0 rfl dX12_markAll_1 ?_
  refine V_gr hC fr_X12_62 (hp_r22 ho) dX12_markAll_2 ?_
  refine V_cVv hC (As := [_]) lv_X12_107 dX12_markAll_5 (d0 := 3) (Nat.le_of_ble_eq_true rfl) (Rm_of hgr) (hp_v ho) rfl (Nat.le_of_ble_eq_true rfl) zk kk (fun M9 kk => ?_)
  refine V_iconst hC dX12_markAll_8 ?_
  refine V_istore_n hC (lv' := [(2, _), (0, _), (1, _)]) (Nat.le_of_ble_eq_true rfl) rfl dX12_markAll_9 ?_
  exact V_sub [1, 2, 0] rfl kk
def T_X12_markAll_10 (G : GT) (X : va_W) (Q : Mem → Prop) (E : String → Mem → Prop) (o : Nat) (x1 : Int) (x2 : Int) (M : Mem) : Prop := (inR (M o 0) → (inR x2 ∧ inR (M o 0) ∧ ((M o 0) ≤ x2 → OkV (gB G) (gl G) md_X12_spread 0 0 [.ref (ad (gB G) o), .ref (ad (gB G) (o + 14)), .int (I x1)] X M (fun M1 => Q M1) NoX) ∧ (x2 < (M o 0) → OkI (gB G) (gl G) md_X12_is 0 0 [.ref (ad (gB G) o), .int (I x2), .int (I (16 : Int))] X M (fun r22 M1 => inR r22 → (inR r22 ∧ (r22 = 0 → ((0 ≤ x2 ∧ x2 < 256) ∧ (inR (M1 (o + 13) x2.toNat) → (inR (M1 (o + 13) x2.toNat) ∧ inR (1 : Int) ∧ ((M1 (o + 13) x2.toNat) = (1 : Int) → OkV (gB G) (gl G) md_X12_mark 0 0 [.ref (ad (gB G) o), .ref (ad (gB G) (o + 14)), .int (I x2)] X M1 (fun M2 => L_X12_markAll_75 G X o x1 x2 (0 : Int) M2) NoX) ∧ ((M1 (o + 13) x2.toNat) ≠ (1 : Int) → (inR (0 : Int) ∧ ((0 : Int) = 0 → L_X12_markAll_75 G X o x1 x2 (0 : Int) M1) ∧ ((0 : Int) ≠ 0 → OkV (gB G) (gl G) md_X12_mark 0 0 [.ref (ad (gB G) o), .ref (ad (gB G) (o + 14)), .int (I x2)] X M1 (fun M2 => L_X12_markAll_75 G X o x1 x2 (0 : Int) M2) NoX))))))) ∧ (r22 ≠ 0 → ((0 ≤ x2 ∧ x2 < 256) ∧ (inR (M1 (o + 13) x2.toNat) → (inR (M1 (o + 13) x2.toNat) ∧ ((M1 (o + 13) x2.toNat) ≠ 0 → ((0 ≤ x2 ∧ x2 < 256) ∧ (inR (M1 (o + 13) x2.toNat) → (inR (M1 (o + 13) x2.toNat) ∧ inR (1 : Int) ∧ ((M1 (o + 13) x2.toNat) = (1 : Int) → OkV (gB G) (gl G) md_X12_mark 0 0 [.ref (ad (gB G) o), .ref (ad (gB G) (o + 14)), .int (I x2)] X M1 (fun M2 => L_X12_markAll_75 G X o x1 x2 (0 : Int) M2) NoX) ∧ ((M1 (o + 13) x2.toNat) ≠ (1 : Int) → (inR (0 : Int) ∧ ((0 : Int) = 0 → L_X12_markAll_75 G X o x1 x2 (0 : Int) M1) ∧ ((0 : Int) ≠ 0 → OkV (gB G) (gl G) md_X12_mark 0 0 [.ref (ad (gB G) o), .ref (ad (gB G) (o + 14)), .int (I x2)] X M1 (fun M2 => L_X12_markAll_75 G X o x1 x2 (0 : Int) M2) NoX))))))) ∧ ((M1 (o + 13) x2.toNat) = 0 → OkI (gB G) (gl G) md_X12_is 0 0 [.ref (ad (gB G) o), .int (I x2), .int (I (2 : Int))] X M1 (fun r40 M2 => inR r40 → (inR r40 ∧ (r40 ≠ 0 → ((0 ≤ x2 ∧ x2 < 256) ∧ (inR (M2 (o + 13) x2.toNat) → (inR (M2 (o + 13) x2.toNat) ∧ inR (1 : Int) ∧ ((M2 (o + 13) x2.toNat) = (1 : Int) → OkV (gB G) (gl G) md_X12_mark 0 0 [.ref (ad (gB G) o), .ref (ad (gB G) (o + 14)), .int (I x2)] X M2 (fun M3 => L_X12_markAll_75 G X o x1 x2 (0 : Int) M3) NoX) ∧ ((M2 (o + 13) x2.toNat) ≠ (1 : Int) → (inR (0 : Int) ∧ ((0 : Int) = 0 → L_X12_markAll_75 G X o x1 x2 (0 : Int) M2) ∧ ((0 : Int) ≠ 0 → OkV (gB G) (gl G) md_X12_mark 0 0 [.ref (ad (gB G) o), .ref (ad (gB G) (o + 14)), .int (I x2)] X M2 (fun M3 => L_X12_markAll_75 G X o x1 x2 (0 : Int) M3) NoX))))))) ∧ (r40 = 0 → ((0 ≤ x2 ∧ x2 < 256) ∧ (inR (M2 (o + 13) x2.toNat) → (inR (M2 (o + 13) x2.toNat) ∧ inR (1 : Int) ∧ ((M2 (o + 13) x2.toNat) = (1 : Int) → OkV (gB G) (gl G) md_X12_mark 0 0 [.ref (ad (gB G) o), .ref (ad (gB G) (o + 14)), .int (I x2)] X M2 (fun M3 => L_X12_markAll_75 G X o x1 x2 (1 : Int) M3) NoX) ∧ ((M2 (o + 13) x2.toNat) ≠ (1 : Int) → (inR (1 : Int) ∧ ((1 : Int) = 0 → L_X12_markAll_75 G X o x1 x2 (1 : Int) M2) ∧ ((1 : Int) ≠ 0 → OkV (gB G) (gl G) md_X12_mark 0 0 [.ref (ad (gB G) o), .ref (ad (gB G) (o + 14)), .int (I x2)] X M2 (fun M3 => L_X12_markAll_75 G X o x1 x2 (1 : Int) M3) NoX))))))))) NoX))))))) NoX)))
set_option maxRecDepth 100000 in
set_option maxHeartbeats 4000000 in
theorem go_X12_markAll_10 {G : GT} {X : va_W} {Q : Mem → Prop} {E : String → Mem → Prop} {B : WB} {l : Launch} {k n : Nat} {o : Nat} {x1 : Int} {x2 : Int} {M : Mem} (h : Ct G md_X12_markAll X (oV Q E) B l k n) (ho : isHp o) (kk : T_X12_markAll_10 G X Q E o x1 x2 M) : L_X12_markAll_10 G X o x1 x2 M := by
  obtain ⟨hC, hR, rfl, hgr, rfl⟩ := h
  unfold T_X12_markAll_10 at kk
  unfold L_X12_markAll_10
  refine V_iload_n hC 2 rfl dX12_markAll_10 ?_
  refine V_aload_n hC 0 rfl dX12_markAll_11 ?_
  refine V_gi hC fr_X12_80 (hp_i0 ho) dX12_markAll_12 (fun z => ?_)
  replace kk := kk z
  obtain ⟨ha, hb, k1, k2⟩ := kk
  refine V_icmp_ge hC 123 rfl dX12_markAll_15 ⟨ha, hb, fun z => ?_, fun z => ?_⟩
  · replace kk := k1 z; clear k1 k2
    refine V_aload_n hC 0 rfl dX12_markAll_123 ?_
    refine V_aload_n hC 0 rfl dX12_markAll_124 ?_
    refine V_gr hC fr_X12_62 (hp_r22 ho) dX12_markAll_125 ?_
    refine V_iload_n hC 1 rfl dX12_markAll_128 ?_
    refine V_cVv hC (As := [_, _]) lv_X12_157 dX12_markAll_129 (d0 := 3) (Nat.le_of_ble_eq_true rfl) (Rm_of hgr) (hp_v ho) rfl (Nat.le_of_ble_eq_true rfl) zk kk (fun M9 kk => ?_)
    exact V_vret hC hR rfl zk dX12_markAll_132 ⟨rfl, kk⟩
  · replace kk := k2 z; clear k1 k2
    refine V_aload_n hC 0 rfl dX12_markAll_18 ?_
    refine V_iload_n hC 2 rfl dX12_markAll_19 ?_
    refine V_bipush hC (d := dX12_markAll_20) rfl ?_
    refine V_cVi hC (As := [_, _]) lv_X12_118 dX12_markAll_22 (d0 := 3) (Nat.le_of_ble_eq_true rfl) (Rm_of hgr) (hp_v ho) rfl (Nat.le_of_ble_eq_true rfl) zk kk (fun r9 M9 z kk => ?_)
    replace kk := kk z
    obtain ⟨ha, k1, k2⟩ := kk
    refine V_if_eq hC 50 rfl dX12_markAll_25 ⟨ha, fun z => ?_, fun z => ?_⟩
    · replace kk := k1 z; clear k1 k2
      refine V_iconst hC dX12_markAll_50 ?_
      refine V_istore_n hC (lv' := [(3, _), (0, _), (1, _), (2, _)]) (Nat.le_of_ble_eq_true rfl) rfl dX12_markAll_51 ?_
      refine V_aload_n hC 1 rfl dX12_markAll_52 ?_
      refine V_gr hC fr_X12_59 (hp_r21 ho) dX12_markAll_53 ?_
      refine V_iload_n hC 3 rfl dX12_markAll_56 ?_
      obtain ⟨hi, kk⟩ := kk
      refine V_il hC (hp_a13 ho) dX12_markAll_57 hi (fun z => ?_)
      replace kk := kk z
      refine V_iconst hC dX12_markAll_58 ?_
      obtain ⟨ha, hb, k1, k2⟩ := kk
      refine V_icmp_eq hC 66 rfl dX12_markAll_59 ⟨ha, hb, fun z => ?_, fun z => ?_⟩
      · replace kk := k1 z; clear k1 k2
        refine V_aload_n hC 1 rfl dX12_markAll_66 ?_
        refine V_aload_n hC 1 rfl dX12_markAll_67 ?_
        refine V_gr hC fr_X12_62 (hp_r22 ho) dX12_markAll_68 ?_
        refine V_iload_n hC 3 rfl dX12_markAll_71 ?_
        refine V_cVv hC (As := [_, _]) lv_X12_145 dX12_markAll_72 (d0 := 3) (Nat.le_of_ble_eq_true rfl) (Rm_of hgr) (hp_v ho) rfl (Nat.le_of_ble_eq_true rfl) zk kk (fun M9 kk => ?_)
        exact V_sub [1, 2, 3, 0] rfl kk
      · replace kk := k2 z; clear k1 k2
        refine V_iload_n hC 0 rfl dX12_markAll_62 ?_
        obtain ⟨ha, k1, k2⟩ := kk
        refine V_if_eq hC 75 rfl dX12_markAll_63 ⟨ha, fun z => ?_, fun z => ?_⟩
        · replace kk := k1 z; clear k1 k2
          exact V_sub [1, 2, 3, 0] rfl kk
        · replace kk := k2 z; clear k1 k2
          refine V_aload_n hC 1 rfl dX12_markAll_66 ?_
          refine V_aload_n hC 1 rfl dX12_markAll_67 ?_
          refine V_gr hC fr_X12_62 (hp_r22 ho) dX12_markAll_68 ?_
          refine V_iload_n hC 3 rfl dX12_markAll_71 ?_
          refine V_cVv hC (As := [_, _]) lv_X12_145 dX12_markAll_72 (d0 := 3) (Nat.le_of_ble_eq_true rfl) (Rm_of hgr) (hp_v ho) rfl (Nat.le_of_ble_eq_true rfl) zk kk (fun M9 kk => ?_)
          exact V_sub [1, 2, 3, 0] rfl kk
    · replace kk := k2 z; clear k1 k2
      refine V_aload_n hC 0 rfl dX12_markAll_28 ?_
      refine V_gr hC fr_X12_59 (hp_r21 ho) dX12_markAll_29 ?_
      refine V_iload_n hC 2 rfl dX12_markAll_32 ?_
      obtain ⟨hi, kk⟩ := kk
      refine V_il hC (hp_a13 ho) dX12_markAll_33 hi (fun z => ?_)
      replace kk := kk z
      obtain ⟨ha, k1, k2⟩ := kk
      refine V_if_ne hC 50 rfl dX12_markAll_34 ⟨ha, fun z => ?_, fun z => ?_⟩
      · replace kk := k1 z; clear k1 k2
        refine V_iconst hC dX12_markAll_50 ?_
        refine V_istore_n hC (lv' := [(3, _), (0, _), (1, _), (2, _)]) (Nat.le_of_ble_eq_true rfl) rfl dX12_markAll_51 ?_
        refine V_aload_n hC 1 rfl dX12_markAll_52 ?_
        refine V_gr hC fr_X12_59 (hp_r21 ho) dX12_markAll_53 ?_
        refine V_iload_n hC 3 rfl dX12_markAll_56 ?_
        obtain ⟨hi, kk⟩ := kk
        refine V_il hC (hp_a13 ho) dX12_markAll_57 hi (fun z => ?_)
        replace kk := kk z
        refine V_iconst hC dX12_markAll_58 ?_
        obtain ⟨ha, hb, k1, k2⟩ := kk
        refine V_icmp_eq hC 66 rfl dX12_markAll_59 ⟨ha, hb, fun z => ?_, fun z => ?_⟩
        · replace kk := k1 z; clear k1 k2
          refine V_aload_n hC 1 rfl dX12_markAll_66 ?_
          refine V_aload_n hC 1 rfl dX12_markAll_67 ?_
          refine V_gr hC fr_X12_62 (hp_r22 ho) dX12_markAll_68 ?_
          refine V_iload_n hC 3 rfl dX12_markAll_71 ?_
          refine V_cVv hC (As := [_, _]) lv_X12_145 dX12_markAll_72 (d0 := 3) (Nat.le_of_ble_eq_true rfl) (Rm_of hgr) (hp_v ho) rfl (Nat.le_of_ble_eq_true rfl) zk kk (fun M9 kk => ?_)
          exact V_sub [1, 2, 3, 0] rfl kk
        · replace kk := k2 z; clear k1 k2
          refine V_iload_n hC 0 rfl dX12_markAll_62 ?_
          obtain ⟨ha, k1, k2⟩ := kk
          refine V_if_eq hC 75 rfl dX12_markAll_63 ⟨ha, fun z => ?_, fun z => ?_⟩
          · replace kk := k1 z; clear k1 k2
            exact V_sub [1, 2, 3, 0] rfl kk
          · replace kk := k2 z; clear k1 k2
            refine V_aload_n hC 1 rfl dX12_markAll_66 ?_
            refine V_aload_n hC 1 rfl dX12_markAll_67 ?_
            refine V_gr hC fr_X12_62 (hp_r22 ho) dX12_markAll_68 ?_
            refine V_iload_n hC 3 rfl dX12_markAll_71 ?_
            refine V_cVv hC (As := [_, _]) lv_X12_145 dX12_markAll_72 (d0 := 3) (Nat.le_of_ble_eq_true rfl) (Rm_of hgr) (hp_v ho) rfl (Nat.le_of_ble_eq_true rfl) zk kk (fun M9 kk => ?_)
            exact V_sub [1, 2, 3, 0] rfl kk
      · replace kk := k2 z; clear k1 k2
        refine V_aload_n hC 0 rfl dX12_markAll_37 ?_
        refine V_iload_n hC 2 rfl dX12_markAll_38 ?_
        refine V_iconst hC dX12_markAll_39 ?_
        refine V_cVi hC (As := [_, _]) lv_X12_118 dX12_markAll_40 (d0 := 3) (Nat.le_of_ble_eq_true rfl) (Rm_of hgr) (hp_v ho) rfl (Nat.le_of_ble_eq_true rfl) zk kk (fun r9 M9 z kk => ?_)
        replace kk := kk z
        obtain ⟨ha, k1, k2⟩ := kk
        refine V_if_ne hC 50 rfl dX12_markAll_43 ⟨ha, fun z => ?_, fun z => ?_⟩
        · replace kk := k1 z; clear k1 k2
          refine V_iconst hC dX12_markAll_50 ?_
          refine V_istore_n hC (lv' := [(3, _), (0, _), (1, _), (2, _)]) (Nat.le_of_ble_eq_true rfl) rfl dX12_markAll_51 ?_
          refine V_aload_n hC 1 rfl dX12_markAll_52 ?_
          refine V_gr hC fr_X12_59 (hp_r21 ho) dX12_markAll_53 ?_
          refine V_iload_n hC 3 rfl dX12_markAll_56 ?_
          obtain ⟨hi, kk⟩ := kk
          refine V_il hC (hp_a13 ho) dX12_markAll_57 hi (fun z => ?_)
          replace kk := kk z
          refine V_iconst hC dX12_markAll_58 ?_
          obtain ⟨ha, hb, k1, k2⟩ := kk
          refine V_icmp_eq hC 66 rfl dX12_markAll_59 ⟨ha, hb, fun z => ?_, fun z => ?_⟩
          · replace kk := k1 z; clear k1 k2
            refine V_aload_n hC 1 rfl dX12_markAll_66 ?_
            refine V_aload_n hC 1 rfl dX12_markAll_67 ?_
            refine V_gr hC fr_X12_62 (hp_r22 ho) dX12_markAll_68 ?_
            refine V_iload_n hC 3 rfl dX12_markAll_71 ?_
            refine V_cVv hC (As := [_, _]) lv_X12_145 dX12_markAll_72 (d0 := 3) (Nat.le_of_ble_eq_true rfl) (Rm_of hgr) (hp_v ho) rfl (Nat.le_of_ble_eq_true rfl) zk kk (fun M9 kk => ?_)
            exact V_sub [1, 2, 3, 0] rfl kk
          · replace kk := k2 z; clear k1 k2
            refine V_iload_n hC 0 rfl dX12_markAll_62 ?_
            obtain ⟨ha, k1, k2⟩ := kk
            refine V_if_eq hC 75 rfl dX12_markAll_63 ⟨ha, fun z => ?_, fun z => ?_⟩
            · replace kk := k1 z; clear k1 k2
              exact V_sub [1, 2, 3, 0] rfl kk
            · replace kk := k2 z; clear k1 k2
              refine V_aload_n hC 1 rfl dX12_markAll_66 ?_
              refine V_aload_n hC 1 rfl dX12_markAll_67 ?_
              refine V_gr hC fr_X12_62 (hp_r22 ho) dX12_markAll_68 ?_
              refine V_iload_n hC 3 rfl dX12_markAll_71 ?_
              refine V_cVv hC (As := [_, _]) lv_X12_145 dX12_markAll_72 (d0 := 3) (Nat.le_of_ble_eq_true rfl) (Rm_of hgr) (hp_v ho) rfl (Nat.le_of_ble_eq_true rfl) zk kk (fun M9 kk => ?_)
              exact V_sub [1, 2, 3, 0] rfl kk
        · replace kk := k2 z; clear k1 k2
          refine V_iconst hC dX12_markAll_46 ?_
          refine V_goto hC 51 rfl dX12_markAll_47 ?_
          refine V_istore_n hC (lv' := [(3, _), (0, _), (1, _), (2, _)]) (Nat.le_of_ble_eq_true rfl) rfl dX12_markAll_51 ?_
          refine V_aload_n hC 1 rfl dX12_markAll_52 ?_
          refine V_gr hC fr_X12_59 (hp_r21 ho) dX12_markAll_53 ?_
          refine V_iload_n hC 3 rfl dX12_markAll_56 ?_
          obtain ⟨hi, kk⟩ := kk
          refine V_il hC (hp_a13 ho) dX12_markAll_57 hi (fun z => ?_)
          replace kk := kk z
          refine V_iconst hC dX12_markAll_58 ?_
          obtain ⟨ha, hb, k1, k2⟩ := kk
          refine V_icmp_eq hC 66 rfl dX12_markAll_59 ⟨ha, hb, fun z => ?_, fun z => ?_⟩
          · replace kk := k1 z; clear k1 k2
            refine V_aload_n hC 1 rfl dX12_markAll_66 ?_
            refine V_aload_n hC 1 rfl dX12_markAll_67 ?_
            refine V_gr hC fr_X12_62 (hp_r22 ho) dX12_markAll_68 ?_
            refine V_iload_n hC 3 rfl dX12_markAll_71 ?_
            refine V_cVv hC (As := [_, _]) lv_X12_145 dX12_markAll_72 (d0 := 3) (Nat.le_of_ble_eq_true rfl) (Rm_of hgr) (hp_v ho) rfl (Nat.le_of_ble_eq_true rfl) zk kk (fun M9 kk => ?_)
            exact V_sub [1, 2, 3, 0] rfl kk
          · replace kk := k2 z; clear k1 k2
            refine V_iload_n hC 0 rfl dX12_markAll_62 ?_
            obtain ⟨ha, k1, k2⟩ := kk
            refine V_if_eq hC 75 rfl dX12_markAll_63 ⟨ha, fun z => ?_, fun z => ?_⟩
            · replace kk := k1 z; clear k1 k2
              exact V_sub [1, 2, 3, 0] rfl kk
            · replace kk := k2 z; clear k1 k2
              refine V_aload_n hC 1 rfl dX12_markAll_66 ?_
              refine V_aload_n hC 1 rfl dX12_markAll_67 ?_
              refine V_gr hC fr_X12_62 (hp_r22 ho) dX12_markAll_68 ?_
              refine V_iload_n hC 3 rfl dX12_markAll_71 ?_
              refine V_cVv hC (As := [_, _]) lv_X12_145 dX12_markAll_72 (d0 := 3) (Nat.le_of_ble_eq_true rfl) (Rm_of hgr) (hp_v ho) rfl (Nat.le_of_ble_eq_true rfl) zk kk (fun M9 kk => ?_)
              exact V_sub [1, 2, 3, 0] rfl kk
def T_X12_markAll_75 (G : GT) (X : va_W) (Q : Mem → Prop) (E : String → Mem → Prop) (o : Nat) (x1 : Int) (x2 : Int) (x3 : Int) (M : Mem) : Prop := (inR x3 ∧ (x3 ≠ 0 → ((0 ≤ x2 ∧ x2 < 256) ∧ (inR (M (o + 6) x2.toNat) → (inR (bor (M (o + 6) x2.toNat) (2 : Int)) → ((0 ≤ x2 ∧ x2 < 256) ∧ inR (bor (M (o + 6) x2.toNat) (2 : Int)) ∧ ∀ M1 : Mem, M1 = up M (o + 6) x2.toNat (bor (M (o + 6) x2.toNat) (2 : Int)) → (inR (M1 o 8) → ((0 ≤ x2 ∧ x2 < 256) ∧ (inR (M1 (o + 1) x2.toNat) → ((0 ≤ (M1 o 8) ∧ (M1 o 8) < 256) ∧ inR (M1 (o + 1) x2.toNat) ∧ ∀ M2 : Mem, M2 = up M1 (o + 11) (M1 o 8).toNat (M1 (o + 1) x2.toNat) → (inR (M2 o 8) → (inR ((M2 o 8) + (1 : Int)) ∧ ∀ M3 : Mem, M3 = up M2 o 8 ((M2 o 8) + (1 : Int)) → L_X12_markAll_10 G X o x1 (x2 + 1) M3))))))))))) ∧ (x3 = 0 → L_X12_markAll_10 G X o x1 (x2 + 1) M))
set_option maxRecDepth 100000 in
set_option maxHeartbeats 4000000 in
theorem go_X12_markAll_75 {G : GT} {X : va_W} {Q : Mem → Prop} {E : String → Mem → Prop} {B : WB} {l : Launch} {k n : Nat} {o : Nat} {x1 : Int} {x2 : Int} {x3 : Int} {M : Mem} (h : Ct G md_X12_markAll X (oV Q E) B l k n) (ho : isHp o) (kk : T_X12_markAll_75 G X Q E o x1 x2 x3 M) : L_X12_markAll_75 G X o x1 x2 x3 M := by
  obtain ⟨hC, hR, rfl, hgr, rfl⟩ := h
  unfold T_X12_markAll_75 at kk
  unfold L_X12_markAll_75
  refine V_iload_n hC 3 rfl dX12_markAll_75 ?_
  obtain ⟨ha, k1, k2⟩ := kk
  refine V_if_ne hC 82 rfl dX12_markAll_76 ⟨ha, fun z => ?_, fun z => ?_⟩
  · replace kk := k1 z; clear k1 k2
    refine V_aload_n hC 0 rfl dX12_markAll_82 ?_
    refine V_gr hC fr_X12_38 (hp_r14 ho) dX12_markAll_83 ?_
    refine V_iload_n hC 2 rfl dX12_markAll_86 ?_
    refine V_dup2 hC rfl rfl dX12_markAll_87 ?_
    obtain ⟨hi, kk⟩ := kk
    refine V_il hC (hp_a6 ho) dX12_markAll_88 hi (fun z => ?_)
    replace kk := kk z
    refine V_iconst hC dX12_markAll_89 ?_
    refine V_or hC dX12_markAll_90 (fun z => ?_)
    replace kk := kk z
    obtain ⟨hi, hv, kk⟩ := kk
    refine V_is hC (hp_a6 ho) dX12_markAll_91 hi hv ?_
    replace kk := kk _ rfl
    refine V_aload_n hC 0 rfl dX12_markAll_92 ?_
    refine V_gr hC fr_X12_53 (hp_r19 ho) dX12_markAll_93 ?_
    refine V_aload_n hC 0 rfl dX12_markAll_96 ?_
    refine V_gi hC fr_X12_98 (hp_i8 ho) dX12_markAll_97 (fun z => ?_)
    replace kk := kk z
    refine V_aload_n hC 0 rfl dX12_markAll_100 ?_
    refine V_gr hC fr_X12_22 (hp_r9 ho) dX12_markAll_101 ?_
    refine V_iload_n hC 2 rfl dX12_markAll_104 ?_
    obtain ⟨hi, kk⟩ := kk
    refine V_il hC (hp_a1 ho) dX12_markAll_105 hi (fun z => ?_)
    replace kk := kk z
    obtain ⟨hi, hv, kk⟩ := kk
    refine V_is hC (hp_a11 ho) dX12_markAll_106 hi hv ?_
    replace kk := kk _ rfl
    refine V_aload_n hC 0 rfl dX12_markAll_107 ?_
    refine V_dup hC rfl dX12_markAll_108 ?_
    refine V_gi hC fr_X12_98 (hp_i8 ho) dX12_markAll_109 (fun z => ?_)
    replace kk := kk z
    refine V_iconst hC dX12_markAll_112 ?_
    refine V_iadd hC dX12_markAll_113 ?_
    obtain ⟨hv, kk⟩ := kk
    refine V_pi hC fk_X12_98 (hp_i8 ho) dX12_markAll_114 hv ?_
    replace kk := kk _ rfl
    refine V_iinc hC (lv' := [(2, _), (0, _), (1, _), (3, _)]) 2 rfl (Nat.le_of_ble_eq_true rfl) rfl dX12_markAll_117 ?_
    refine V_goto hC 10 rfl dX12_markAll_120 ?_
    exact V_sub [1, 2, 0] rfl kk
  · replace kk := k2 z; clear k1 k2
    refine V_goto hC 117 rfl dX12_markAll_79 ?_
    refine V_iinc hC (lv' := [(2, _), (0, _), (1, _), (3, _)]) 2 rfl (Nat.le_of_ble_eq_true rfl) rfl dX12_markAll_117 ?_
    refine V_goto hC 10 rfl dX12_markAll_120 ?_
    exact V_sub [1, 2, 0] rfl kk
theorem ok_X12_markAll {B : WB} {l : Launch} {k n : Nat} {X : va_W} {M : Mem} {Q : Mem → Prop} {E : String → Mem → Prop} {o : Nat} {x1 : Int} (hl : l.stackTraces = false) (body : ∀ G : GT, Ct G md_X12_markAll X (oV Q E) B l k n → L_X12_markAll_0 G X o x1 M) : OkV B l md_X12_markAll k n [.ref (ad B o), .int (I x1)] X M Q E :=
  Ok_of mk_X12_markAll hl (Nat.le_of_ble_eq_true rfl) (fun G h => by have hb := body G h; obtain ⟨-, -, rfl, -, -⟩ := h; exact hb)
def L_X12_loosen_0 (G : GT) (X : va_W) (o : Nat) (x1 : Int) (M : Mem) : Prop := V G md_X12_loosen 0 0 X M 0 [(0, .ref (ad (gB G) o)), (1, .int (I x1))] []
def L_X12_loosen_18 (G : GT) (X : va_W) (o : Nat) (x1 : Int) (x2 : Int) (M : Mem) : Prop := V G md_X12_loosen 0 0 X M 18 [(0, .ref (ad (gB G) o)), (1, .int (I x1)), (2, .int (I x2))] []
def L_X12_loosen_123 (G : GT) (X : va_W) (o : Nat) (x1 : Int) (s0 : Int) (M : Mem) : Prop := V G md_X12_loosen 0 0 X M 123 [(0, .ref (ad (gB G) o)), (1, .int (I x1))] [.int (I s0)]
def T_X12_loosen_0 (G : GT) (X : va_W) (Q : Mem → Prop) (E : String → Mem → Prop) (o : Nat) (x1 : Int) (M : Mem) : Prop := ((0 ≤ x1 ∧ x1 < 256) ∧ (inR (M (o + 2) x1.toNat) → (inR (M (o + 2) x1.toNat) ∧ inR (6 : Int) ∧ ((M (o + 2) x1.toNat) ≠ (6 : Int) → ((0 ≤ x1 ∧ x1 < 256) ∧ (inR (M (o + 4) x1.toNat) → ((0 ≤ (M (o + 4) x1.toNat) ∧ (M (o + 4) x1.toNat) < 2048) ∧ (inR (M (o + 7) (M (o + 4) x1.toNat).toNat) → OkI (gB G) (gl G) md_X12_find 0 0 [.ref (ad (gB G) o), .int (I (M (o + 7) (M (o + 4) x1.toNat).toNat))] X M (fun r89 M1 => inR r89 → (inR r89 ∧ inR (-1 : Int) ∧ (r89 = (-1 : Int) → Q M1) ∧ (r89 ≠ (-1 : Int) → ((0 ≤ x1 ∧ x1 < 256) ∧ (inR (M1 (o + 2) x1.toNat) → (inR (M1 (o + 2) x1.toNat) ∧ inR (5 : Int) ∧ ((M1 (o + 2) x1.toNat) ≠ (5 : Int) → ((0 ≤ r89 ∧ r89 < 256) ∧ (inR (M1 (o + 13) r89.toNat) → L_X12_loosen_123 G X o x1 (M1 (o + 13) r89.toNat) M1))) ∧ ((M1 (o + 2) x1.toNat) = (5 : Int) → ((0 ≤ r89 ∧ r89 < 256) ∧ (inR (M1 (o + 14) r89.toNat) → L_X12_loosen_123 G X o x1 (M1 (o + 14) r89.toNat) M1))))))))) NoX))))) ∧ ((M (o + 2) x1.toNat) = (6 : Int) → ((0 ≤ x1 ∧ x1 < 256) ∧ (inR (M (o + 4) x1.toNat) → L_X12_loosen_18 G X o x1 (M (o + 4) x1.toNat) M))))))
set_option maxRecDepth 100000 in
set_option maxHeartbeats 4000000 in
theorem go_X12_loosen_0 {G : GT} {X : va_W} {Q : Mem → Prop} {E : String → Mem → Prop} {B : WB} {l : Launch} {k n : Nat} {o : Nat} {x1 : Int} {M : Mem} (h : Ct G md_X12_loosen X (oV Q E) B l k n) (ho : isHp o) (kk : T_X12_loosen_0 G X Q E o x1 M) : L_X12_loosen_0 G X o x1 M := by
  obtain ⟨hC, hR, rfl, hgr, rfl⟩ := h
  unfold T_X12_loosen_0 at kk
  unfold L_X12_loosen_0
  refine V_aload_n hC 0 rfl dX12_loosen_0 ?_
  refine V_gr hC fr_X12_26 (hp_r10 ho) dX12_loosen_1 ?_
  refine V_iload_n hC 1 rfl dX12_loosen_4 ?_
  obtain ⟨hi, kk⟩ := kk
  refine V_il hC (hp_a2 ho) dX12_loosen_5 hi (fun z => ?_)
  replace kk := kk z
  refine V_bipush hC (d := dX12_loosen_6) rfl ?_
  obtain ⟨ha, hb, k1, k2⟩ := kk
  refine V_icmp_ne hC 77 rfl dX12_loosen_8 ⟨ha, hb, fun z => ?_, fun z => ?_⟩
  · replace kk := k1 z; clear k1 k2
    refine V_aload_n hC 0 rfl dX12_loosen_77 ?_
    refine V_aload_n hC 0 rfl dX12_loosen_78 ?_
    refine V_gr hC fr_X12_41 (hp_r15 ho) dX12_loosen_79 ?_
    refine V_aload_n hC 0 rfl dX12_loosen_82 ?_
    refine V_gr hC fr_X12_32 (hp_r12 ho) dX12_loosen_83 ?_
    refine V_iload_n hC 1 rfl dX12_loosen_86 ?_
    obtain ⟨hi, kk⟩ := kk
    refine V_il hC (hp_a4 ho) dX12_loosen_87 hi (fun z => ?_)
    replace kk := kk z
    obtain ⟨hi, kk⟩ := kk
    refine V_il hC (hp_a7 ho) dX12_loosen_88 hi (fun z => ?_)
    replace kk := kk z
    refine V_cVi hC (As := [_]) lv_X12_142 dX12_loosen_89 (d0 := 1) (Nat.le_of_ble_eq_true rfl) (Rm_of hgr) (hp_v ho) rfl (Nat.le_of_ble_eq_true rfl) zk kk (fun r9 M9 z kk => ?_)
    replace kk := kk z
    refine V_istore_n hC (lv' := [(2, _), (0, _), (1, _)]) (Nat.le_of_ble_eq_true rfl) rfl dX12_loosen_92 ?_
    refine V_iload_n hC 0 rfl dX12_loosen_93 ?_
    refine V_iconst hC dX12_loosen_94 ?_
    obtain ⟨ha, hb, k1, k2⟩ := kk
    refine V_icmp_eq hC 127 rfl dX12_loosen_95 ⟨ha, hb, fun z => ?_, fun z => ?_⟩
    · replace kk := k1 z; clear k1 k2
      exact V_vret hC hR rfl zk dX12_loosen_127 ⟨rfl, kk⟩
    · replace kk := k2 z; clear k1 k2
      refine V_aload_n hC 1 rfl dX12_loosen_98 ?_
      refine V_gr hC fr_X12_26 (hp_r10 ho) dX12_loosen_99 ?_
      refine V_iload_n hC 2 rfl dX12_loosen_102 ?_
      obtain ⟨hi, kk⟩ := kk
      refine V_il hC (hp_a2 ho) dX12_loosen_103 hi (fun z => ?_)
      replace kk := kk z
      refine V_iconst hC dX12_loosen_104 ?_
      obtain ⟨ha, hb, k1, k2⟩ := kk
      refine V_icmp_ne hC 117 rfl dX12_loosen_105 ⟨ha, hb, fun z => ?_, fun z => ?_⟩
      · replace kk := k1 z; clear k1 k2
        refine V_aload_n hC 1 rfl dX12_loosen_117 ?_
        refine V_gr hC fr_X12_59 (hp_r21 ho) dX12_loosen_118 ?_
        refine V_iload_n hC 0 rfl dX12_loosen_121 ?_
        obtain ⟨hi, kk⟩ := kk
        refine V_il hC (hp_a13 ho) dX12_loosen_122 hi (fun z => ?_)
        replace kk := kk z
        exact V_sub [1, 2] rfl kk
      · replace kk := k2 z; clear k1 k2
        refine V_aload_n hC 1 rfl dX12_loosen_108 ?_
        refine V_gr hC fr_X12_62 (hp_r22 ho) dX12_loosen_109 ?_
        refine V_iload_n hC 0 rfl dX12_loosen_112 ?_
        obtain ⟨hi, kk⟩ := kk
        refine V_il hC (hp_a14 ho) dX12_loosen_113 hi (fun z => ?_)
        replace kk := kk z
        refine V_goto hC 123 rfl dX12_loosen_114 ?_
        exact V_sub [1, 2] rfl kk
  · replace kk := k2 z; clear k1 k2
    refine V_aload_n hC 0 rfl dX12_loosen_11 ?_
    refine V_gr hC fr_X12_32 (hp_r12 ho) dX12_loosen_12 ?_
    refine V_iload_n hC 1 rfl dX12_loosen_15 ?_
    obtain ⟨hi, kk⟩ := kk
    refine V_il hC (hp_a4 ho) dX12_loosen_16 hi (fun z => ?_)
    replace kk := kk z
    refine V_istore_n hC (lv' := [(2, _), (0, _), (1, _)]) (Nat.le_of_ble_eq_true rfl) rfl dX12_loosen_17 ?_
    exact V_sub [1, 2, 0] rfl kk
def T_X12_loosen_18 (G : GT) (X : va_W) (Q : Mem → Prop) (E : String → Mem → Prop) (o : Nat) (x1 : Int) (x2 : Int) (M : Mem) : Prop := ((0 ≤ x1 ∧ x1 < 256) ∧ (inR (M (o + 4) x1.toNat) → ((0 ≤ x1 ∧ x1 < 256) ∧ (inR (M (o + 3) x1.toNat) → (inR x2 ∧ inR ((M (o + 4) x1.toNat) + ((2 : Int) * (M (o + 3) x1.toNat))) ∧ (((M (o + 4) x1.toNat) + ((2 : Int) * (M (o + 3) x1.toNat))) ≤ x2 → Q M) ∧ (x2 < ((M (o + 4) x1.toNat) + ((2 : Int) * (M (o + 3) x1.toNat))) → ((0 ≤ x2 ∧ x2 < 2048) ∧ (inR (M (o + 7) x2.toNat) → (inR (M (o + 7) x2.toNat) ∧ inR (-1 : Int) ∧ ((M (o + 7) x2.toNat) = (-1 : Int) → L_X12_loosen_18 G X o x1 (x2 + 2) M) ∧ ((M (o + 7) x2.toNat) ≠ (-1 : Int) → ((0 ≤ x2 ∧ x2 < 2048) ∧ (inR (M (o + 7) x2.toNat) → OkI (gB G) (gl G) md_X12_find 0 0 [.ref (ad (gB G) o), .int (I (M (o + 7) x2.toNat))] X M (fun r58 M1 => inR r58 → ((0 ≤ r58 ∧ r58 < 256) ∧ (inR (M1 (o + 14) r58.toNat) → (inR (M1 (o + 14) r58.toNat) ∧ ((M1 (o + 14) r58.toNat) ≠ 0 → L_X12_loosen_18 G X o x1 (x2 + 2) M1) ∧ ((M1 (o + 14) r58.toNat) = 0 → OkV (gB G) (gl G) md_X12_drop 0 0 [.ref (ad (gB G) o), .int (I x2)] X M1 (fun M2 => L_X12_loosen_18 G X o x1 (x2 + 2) M2) NoX))))) NoX))))))))))))
set_option maxRecDepth 100000 in
set_option maxHeartbeats 4000000 in
theorem go_X12_loosen_18 {G : GT} {X : va_W} {Q : Mem → Prop} {E : String → Mem → Prop} {B : WB} {l : Launch} {k n : Nat} {o : Nat} {x1 : Int} {x2 : Int} {M : Mem} (h : Ct G md_X12_loosen X (oV Q E) B l k n) (ho : isHp o) (kk : T_X12_loosen_18 G X Q E o x1 x2 M) : L_X12_loosen_18 G X o x1 x2 M := by
  obtain ⟨hC, hR, rfl, hgr, rfl⟩ := h
  unfold T_X12_loosen_18 at kk
  unfold L_X12_loosen_18
  refine V_iload_n hC 2 rfl dX12_loosen_18 ?_
  refine V_aload_n hC 0 rfl dX12_loosen_19 ?_
  refine V_gr hC fr_X12_32 (hp_r12 ho) dX12_loosen_20 ?_
  refine V_iload_n hC 1 rfl dX12_loosen_23 ?_
  obtain ⟨hi, kk⟩ := kk
  refine V_il hC (hp_a4 ho) dX12_loosen_24 hi (fun z => ?_)
  replace kk := kk z
  refine V_iconst hC dX12_loosen_25 ?_
  refine V_aload_n hC 0 rfl dX12_loosen_26 ?_
  refine V_gr hC fr_X12_29 (hp_r11 ho) dX12_loosen_27 ?_
  refine V_iload_n hC 1 rfl dX12_loosen_30 ?_
  obtain ⟨hi, kk⟩ := kk
  refine V_il hC (hp_a3 ho) dX12_loosen_31 hi (fun z => ?_)
  replace kk := kk z
  refine V_imul hC dX12_loosen_32 ?_
  refine V_iadd hC dX12_loosen_33 ?_
  obtain ⟨ha, hb, k1, k2⟩ := kk
  refine V_icmp_ge hC 76 rfl dX12_loosen_34 ⟨ha, hb, fun z => ?_, fun z => ?_⟩
  · replace kk := k1 z; clear k1 k2
    exact V_vret hC hR rfl zk dX12_loosen_76 ⟨rfl, kk⟩
  · replace kk := k2 z; clear k1 k2
    refine V_aload_n hC 0 rfl dX12_loosen_37 ?_
    refine V_gr hC fr_X12_41 (hp_r15 ho) dX12_loosen_38 ?_
    refine V_iload_n hC 2 rfl dX12_loosen_41 ?_
    obtain ⟨hi, kk⟩ := kk
    refine V_il hC (hp_a7 ho) dX12_loosen_42 hi (fun z => ?_)
    replace kk := kk z
    refine V_iconst hC dX12_loosen_43 ?_
    obtain ⟨ha, hb, k1, k2⟩ := kk
    refine V_icmp_eq hC 70 rfl dX12_loosen_44 ⟨ha, hb, fun z => ?_, fun z => ?_⟩
    · replace kk := k1 z; clear k1 k2
      refine V_iinc hC (lv' := [(2, _), (0, _), (1, _)]) 2 rfl (Nat.le_of_ble_eq_true rfl) rfl dX12_loosen_70 ?_
      refine V_goto hC 18 rfl dX12_loosen_73 ?_
      exact V_sub [1, 2, 0] rfl kk
    · replace kk := k2 z; clear k1 k2
      refine V_aload_n hC 0 rfl dX12_loosen_47 ?_
      refine V_gr hC fr_X12_62 (hp_r22 ho) dX12_loosen_48 ?_
      refine V_aload_n hC 0 rfl dX12_loosen_51 ?_
      refine V_aload_n hC 0 rfl dX12_loosen_52 ?_
      refine V_gr hC fr_X12_41 (hp_r15 ho) dX12_loosen_53 ?_
      refine V_iload_n hC 2 rfl dX12_loosen_56 ?_
      obtain ⟨hi, kk⟩ := kk
      refine V_il hC (hp_a7 ho) dX12_loosen_57 hi (fun z => ?_)
      replace kk := kk z
      refine V_cVi hC (As := [_]) lv_X12_142 dX12_loosen_58 (d0 := 1) (Nat.le_of_ble_eq_true rfl) (Rm_of hgr) (hp_v ho) rfl (Nat.le_of_ble_eq_true rfl) zk kk (fun r9 M9 z kk => ?_)
      replace kk := kk z
      obtain ⟨hi, kk⟩ := kk
      refine V_il hC (hp_a14 ho) dX12_loosen_61 hi (fun z => ?_)
      replace kk := kk z
      obtain ⟨ha, k1, k2⟩ := kk
      refine V_if_ne hC 70 rfl dX12_loosen_62 ⟨ha, fun z => ?_, fun z => ?_⟩
      · replace kk := k1 z; clear k1 k2
        refine V_iinc hC (lv' := [(2, _), (0, _), (1, _)]) 2 rfl (Nat.le_of_ble_eq_true rfl) rfl dX12_loosen_70 ?_
        refine V_goto hC 18 rfl dX12_loosen_73 ?_
        exact V_sub [1, 2, 0] rfl kk
      · replace kk := k2 z; clear k1 k2
        refine V_aload_n hC 0 rfl dX12_loosen_65 ?_
        refine V_iload_n hC 2 rfl dX12_loosen_66 ?_
        refine V_cVv hC (As := [_]) lv_X12_206 dX12_loosen_67 (d0 := 1) (Nat.le_of_ble_eq_true rfl) (Rm_of hgr) (hp_v ho) rfl (Nat.le_of_ble_eq_true rfl) zk kk (fun M9 kk => ?_)
        refine V_iinc hC (lv' := [(2, _), (0, _), (1, _)]) 2 rfl (Nat.le_of_ble_eq_true rfl) rfl dX12_loosen_70 ?_
        refine V_goto hC 18 rfl dX12_loosen_73 ?_
        exact V_sub [1, 2, 0] rfl kk
def T_X12_loosen_123 (G : GT) (X : va_W) (Q : Mem → Prop) (E : String → Mem → Prop) (o : Nat) (x1 : Int) (s0 : Int) (M : Mem) : Prop := (inR s0 ∧ inR (1 : Int) ∧ (s0 ≠ (1 : Int) → ((0 ≤ x1 ∧ x1 < 256) ∧ (inR (M (o + 4) x1.toNat) → ((0 ≤ (M (o + 4) x1.toNat) ∧ (M (o + 4) x1.toNat) < 2048) ∧ inR (-1 : Int) ∧ ∀ M1 : Mem, M1 = up M (o + 7) (M (o + 4) x1.toNat).toNat (-1 : Int) → OkI (gB G) (gl G) md_X12_is 0 0 [.ref (ad (gB G) o), .int (I x1), .int (I (8 : Int))] X M1 (fun r144 M2 => inR r144 → (inR r144 ∧ (r144 ≠ 0 → (inR (M2 o 7) → ((0 ≤ x1 ∧ x1 < 256) ∧ (inR (M2 (o + 1) x1.toNat) → ((0 ≤ (M2 o 7) ∧ (M2 o 7) < 256) ∧ inR (M2 (o + 1) x1.toNat) ∧ ∀ M3 : Mem, M3 = up M2 (o + 10) (M2 o 7).toNat (M2 (o + 1) x1.toNat) → (inR (M3 o 7) → (inR ((M3 o 7) + (1 : Int)) ∧ ∀ M4 : Mem, M4 = up M3 o 7 ((M3 o 7) + (1 : Int)) → Q M4))))))) ∧ (r144 = 0 → Q M2))) NoX)))) ∧ (s0 = (1 : Int) → Q M))
set_option maxRecDepth 100000 in
set_option maxHeartbeats 4000000 in
theorem go_X12_loosen_123 {G : GT} {X : va_W} {Q : Mem → Prop} {E : String → Mem → Prop} {B : WB} {l : Launch} {k n : Nat} {o : Nat} {x1 : Int} {s0 : Int} {M : Mem} (h : Ct G md_X12_loosen X (oV Q E) B l k n) (ho : isHp o) (kk : T_X12_loosen_123 G X Q E o x1 s0 M) : L_X12_loosen_123 G X o x1 s0 M := by
  obtain ⟨hC, hR, rfl, hgr, rfl⟩ := h
  unfold T_X12_loosen_123 at kk
  unfold L_X12_loosen_123
  refine V_iconst hC dX12_loosen_123 ?_
  obtain ⟨ha, hb, k1, k2⟩ := kk
  refine V_icmp_ne hC 128 rfl dX12_loosen_124 ⟨ha, hb, fun z => ?_, fun z => ?_⟩
  · replace kk := k1 z; clear k1 k2
    refine V_aload_n hC 0 rfl dX12_loosen_128 ?_
    refine V_gr hC fr_X12_41 (hp_r15 ho) dX12_loosen_129 ?_
    refine V_aload_n hC 0 rfl dX12_loosen_132 ?_
    refine V_gr hC fr_X12_32 (hp_r12 ho) dX12_loosen_133 ?_
    refine V_iload_n hC 1 rfl dX12_loosen_136 ?_
    obtain ⟨hi, kk⟩ := kk
    refine V_il hC (hp_a4 ho) dX12_loosen_137 hi (fun z => ?_)
    replace kk := kk z
    refine V_iconst hC dX12_loosen_138 ?_
    obtain ⟨hi, hv, kk⟩ := kk
    refine V_is hC (hp_a7 ho) dX12_loosen_139 hi hv ?_
    replace kk := kk _ rfl
    refine V_aload_n hC 0 rfl dX12_loosen_140 ?_
    refine V_iload_n hC 1 rfl dX12_loosen_141 ?_
    refine V_bipush hC (d := dX12_loosen_142) rfl ?_
    refine V_cVi hC (As := [_, _]) lv_X12_118 dX12_loosen_144 (d0 := 1) (Nat.le_of_ble_eq_true rfl) (Rm_of hgr) (hp_v ho) rfl (Nat.le_of_ble_eq_true rfl) zk kk (fun r9 M9 z kk => ?_)
    replace kk := kk z
    obtain ⟨ha, k1, k2⟩ := kk
    refine V_if_ne hC 151 rfl dX12_loosen_147 ⟨ha, fun z => ?_, fun z => ?_⟩
    · replace kk := k1 z; clear k1 k2
      refine V_aload_n hC 0 rfl dX12_loosen_151 ?_
      refine V_gr hC fr_X12_50 (hp_r18 ho) dX12_loosen_152 ?_
      refine V_aload_n hC 0 rfl dX12_loosen_155 ?_
      refine V_gi hC fr_X12_95 (hp_i7 ho) dX12_loosen_156 (fun z => ?_)
      replace kk := kk z
      refine V_aload_n hC 0 rfl dX12_loosen_159 ?_
      refine V_gr hC fr_X12_22 (hp_r9 ho) dX12_loosen_160 ?_
      refine V_iload_n hC 1 rfl dX12_loosen_163 ?_
      obtain ⟨hi, kk⟩ := kk
      refine V_il hC (hp_a1 ho) dX12_loosen_164 hi (fun z => ?_)
      replace kk := kk z
      obtain ⟨hi, hv, kk⟩ := kk
      refine V_is hC (hp_a10 ho) dX12_loosen_165 hi hv ?_
      replace kk := kk _ rfl
      refine V_aload_n hC 0 rfl dX12_loosen_166 ?_
      refine V_dup hC rfl dX12_loosen_167 ?_
      refine V_gi hC fr_X12_95 (hp_i7 ho) dX12_loosen_168 (fun z => ?_)
      replace kk := kk z
      refine V_iconst hC dX12_loosen_171 ?_
      refine V_iadd hC dX12_loosen_172 ?_
      obtain ⟨hv, kk⟩ := kk
      refine V_pi hC fk_X12_95 (hp_i7 ho) dX12_loosen_173 hv ?_
      replace kk := kk _ rfl
      exact V_vret hC hR rfl zk dX12_loosen_176 ⟨rfl, kk⟩
    · replace kk := k2 z; clear k1 k2
      exact V_vret hC hR rfl zk dX12_loosen_150 ⟨rfl, kk⟩
  · replace kk := k2 z; clear k1 k2
    exact V_vret hC hR rfl zk dX12_loosen_127 ⟨rfl, kk⟩
theorem ok_X12_loosen {B : WB} {l : Launch} {k n : Nat} {X : va_W} {M : Mem} {Q : Mem → Prop} {E : String → Mem → Prop} {o : Nat} {x1 : Int} (hl : l.stackTraces = false) (body : ∀ G : GT, Ct G md_X12_loosen X (oV Q E) B l k n → L_X12_loosen_0 G X o x1 M) : OkV B l md_X12_loosen k n [.ref (ad B o), .int (I x1)] X M Q E :=
  Ok_of mk_X12_loosen hl (Nat.le_of_ble_eq_true rfl) (fun G h => by have hb := body G h; obtain ⟨-, -, rfl, -, -⟩ := h; exact hb)
def L_X12_drop_0 (G : GT) (X : va_W) (o : Nat) (x1 : Int) (M : Mem) : Prop := V G md_X12_drop 0 0 X M 0 [(0, .ref (ad (gB G) o)), (1, .int (I x1))] []
def T_X12_drop_0 (G : GT) (X : va_W) (Q : Mem → Prop) (E : String → Mem → Prop) (o : Nat) (x1 : Int) (M : Mem) : Prop := ((0 ≤ x1 ∧ x1 < 2048) ∧ inR (-1 : Int) ∧ ∀ M1 : Mem, M1 = up M (o + 7) x1.toNat (-1 : Int) → ((0 ≤ (x1 + (1 : Int)) ∧ (x1 + (1 : Int)) < 2048) ∧ inR (-1 : Int) ∧ ∀ M2 : Mem, M2 = up M1 (o + 7) (x1 + (1 : Int)).toNat (-1 : Int) → Q M2))
set_option maxRecDepth 100000 in
set_option maxHeartbeats 4000000 in
theorem go_X12_drop_0 {G : GT} {X : va_W} {Q : Mem → Prop} {E : String → Mem → Prop} {B : WB} {l : Launch} {k n : Nat} {o : Nat} {x1 : Int} {M : Mem} (h : Ct G md_X12_drop X (oV Q E) B l k n) (ho : isHp o) (kk : T_X12_drop_0 G X Q E o x1 M) : L_X12_drop_0 G X o x1 M := by
  obtain ⟨hC, hR, rfl, hgr, rfl⟩ := h
  unfold T_X12_drop_0 at kk
  unfold L_X12_drop_0
  refine V_aload_n hC 0 rfl dX12_drop_0 ?_
  refine V_gr hC fr_X12_41 (hp_r15 ho) dX12_drop_1 ?_
  refine V_iload_n hC 1 rfl dX12_drop_4 ?_
  refine V_iconst hC dX12_drop_5 ?_
  obtain ⟨hi, hv, kk⟩ := kk
  refine V_is hC (hp_a7 ho) dX12_drop_6 hi hv ?_
  replace kk := kk _ rfl
  refine V_aload_n hC 0 rfl dX12_drop_7 ?_
  refine V_gr hC fr_X12_41 (hp_r15 ho) dX12_drop_8 ?_
  refine V_iload_n hC 1 rfl dX12_drop_11 ?_
  refine V_iconst hC dX12_drop_12 ?_
  refine V_iadd hC dX12_drop_13 ?_
  refine V_iconst hC dX12_drop_14 ?_
  obtain ⟨hi, hv, kk⟩ := kk
  refine V_is hC (hp_a7 ho) dX12_drop_15 hi hv ?_
  replace kk := kk _ rfl
  exact V_vret hC hR rfl zk dX12_drop_16 ⟨rfl, kk⟩
theorem ok_X12_drop {B : WB} {l : Launch} {k n : Nat} {X : va_W} {M : Mem} {Q : Mem → Prop} {E : String → Mem → Prop} {o : Nat} {x1 : Int} (hl : l.stackTraces = false) (body : ∀ G : GT, Ct G md_X12_drop X (oV Q E) B l k n → L_X12_drop_0 G X o x1 M) : OkV B l md_X12_drop k n [.ref (ad B o), .int (I x1)] X M Q E :=
  Ok_of mk_X12_drop hl (Nat.le_of_ble_eq_true rfl) (fun G h => by have hb := body G h; obtain ⟨-, -, rfl, -, -⟩ := h; exact hb)
def L_X12_closeUp_0 (G : GT) (X : va_W) (o : Nat) (M : Mem) : Prop := V G md_X12_closeUp 0 0 X M 0 [(0, .ref (ad (gB G) o))] []
def L_X12_closeUp_6 (G : GT) (X : va_W) (o : Nat) (x1 : Int) (x2 : Int) (x3 : Int) (M : Mem) : Prop := V G md_X12_closeUp 0 0 X M 6 [(0, .ref (ad (gB G) o)), (1, .int (I x1)), (2, .int (I x2)), (3, .int (I x3))] []
def T_X12_closeUp_0 (G : GT) (X : va_W) (Q : Mem → Prop) (E : String → Mem → Prop) (o : Nat) (M : Mem) : Prop := L_X12_closeUp_6 G X o (0 : Int) (0 : Int) (0 : Int) M
set_option maxRecDepth 100000 in
set_option maxHeartbeats 4000000 in
theorem go_X12_closeUp_0 {G : GT} {X : va_W} {Q : Mem → Prop} {E : String → Mem → Prop} {B : WB} {l : Launch} {k n : Nat} {o : Nat} {M : Mem} (h : Ct G md_X12_closeUp X (oV Q E) B l k n) (ho : isHp o) (kk : T_X12_closeUp_0 G X Q E o M) : L_X12_closeUp_0 G X o M := by
  obtain ⟨hC, hR, rfl, hgr, rfl⟩ := h
  unfold T_X12_closeUp_0 at kk
  unfold L_X12_closeUp_0
  refine V_iconst hC dX12_closeUp_0 ?_
  refine V_istore_n hC (lv' := [(1, _), (0, _)]) (Nat.le_of_ble_eq_true rfl) rfl dX12_closeUp_1 ?_
  refine V_iconst hC dX12_closeUp_2 ?_
  refine V_istore_n hC (lv' := [(2, _), (1, _), (0, _)]) (Nat.le_of_ble_eq_true rfl) rfl dX12_closeUp_3 ?_
  refine V_iconst hC dX12_closeUp_4 ?_
  refine V_istore_n hC (lv' := [(3, _), (2, _), (1, _), (0, _)]) (Nat.le_of_ble_eq_true rfl) rfl dX12_closeUp_5 ?_
  exact V_sub [3, 2, 1, 0] rfl kk
def T_X12_closeUp_6 (G : GT) (X : va_W) (Q : Mem → Prop) (E : String → Mem → Prop) (o : Nat) (x1 : Int) (x2 : Int) (x3 : Int) (M : Mem) : Prop := (inR (M o 0) → (inR x3 ∧ inR (M o 0) ∧ ((M o 0) ≤ x3 → (inR x1 ∧ ∀ M1 : Mem, M1 = up M o 0 x1 → (inR x2 ∧ ∀ M2 : Mem, M2 = up M1 o 1 x2 → Q M2))) ∧ (x3 < (M o 0) → ((0 ≤ x3 ∧ x3 < 256) ∧ (inR (M (o + 14) x3.toNat) → (inR (M (o + 14) x3.toNat) ∧ ((M (o + 14) x3.toNat) ≠ 0 → ((0 ≤ x3 ∧ x3 < 256) ∧ (inR (M (o + 2) x3.toNat) → ((0 ≤ x3 ∧ x3 < 256) ∧ (inR (M (o + 3) x3.toNat) → OkI (gB G) (gl G) md_X13_size 0 0 [.ref (ad (gB G) 72), .int (I (M (o + 2) x3.toNat)), .int (I (M (o + 3) x3.toNat))] X M (fun r42 M1 => inR r42 → ((0 ≤ x3 ∧ x3 < 256) ∧ (inR (M1 (o + 4) x3.toNat) → ((0 ≤ (M1 (o + 4) x3.toNat) ∧ 0 ≤ x2 ∧ 0 ≤ r42 ∧ (M1 (o + 4) x3.toNat) + r42 ≤ 2048 ∧ x2 + r42 ≤ 2048) ∧ ∀ M2 : Mem, M2 = cpM M1 (o + 7) (M1 (o + 4) x3.toNat).toNat (o + 7) x2.toNat r42.toNat → ((0 ≤ x3 ∧ x3 < 256) ∧ (inR (M2 (o + 1) x3.toNat) → ((0 ≤ x1 ∧ x1 < 256) ∧ inR (M2 (o + 1) x3.toNat) ∧ ∀ M3 : Mem, M3 = up M2 (o + 1) x1.toNat (M2 (o + 1) x3.toNat) → ((0 ≤ x3 ∧ x3 < 256) ∧ (inR (M3 (o + 2) x3.toNat) → ((0 ≤ x1 ∧ x1 < 256) ∧ inR (M3 (o + 2) x3.toNat) ∧ ∀ M4 : Mem, M4 = up M3 (o + 2) x1.toNat (M3 (o + 2) x3.toNat) → ((0 ≤ x3 ∧ x3 < 256) ∧ (inR (M4 (o + 3) x3.toNat) → ((0 ≤ x1 ∧ x1 < 256) ∧ inR (M4 (o + 3) x3.toNat) ∧ ∀ M5 : Mem, M5 = up M4 (o + 3) x1.toNat (M4 (o + 3) x3.toNat) → ((0 ≤ x1 ∧ x1 < 256) ∧ inR x2 ∧ ∀ M6 : Mem, M6 = up M5 (o + 4) x1.toNat x2 → ((0 ≤ x3 ∧ x3 < 256) ∧ (inR (M6 (o + 5) x3.toNat) → ((0 ≤ x1 ∧ x1 < 256) ∧ inR (M6 (o + 5) x3.toNat) ∧ ∀ M7 : Mem, M7 = up M6 (o + 5) x1.toNat (M6 (o + 5) x3.toNat) → ((0 ≤ x3 ∧ x3 < 256) ∧ (inR (M7 (o + 6) x3.toNat) → ((0 ≤ x1 ∧ x1 < 256) ∧ inR (M7 (o + 6) x3.toNat) ∧ ∀ M8 : Mem, M8 = up M7 (o + 6) x1.toNat (M7 (o + 6) x3.toNat) → L_X12_closeUp_6 G X o (x1 + 1) (x2 + r42) (x3 + 1) M8)))))))))))))))))))) NoX))))) ∧ ((M (o + 14) x3.toNat) = 0 → L_X12_closeUp_6 G X o x1 x2 (x3 + 1) M)))))))
set_option maxRecDepth 100000 in
set_option maxHeartbeats 4000000 in
theorem go_X12_closeUp_6 {G : GT} {X : va_W} {Q : Mem → Prop} {E : String → Mem → Prop} {B : WB} {l : Launch} {k n : Nat} {o : Nat} {x1 : Int} {x2 : Int} {x3 : Int} {M : Mem} (h : Ct G md_X12_closeUp X (oV Q E) B l k n) (ho : isHp o) (kk : T_X12_closeUp_6 G X Q E o x1 x2 x3 M) : L_X12_closeUp_6 G X o x1 x2 x3 M := by
  obtain ⟨hC, hR, rfl, hgr, rfl⟩ := h
  unfold T_X12_closeUp_6 at kk
  unfold L_X12_closeUp_6
  refine V_iload_n hC 3 rfl dX12_closeUp_6 ?_
  refine V_aload_n hC 0 rfl dX12_closeUp_7 ?_
  refine V_gi hC fr_X12_80 (hp_i0 ho) dX12_closeUp_8 (fun z => ?_)
  replace kk := kk z
  obtain ⟨ha, hb, k1, k2⟩ := kk
  refine V_icmp_ge hC 148 rfl dX12_closeUp_11 ⟨ha, hb, fun z => ?_, fun z => ?_⟩
  · replace kk := k1 z; clear k1 k2
    refine V_aload_n hC 0 rfl dX12_closeUp_148 ?_
    refine V_iload_n hC 1 rfl dX12_closeUp_149 ?_
    obtain ⟨hv, kk⟩ := kk
    refine V_pi hC fk_X12_80 (hp_i0 ho) dX12_closeUp_150 hv ?_
    replace kk := kk _ rfl
    refine V_aload_n hC 0 rfl dX12_closeUp_153 ?_
    refine V_iload_n hC 2 rfl dX12_closeUp_154 ?_
    obtain ⟨hv, kk⟩ := kk
    refine V_pi hC fk_X12_83 (hp_i1 ho) dX12_closeUp_155 hv ?_
    replace kk := kk _ rfl
    exact V_vret hC hR rfl zk dX12_closeUp_158 ⟨rfl, kk⟩
  · replace kk := k2 z; clear k1 k2
    refine V_aload_n hC 0 rfl dX12_closeUp_14 ?_
    refine V_gr hC fr_X12_62 (hp_r22 ho) dX12_closeUp_15 ?_
    refine V_iload_n hC 3 rfl dX12_closeUp_18 ?_
    obtain ⟨hi, kk⟩ := kk
    refine V_il hC (hp_a14 ho) dX12_closeUp_19 hi (fun z => ?_)
    replace kk := kk z
    obtain ⟨ha, k1, k2⟩ := kk
    refine V_if_ne hC 26 rfl dX12_closeUp_20 ⟨ha, fun z => ?_, fun z => ?_⟩
    · replace kk := k1 z; clear k1 k2
      refine V_aload_n hC 0 rfl dX12_closeUp_26 ?_
      refine V_gr hC fr_X12_3 (hp_r27 ho) dX12_closeUp_27 ?_
      refine V_aload_n hC 0 rfl dX12_closeUp_30 ?_
      refine V_gr hC fr_X12_26 (hp_r10 ho) dX12_closeUp_31 ?_
      refine V_iload_n hC 3 rfl dX12_closeUp_34 ?_
      obtain ⟨hi, kk⟩ := kk
      refine V_il hC (hp_a2 ho) dX12_closeUp_35 hi (fun z => ?_)
      replace kk := kk z
      refine V_aload_n hC 0 rfl dX12_closeUp_36 ?_
      refine V_gr hC fr_X12_29 (hp_r11 ho) dX12_closeUp_37 ?_
      refine V_iload_n hC 3 rfl dX12_closeUp_40 ?_
      obtain ⟨hi, kk⟩ := kk
      refine V_il hC (hp_a3 ho) dX12_closeUp_41 hi (fun z => ?_)
      replace kk := kk z
      refine V_cVi hC (As := [_, _]) lv_X12_126 dX12_closeUp_42 (d0 := 1) (Nat.le_of_ble_eq_true rfl) (Rm_of hgr) rv_72 rfl (Nat.le_of_ble_eq_true rfl) zk kk (fun r9 M9 z kk => ?_)
      replace kk := kk z
      refine V_istore hC (lv' := [(4, _), (0, _), (1, _), (2, _), (3, _)]) (Nat.le_of_ble_eq_true rfl) rfl dX12_closeUp_45 ?_
      refine V_aload_n hC 1 rfl dX12_closeUp_47 ?_
      refine V_gr hC fr_X12_41 (hp_r15 ho) dX12_closeUp_48 ?_
      refine V_aload_n hC 1 rfl dX12_closeUp_51 ?_
      refine V_gr hC fr_X12_32 (hp_r12 ho) dX12_closeUp_52 ?_
      refine V_iload_n hC 4 rfl dX12_closeUp_55 ?_
      obtain ⟨hi, kk⟩ := kk
      refine V_il hC (hp_a4 ho) dX12_closeUp_56 hi (fun z => ?_)
      replace kk := kk z
      refine V_aload_n hC 1 rfl dX12_closeUp_57 ?_
      refine V_gr hC fr_X12_41 (hp_r15 ho) dX12_closeUp_58 ?_
      refine V_iload_n hC 3 rfl dX12_closeUp_61 ?_
      refine V_iload hC 0 rfl dX12_closeUp_62 ?_
      obtain ⟨hi, kk⟩ := kk
      refine V_cp hC cp_X12_101 (hp_a7 ho) (hp_a7 ho) dX12_closeUp_64 (R8_of hgr) (Nat.le_of_ble_eq_true rfl) hi ?_
      replace kk := kk _ rfl
      refine V_aload_n hC 1 rfl dX12_closeUp_67 ?_
      refine V_gr hC fr_X12_22 (hp_r9 ho) dX12_closeUp_68 ?_
      refine V_iload_n hC 2 rfl dX12_closeUp_71 ?_
      refine V_aload_n hC 1 rfl dX12_closeUp_72 ?_
      refine V_gr hC fr_X12_22 (hp_r9 ho) dX12_closeUp_73 ?_
      refine V_iload_n hC 4 rfl dX12_closeUp_76 ?_
      obtain ⟨hi, kk⟩ := kk
      refine V_il hC (hp_a1 ho) dX12_closeUp_77 hi (fun z => ?_)
      replace kk := kk z
      obtain ⟨hi, hv, kk⟩ := kk
      refine V_is hC (hp_a1 ho) dX12_closeUp_78 hi hv ?_
      replace kk := kk _ rfl
      refine V_aload_n hC 1 rfl dX12_closeUp_79 ?_
      refine V_gr hC fr_X12_26 (hp_r10 ho) dX12_closeUp_80 ?_
      refine V_iload_n hC 2 rfl dX12_closeUp_83 ?_
      refine V_aload_n hC 1 rfl dX12_closeUp_84 ?_
      refine V_gr hC fr_X12_26 (hp_r10 ho) dX12_closeUp_85 ?_
      refine V_iload_n hC 4 rfl dX12_closeUp_88 ?_
      obtain ⟨hi, kk⟩ := kk
      refine V_il hC (hp_a2 ho) dX12_closeUp_89 hi (fun z => ?_)
      replace kk := kk z
      obtain ⟨hi, hv, kk⟩ := kk
      refine V_is hC (hp_a2 ho) dX12_closeUp_90 hi hv ?_
      replace kk := kk _ rfl
      refine V_aload_n hC 1 rfl dX12_closeUp_91 ?_
      refine V_gr hC fr_X12_29 (hp_r11 ho) dX12_closeUp_92 ?_
      refine V_iload_n hC 2 rfl dX12_closeUp_95 ?_
      refine V_aload_n hC 1 rfl dX12_closeUp_96 ?_
      refine V_gr hC fr_X12_29 (hp_r11 ho) dX12_closeUp_97 ?_
      refine V_iload_n hC 4 rfl dX12_closeUp_100 ?_
      obtain ⟨hi, kk⟩ := kk
      refine V_il hC (hp_a3 ho) dX12_closeUp_101 hi (fun z => ?_)
      replace kk := kk z
      obtain ⟨hi, hv, kk⟩ := kk
      refine V_is hC (hp_a3 ho) dX12_closeUp_102 hi hv ?_
      replace kk := kk _ rfl
      refine V_aload_n hC 1 rfl dX12_closeUp_103 ?_
      refine V_gr hC fr_X12_32 (hp_r12 ho) dX12_closeUp_104 ?_
      refine V_iload_n hC 2 rfl dX12_closeUp_107 ?_
      refine V_iload_n hC 3 rfl dX12_closeUp_108 ?_
      obtain ⟨hi, hv, kk⟩ := kk
      refine V_is hC (hp_a4 ho) dX12_closeUp_109 hi hv ?_
      replace kk := kk _ rfl
      refine V_aload_n hC 1 rfl dX12_closeUp_110 ?_
      refine V_gr hC fr_X12_35 (hp_r13 ho) dX12_closeUp_111 ?_
      refine V_iload_n hC 2 rfl dX12_closeUp_114 ?_
      refine V_aload_n hC 1 rfl dX12_closeUp_115 ?_
      refine V_gr hC fr_X12_35 (hp_r13 ho) dX12_closeUp_116 ?_
      refine V_iload_n hC 4 rfl dX12_closeUp_119 ?_
      obtain ⟨hi, kk⟩ := kk
      refine V_il hC (hp_a5 ho) dX12_closeUp_120 hi (fun z => ?_)
      replace kk := kk z
      obtain ⟨hi, hv, kk⟩ := kk
      refine V_is hC (hp_a5 ho) dX12_closeUp_121 hi hv ?_
      replace kk := kk _ rfl
      refine V_aload_n hC 1 rfl dX12_closeUp_122 ?_
      refine V_gr hC fr_X12_38 (hp_r14 ho) dX12_closeUp_123 ?_
      refine V_iload_n hC 2 rfl dX12_closeUp_126 ?_
      refine V_aload_n hC 1 rfl dX12_closeUp_127 ?_
      refine V_gr hC fr_X12_38 (hp_r14 ho) dX12_closeUp_128 ?_
      refine V_iload_n hC 4 rfl dX12_closeUp_131 ?_
      obtain ⟨hi, kk⟩ := kk
      refine V_il hC (hp_a6 ho) dX12_closeUp_132 hi (fun z => ?_)
      replace kk := kk z
      obtain ⟨hi, hv, kk⟩ := kk
      refine V_is hC (hp_a6 ho) dX12_closeUp_133 hi hv ?_
      replace kk := kk _ rfl
      refine V_iload_n hC 3 rfl dX12_closeUp_134 ?_
      refine V_iload hC 0 rfl dX12_closeUp_135 ?_
      refine V_iadd hC dX12_closeUp_137 ?_
      refine V_istore_n hC (lv' := [(2, _), (4, _), (0, _), (1, _), (3, _)]) (Nat.le_of_ble_eq_true rfl) rfl dX12_closeUp_138 ?_
      refine V_iinc hC (lv' := [(1, _), (2, _), (4, _), (0, _), (3, _)]) 3 rfl (Nat.le_of_ble_eq_true rfl) rfl dX12_closeUp_139 ?_
      refine V_iinc hC (lv' := [(3, _), (1, _), (2, _), (4, _), (0, _)]) 4 rfl (Nat.le_of_ble_eq_true rfl) rfl dX12_closeUp_142 ?_
      refine V_goto hC 6 rfl dX12_closeUp_145 ?_
      exact V_sub [4, 1, 2, 0] rfl kk
    · replace kk := k2 z; clear k1 k2
      refine V_goto hC 142 rfl dX12_closeUp_23 ?_
      refine V_iinc hC (lv' := [(3, _), (0, _), (1, _), (2, _)]) 3 rfl (Nat.le_of_ble_eq_true rfl) rfl dX12_closeUp_142 ?_
      refine V_goto hC 6 rfl dX12_closeUp_145 ?_
      exact V_sub [1, 2, 3, 0] rfl kk
theorem ok_X12_closeUp {B : WB} {l : Launch} {k n : Nat} {X : va_W} {M : Mem} {Q : Mem → Prop} {E : String → Mem → Prop} {o : Nat} (hl : l.stackTraces = false) (body : ∀ G : GT, Ct G md_X12_closeUp X (oV Q E) B l k n → L_X12_closeUp_0 G X o M) : OkV B l md_X12_closeUp k n [.ref (ad B o)] X M Q E :=
  Ok_of mk_X12_closeUp hl (Nat.le_of_ble_eq_true rfl) (fun G h => by have hb := body G h; obtain ⟨-, -, rfl, -, -⟩ := h; exact hb)
def L_X12_grow_0 (G : GT) (X : va_W) (o : Nat) (M : Mem) : Prop := V G md_X12_grow 0 0 X M 0 [(0, .ref (ad (gB G) o))] []
def L_X12_grow_12 (G : GT) (X : va_W) (o : Nat) (x1 : Int) (M : Mem) : Prop := V G md_X12_grow 0 0 X M 12 [(0, .ref (ad (gB G) o)), (1, .int (I x1))] []
def T_X12_grow_0 (G : GT) (X : va_W) (Q : Mem → Prop) (E : String → Mem → Prop) (o : Nat) (M : Mem) : Prop := (inR (M o 3) → (inR ((M o 3) + (1 : Int)) ∧ ∀ M1 : Mem, M1 = up M o 3 ((M o 3) + (1 : Int)) → L_X12_grow_12 G X o (0 : Int) M1))
set_option maxRecDepth 100000 in
set_option maxHeartbeats 4000000 in
theorem go_X12_grow_0 {G : GT} {X : va_W} {Q : Mem → Prop} {E : String → Mem → Prop} {B : WB} {l : Launch} {k n : Nat} {o : Nat} {M : Mem} (h : Ct G md_X12_grow X (oV Q E) B l k n) (ho : isHp o) (kk : T_X12_grow_0 G X Q E o M) : L_X12_grow_0 G X o M := by
  obtain ⟨hC, hR, rfl, hgr, rfl⟩ := h
  unfold T_X12_grow_0 at kk
  unfold L_X12_grow_0
  refine V_aload_n hC 0 rfl dX12_grow_0 ?_
  refine V_dup hC rfl dX12_grow_1 ?_
  refine V_gi hC fr_X12_89 (hp_i3 ho) dX12_grow_2 (fun z => ?_)
  replace kk := kk z
  refine V_iconst hC dX12_grow_5 ?_
  refine V_iadd hC dX12_grow_6 ?_
  obtain ⟨hv, kk⟩ := kk
  refine V_pi hC fk_X12_89 (hp_i3 ho) dX12_grow_7 hv ?_
  replace kk := kk _ rfl
  refine V_iconst hC dX12_grow_10 ?_
  refine V_istore_n hC (lv' := [(1, _), (0, _)]) (Nat.le_of_ble_eq_true rfl) rfl dX12_grow_11 ?_
  exact V_sub [1, 0] rfl kk
def T_X12_grow_12 (G : GT) (X : va_W) (Q : Mem → Prop) (E : String → Mem → Prop) (o : Nat) (x1 : Int) (M : Mem) : Prop := (inR (M o 0) → (inR x1 ∧ inR (M o 0) ∧ ((M o 0) ≤ x1 → Q M) ∧ (x1 < (M o 0) → OkI (gB G) (gl G) md_X12_is 0 0 [.ref (ad (gB G) o), .int (I x1), .int (I (1 : Int))] X M (fun r23 M1 => inR r23 → (inR r23 ∧ (r23 = 0 → ((0 ≤ x1 ∧ x1 < 256) ∧ (inR (M1 (o + 5) x1.toNat) → ((0 ≤ x1 ∧ x1 < 256) ∧ inR ((M1 (o + 5) x1.toNat) + (1 : Int)) ∧ ∀ M2 : Mem, M2 = up M1 (o + 5) x1.toNat ((M1 (o + 5) x1.toNat) + (1 : Int)) → ((0 ≤ x1 ∧ x1 < 256) ∧ (inR (M2 (o + 5) x1.toNat) → (inR (M2 o 5) → (inR (M2 (o + 5) x1.toNat) ∧ inR (M2 o 5) ∧ ((M2 (o + 5) x1.toNat) < (M2 o 5) → L_X12_grow_12 G X o (x1 + 1) M2) ∧ ((M2 o 5) ≤ (M2 (o + 5) x1.toNat) → ((0 ≤ x1 ∧ x1 < 256) ∧ (inR (M2 (o + 6) x1.toNat) → (inR (bor (M2 (o + 6) x1.toNat) (1 : Int)) → ((0 ≤ x1 ∧ x1 < 256) ∧ inR (bor (M2 (o + 6) x1.toNat) (1 : Int)) ∧ ∀ M3 : Mem, M3 = up M2 (o + 6) x1.toNat (bor (M2 (o + 6) x1.toNat) (1 : Int)) → L_X12_grow_12 G X o (x1 + 1) M3))))))))))))) ∧ (r23 ≠ 0 → L_X12_grow_12 G X o (x1 + 1) M1))) NoX)))
set_option maxRecDepth 100000 in
set_option maxHeartbeats 4000000 in
theorem go_X12_grow_12 {G : GT} {X : va_W} {Q : Mem → Prop} {E : String → Mem → Prop} {B : WB} {l : Launch} {k n : Nat} {o : Nat} {x1 : Int} {M : Mem} (h : Ct G md_X12_grow X (oV Q E) B l k n) (ho : isHp o) (kk : T_X12_grow_12 G X Q E o x1 M) : L_X12_grow_12 G X o x1 M := by
  obtain ⟨hC, hR, rfl, hgr, rfl⟩ := h
  unfold T_X12_grow_12 at kk
  unfold L_X12_grow_12
  refine V_iload_n hC 1 rfl dX12_grow_12 ?_
  refine V_aload_n hC 0 rfl dX12_grow_13 ?_
  refine V_gi hC fr_X12_80 (hp_i0 ho) dX12_grow_14 (fun z => ?_)
  replace kk := kk z
  obtain ⟨ha, hb, k1, k2⟩ := kk
  refine V_icmp_ge hC 71 rfl dX12_grow_17 ⟨ha, hb, fun z => ?_, fun z => ?_⟩
  · replace kk := k1 z; clear k1 k2
    exact V_vret hC hR rfl zk dX12_grow_71 ⟨rfl, kk⟩
  · replace kk := k2 z; clear k1 k2
    refine V_aload_n hC 0 rfl dX12_grow_20 ?_
    refine V_iload_n hC 1 rfl dX12_grow_21 ?_
    refine V_iconst hC dX12_grow_22 ?_
    refine V_cVi hC (As := [_, _]) lv_X12_118 dX12_grow_23 (d0 := 1) (Nat.le_of_ble_eq_true rfl) (Rm_of hgr) (hp_v ho) rfl (Nat.le_of_ble_eq_true rfl) zk kk (fun r9 M9 z kk => ?_)
    replace kk := kk z
    obtain ⟨ha, k1, k2⟩ := kk
    refine V_if_eq hC 32 rfl dX12_grow_26 ⟨ha, fun z => ?_, fun z => ?_⟩
    · replace kk := k1 z; clear k1 k2
      refine V_aload_n hC 0 rfl dX12_grow_32 ?_
      refine V_gr hC fr_X12_35 (hp_r13 ho) dX12_grow_33 ?_
      refine V_iload_n hC 1 rfl dX12_grow_36 ?_
      refine V_dup2 hC rfl rfl dX12_grow_37 ?_
      obtain ⟨hi, kk⟩ := kk
      refine V_il hC (hp_a5 ho) dX12_grow_38 hi (fun z => ?_)
      replace kk := kk z
      refine V_iconst hC dX12_grow_39 ?_
      refine V_iadd hC dX12_grow_40 ?_
      obtain ⟨hi, hv, kk⟩ := kk
      refine V_is hC (hp_a5 ho) dX12_grow_41 hi hv ?_
      replace kk := kk _ rfl
      refine V_aload_n hC 0 rfl dX12_grow_42 ?_
      refine V_gr hC fr_X12_35 (hp_r13 ho) dX12_grow_43 ?_
      refine V_iload_n hC 1 rfl dX12_grow_46 ?_
      obtain ⟨hi, kk⟩ := kk
      refine V_il hC (hp_a5 ho) dX12_grow_47 hi (fun z => ?_)
      replace kk := kk z
      refine V_aload_n hC 0 rfl dX12_grow_48 ?_
      refine V_gi hC fr_X12_15 (hp_i5 ho) dX12_grow_49 (fun z => ?_)
      replace kk := kk z
      obtain ⟨ha, hb, k1, k2⟩ := kk
      refine V_icmp_lt hC 65 rfl dX12_grow_52 ⟨ha, hb, fun z => ?_, fun z => ?_⟩
      · replace kk := k1 z; clear k1 k2
        refine V_iinc hC (lv' := [(1, _), (0, _)]) 1 rfl (Nat.le_of_ble_eq_true rfl) rfl dX12_grow_65 ?_
        refine V_goto hC 12 rfl dX12_grow_68 ?_
        exact V_sub [1, 0] rfl kk
      · replace kk := k2 z; clear k1 k2
        refine V_aload_n hC 0 rfl dX12_grow_55 ?_
        refine V_gr hC fr_X12_38 (hp_r14 ho) dX12_grow_56 ?_
        refine V_iload_n hC 1 rfl dX12_grow_59 ?_
        refine V_dup2 hC rfl rfl dX12_grow_60 ?_
        obtain ⟨hi, kk⟩ := kk
        refine V_il hC (hp_a6 ho) dX12_grow_61 hi (fun z => ?_)
        replace kk := kk z
        refine V_iconst hC dX12_grow_62 ?_
        refine V_or hC dX12_grow_63 (fun z => ?_)
        replace kk := kk z
        obtain ⟨hi, hv, kk⟩ := kk
        refine V_is hC (hp_a6 ho) dX12_grow_64 hi hv ?_
        replace kk := kk _ rfl
        refine V_iinc hC (lv' := [(1, _), (0, _)]) 1 rfl (Nat.le_of_ble_eq_true rfl) rfl dX12_grow_65 ?_
        refine V_goto hC 12 rfl dX12_grow_68 ?_
        exact V_sub [1, 0] rfl kk
    · replace kk := k2 z; clear k1 k2
      refine V_goto hC 65 rfl dX12_grow_29 ?_
      refine V_iinc hC (lv' := [(1, _), (0, _)]) 1 rfl (Nat.le_of_ble_eq_true rfl) rfl dX12_grow_65 ?_
      refine V_goto hC 12 rfl dX12_grow_68 ?_
      exact V_sub [1, 0] rfl kk
theorem ok_X12_grow {B : WB} {l : Launch} {k n : Nat} {X : va_W} {M : Mem} {Q : Mem → Prop} {E : String → Mem → Prop} {o : Nat} (hl : l.stackTraces = false) (body : ∀ G : GT, Ct G md_X12_grow X (oV Q E) B l k n → L_X12_grow_0 G X o M) : OkV B l md_X12_grow k n [.ref (ad B o)] X M Q E :=
  Ok_of mk_X12_grow hl (Nat.le_of_ble_eq_true rfl) (fun G h => by have hb := body G h; obtain ⟨-, -, rfl, -, -⟩ := h; exact hb)
def L_X12_rise_0 (G : GT) (X : va_W) (o : Nat) (M : Mem) : Prop := V G md_X12_rise 0 0 X M 0 [(0, .ref (ad (gB G) o))] []
def L_X12_rise_18 (G : GT) (X : va_W) (o : Nat) (x1 : Int) (x2 : Int) (M : Mem) : Prop := V G md_X12_rise 0 0 X M 18 [(0, .ref (ad (gB G) o)), (1, .int (I x1)), (2, .int (I x2))] []
def T_X12_rise_0 (G : GT) (X : va_W) (Q : Mem → Prop) (E : String → Mem → Prop) (o : Nat) (M : Mem) : Prop := (inR (M o 4) → (inR ((M o 4) + (1 : Int)) ∧ ∀ M1 : Mem, M1 = up M o 4 ((M o 4) + (1 : Int)) → OkI (gB G) (gl G) md_X12_allWords 0 0 [.ref (ad (gB G) o), .int (I (1 : Int))] X M1 (fun r12 M2 => inR r12 → L_X12_rise_18 G X o r12 (0 : Int) M2) NoX))
set_option maxRecDepth 100000 in
set_option maxHeartbeats 4000000 in
theorem go_X12_rise_0 {G : GT} {X : va_W} {Q : Mem → Prop} {E : String → Mem → Prop} {B : WB} {l : Launch} {k n : Nat} {o : Nat} {M : Mem} (h : Ct G md_X12_rise X (oV Q E) B l k n) (ho : isHp o) (kk : T_X12_rise_0 G X Q E o M) : L_X12_rise_0 G X o M := by
  obtain ⟨hC, hR, rfl, hgr, rfl⟩ := h
  unfold T_X12_rise_0 at kk
  unfold L_X12_rise_0
  refine V_aload_n hC 0 rfl dX12_rise_0 ?_
  refine V_dup hC rfl dX12_rise_1 ?_
  refine V_gi hC fr_X12_92 (hp_i4 ho) dX12_rise_2 (fun z => ?_)
  replace kk := kk z
  refine V_iconst hC dX12_rise_5 ?_
  refine V_iadd hC dX12_rise_6 ?_
  obtain ⟨hv, kk⟩ := kk
  refine V_pi hC fk_X12_92 (hp_i4 ho) dX12_rise_7 hv ?_
  replace kk := kk _ rfl
  refine V_aload_n hC 0 rfl dX12_rise_10 ?_
  refine V_iconst hC dX12_rise_11 ?_
  refine V_cVi hC (As := [_]) lv_X12_168 dX12_rise_12 (d0 := 4) (Nat.le_of_ble_eq_true rfl) (Rm_of hgr) (hp_v ho) rfl (Nat.le_of_ble_eq_true rfl) zk kk (fun r9 M9 z kk => ?_)
  replace kk := kk z
  refine V_istore_n hC (lv' := [(1, _), (0, _)]) (Nat.le_of_ble_eq_true rfl) rfl dX12_rise_15 ?_
  refine V_iconst hC dX12_rise_16 ?_
  refine V_istore_n hC (lv' := [(2, _), (1, _), (0, _)]) (Nat.le_of_ble_eq_true rfl) rfl dX12_rise_17 ?_
  exact V_sub [2, 1, 0] rfl kk
def T_X12_rise_18 (G : GT) (X : va_W) (Q : Mem → Prop) (E : String → Mem → Prop) (o : Nat) (x1 : Int) (x2 : Int) (M : Mem) : Prop := (inR (M o 0) → (inR x2 ∧ inR (M o 0) ∧ ((M o 0) ≤ x2 → Q M) ∧ (x2 < (M o 0) → OkI (gB G) (gl G) md_X12_is 0 0 [.ref (ad (gB G) o), .int (I x2), .int (I (1 : Int))] X M (fun r29 M1 => inR r29 → (inR r29 ∧ (r29 ≠ 0 → L_X12_rise_18 G X o x1 (x2 + 1) M1) ∧ (r29 = 0 → OkI (gB G) (gl G) md_X12_wordsOf 0 0 [.ref (ad (gB G) o), .int (I x2)] X M1 (fun r38 M2 => inR r38 → (inR (x1 + r38) ∧ inR (320 : Int) ∧ ((x1 + r38) ≤ (320 : Int) → OkI (gB G) (gl G) md_X12_wordsOf 0 0 [.ref (ad (gB G) o), .int (I x2)] X M2 (fun r54 M3 => inR r54 → ((0 ≤ x2 ∧ x2 < 256) ∧ (inR (M3 (o + 6) x2.toNat) → (inR (bor (M3 (o + 6) x2.toNat) (1 : Int)) → ((0 ≤ x2 ∧ x2 < 256) ∧ inR (bor (M3 (o + 6) x2.toNat) (1 : Int)) ∧ ∀ M4 : Mem, M4 = up M3 (o + 6) x2.toNat (bor (M3 (o + 6) x2.toNat) (1 : Int)) → L_X12_rise_18 G X o (x1 + r54) (x2 + 1) M4))))) NoX) ∧ ((320 : Int) < (x1 + r38) → L_X12_rise_18 G X o x1 (x2 + 1) M2))) NoX))) NoX)))
set_option maxRecDepth 100000 in
set_option maxHeartbeats 4000000 in
theorem go_X12_rise_18 {G : GT} {X : va_W} {Q : Mem → Prop} {E : String → Mem → Prop} {B : WB} {l : Launch} {k n : Nat} {o : Nat} {x1 : Int} {x2 : Int} {M : Mem} (h : Ct G md_X12_rise X (oV Q E) B l k n) (ho : isHp o) (kk : T_X12_rise_18 G X Q E o x1 x2 M) : L_X12_rise_18 G X o x1 x2 M := by
  obtain ⟨hC, hR, rfl, hgr, rfl⟩ := h
  unfold T_X12_rise_18 at kk
  unfold L_X12_rise_18
  refine V_iload_n hC 2 rfl dX12_rise_18 ?_
  refine V_aload_n hC 0 rfl dX12_rise_19 ?_
  refine V_gi hC fr_X12_80 (hp_i0 ho) dX12_rise_20 (fun z => ?_)
  replace kk := kk z
  obtain ⟨ha, hb, k1, k2⟩ := kk
  refine V_icmp_ge hC 75 rfl dX12_rise_23 ⟨ha, hb, fun z => ?_, fun z => ?_⟩
  · replace kk := k1 z; clear k1 k2
    exact V_vret hC hR rfl zk dX12_rise_75 ⟨rfl, kk⟩
  · replace kk := k2 z; clear k1 k2
    refine V_aload_n hC 0 rfl dX12_rise_26 ?_
    refine V_iload_n hC 2 rfl dX12_rise_27 ?_
    refine V_iconst hC dX12_rise_28 ?_
    refine V_cVi hC (As := [_, _]) lv_X12_118 dX12_rise_29 (d0 := 4) (Nat.le_of_ble_eq_true rfl) (Rm_of hgr) (hp_v ho) rfl (Nat.le_of_ble_eq_true rfl) zk kk (fun r9 M9 z kk => ?_)
    replace kk := kk z
    obtain ⟨ha, k1, k2⟩ := kk
    refine V_if_ne hC 69 rfl dX12_rise_32 ⟨ha, fun z => ?_, fun z => ?_⟩
    · replace kk := k1 z; clear k1 k2
      refine V_iinc hC (lv' := [(2, _), (0, _), (1, _)]) 2 rfl (Nat.le_of_ble_eq_true rfl) rfl dX12_rise_69 ?_
      refine V_goto hC 18 rfl dX12_rise_72 ?_
      exact V_sub [1, 2, 0] rfl kk
    · replace kk := k2 z; clear k1 k2
      refine V_iload_n hC 1 rfl dX12_rise_35 ?_
      refine V_aload_n hC 0 rfl dX12_rise_36 ?_
      refine V_iload_n hC 2 rfl dX12_rise_37 ?_
      refine V_cVi hC (As := [_]) lv_X12_122 dX12_rise_38 (d0 := 4) (Nat.le_of_ble_eq_true rfl) (Rm_of hgr) (hp_v ho) rfl (Nat.le_of_ble_eq_true rfl) zk kk (fun r9 M9 z kk => ?_)
      replace kk := kk z
      refine V_iadd hC dX12_rise_41 ?_
      refine V_sipush hC (d := dX12_rise_42) rfl ?_
      obtain ⟨ha, hb, k1, k2⟩ := kk
      refine V_icmp_le hC 51 rfl dX12_rise_45 ⟨ha, hb, fun z => ?_, fun z => ?_⟩
      · replace kk := k1 z; clear k1 k2
        refine V_iload_n hC 1 rfl dX12_rise_51 ?_
        refine V_aload_n hC 0 rfl dX12_rise_52 ?_
        refine V_iload_n hC 2 rfl dX12_rise_53 ?_
        refine V_cVi hC (As := [_]) lv_X12_122 dX12_rise_54 (d0 := 4) (Nat.le_of_ble_eq_true rfl) (Rm_of hgr) (hp_v ho) rfl (Nat.le_of_ble_eq_true rfl) zk kk (fun r9 M9 z kk => ?_)
        replace kk := kk z
        refine V_iadd hC dX12_rise_57 ?_
        refine V_istore_n hC (lv' := [(1, _), (0, _), (2, _)]) (Nat.le_of_ble_eq_true rfl) rfl dX12_rise_58 ?_
        refine V_aload_n hC 1 rfl dX12_rise_59 ?_
        refine V_gr hC fr_X12_38 (hp_r14 ho) dX12_rise_60 ?_
        refine V_iload_n hC 2 rfl dX12_rise_63 ?_
        refine V_dup2 hC rfl rfl dX12_rise_64 ?_
        obtain ⟨hi, kk⟩ := kk
        refine V_il hC (hp_a6 ho) dX12_rise_65 hi (fun z => ?_)
        replace kk := kk z
        refine V_iconst hC dX12_rise_66 ?_
        refine V_or hC dX12_rise_67 (fun z => ?_)
        replace kk := kk z
        obtain ⟨hi, hv, kk⟩ := kk
        refine V_is hC (hp_a6 ho) dX12_rise_68 hi hv ?_
        replace kk := kk _ rfl
        refine V_iinc hC (lv' := [(2, _), (1, _), (0, _)]) 2 rfl (Nat.le_of_ble_eq_true rfl) rfl dX12_rise_69 ?_
        refine V_goto hC 18 rfl dX12_rise_72 ?_
        exact V_sub [2, 1, 0] rfl kk
      · replace kk := k2 z; clear k1 k2
        refine V_goto hC 69 rfl dX12_rise_48 ?_
        refine V_iinc hC (lv' := [(2, _), (0, _), (1, _)]) 2 rfl (Nat.le_of_ble_eq_true rfl) rfl dX12_rise_69 ?_
        refine V_goto hC 18 rfl dX12_rise_72 ?_
        exact V_sub [1, 2, 0] rfl kk
theorem ok_X12_rise {B : WB} {l : Launch} {k n : Nat} {X : va_W} {M : Mem} {Q : Mem → Prop} {E : String → Mem → Prop} {o : Nat} (hl : l.stackTraces = false) (body : ∀ G : GT, Ct G md_X12_rise X (oV Q E) B l k n → L_X12_rise_0 G X o M) : OkV B l md_X12_rise k n [.ref (ad B o)] X M Q E :=
  Ok_of mk_X12_rise hl (Nat.le_of_ble_eq_true rfl) (fun G h => by have hb := body G h; obtain ⟨-, -, rfl, -, -⟩ := h; exact hb)
def L_X12_toKeep_0 (G : GT) (X : va_W) (o : Nat) (M : Mem) : Prop := V G md_X12_toKeep 0 0 X M 0 [(0, .ref (ad (gB G) o))] []
def L_X12_toKeep_18 (G : GT) (X : va_W) (o : Nat) (x1 : Int) (M : Mem) : Prop := V G md_X12_toKeep 0 0 X M 18 [(0, .ref (ad (gB G) o)), (1, .int (I x1))] []
def L_X12_toKeep_64 (G : GT) (X : va_W) (o : Nat) (x1 : Int) (x2 : Int) (M : Mem) : Prop := V G md_X12_toKeep 0 0 X M 64 [(0, .ref (ad (gB G) o)), (1, .int (I x1)), (2, .int (I x2))] []
def T_X12_toKeep_0 (G : GT) (X : va_W) (Q : Int → Mem → Prop) (E : String → Mem → Prop) (o : Nat) (M : Mem) : Prop := OkV (gB G) (gl G) md_X12_none 0 0 [.ref (ad (gB G) o), .ref (ad (gB G) (o + 14))] X M (fun M1 => OkV (gB G) (gl G) md_X12_markRoots 0 0 [.ref (ad (gB G) o), .ref (ad (gB G) (o + 14))] X M1 (fun M2 => L_X12_toKeep_18 G X o (0 : Int) M2) NoX) NoX
set_option maxRecDepth 100000 in
set_option maxHeartbeats 4000000 in
theorem go_X12_toKeep_0 {G : GT} {X : va_W} {Q : Int → Mem → Prop} {E : String → Mem → Prop} {B : WB} {l : Launch} {k n : Nat} {o : Nat} {M : Mem} (h : Ct G md_X12_toKeep X (oI Q E) B l k n) (ho : isHp o) (kk : T_X12_toKeep_0 G X Q E o M) : L_X12_toKeep_0 G X o M := by
  obtain ⟨hC, hR, rfl, hgr, rfl⟩ := h
  unfold T_X12_toKeep_0 at kk
  unfold L_X12_toKeep_0
  refine V_aload_n hC 0 rfl dX12_toKeep_0 ?_
  refine V_aload_n hC 0 rfl dX12_toKeep_1 ?_
  refine V_gr hC fr_X12_62 (hp_r22 ho) dX12_toKeep_2 ?_
  refine V_cVv hC (As := [_]) lv_X12_107 dX12_toKeep_5 (d0 := 3) (Nat.le_of_ble_eq_true rfl) (Rm_of hgr) (hp_v ho) rfl (Nat.le_of_ble_eq_true rfl) zk kk (fun M9 kk => ?_)
  refine V_aload_n hC 0 rfl dX12_toKeep_8 ?_
  refine V_aload_n hC 0 rfl dX12_toKeep_9 ?_
  refine V_gr hC fr_X12_62 (hp_r22 ho) dX12_toKeep_10 ?_
  refine V_cVv hC (As := [_]) lv_X12_154 dX12_toKeep_13 (d0 := 3) (Nat.le_of_ble_eq_true rfl) (Rm_of hgr) (hp_v ho) rfl (Nat.le_of_ble_eq_true rfl) zk kk (fun M9 kk => ?_)
  refine V_iconst hC dX12_toKeep_16 ?_
  refine V_istore_n hC (lv' := [(1, _), (0, _)]) (Nat.le_of_ble_eq_true rfl) rfl dX12_toKeep_17 ?_
  exact V_sub [1, 0] rfl kk
def T_X12_toKeep_18 (G : GT) (X : va_W) (Q : Int → Mem → Prop) (E : String → Mem → Prop) (o : Nat) (x1 : Int) (M : Mem) : Prop := (inR (M o 0) → (inR x1 ∧ inR (M o 0) ∧ ((M o 0) ≤ x1 → OkV (gB G) (gl G) md_X12_spread 0 0 [.ref (ad (gB G) o), .ref (ad (gB G) (o + 14)), .int (I (0 : Int))] X M (fun M1 => L_X12_toKeep_64 G X o (0 : Int) (0 : Int) M1) NoX) ∧ (x1 < (M o 0) → ((0 ≤ x1 ∧ x1 < 256) ∧ (inR (M (o + 12) x1.toNat) → (inR (M (o + 12) x1.toNat) ∧ inR (1 : Int) ∧ ((M (o + 12) x1.toNat) ≠ (1 : Int) → L_X12_toKeep_18 G X o (x1 + 1) M) ∧ ((M (o + 12) x1.toNat) = (1 : Int) → OkV (gB G) (gl G) md_X12_mark 0 0 [.ref (ad (gB G) o), .ref (ad (gB G) (o + 14)), .int (I x1)] X M (fun M1 => L_X12_toKeep_18 G X o (x1 + 1) M1) NoX)))))))
set_option maxRecDepth 100000 in
set_option maxHeartbeats 4000000 in
theorem go_X12_toKeep_18 {G : GT} {X : va_W} {Q : Int → Mem → Prop} {E : String → Mem → Prop} {B : WB} {l : Launch} {k n : Nat} {o : Nat} {x1 : Int} {M : Mem} (h : Ct G md_X12_toKeep X (oI Q E) B l k n) (ho : isHp o) (kk : T_X12_toKeep_18 G X Q E o x1 M) : L_X12_toKeep_18 G X o x1 M := by
  obtain ⟨hC, hR, rfl, hgr, rfl⟩ := h
  unfold T_X12_toKeep_18 at kk
  unfold L_X12_toKeep_18
  refine V_iload_n hC 1 rfl dX12_toKeep_18 ?_
  refine V_aload_n hC 0 rfl dX12_toKeep_19 ?_
  refine V_gi hC fr_X12_80 (hp_i0 ho) dX12_toKeep_20 (fun z => ?_)
  replace kk := kk z
  obtain ⟨ha, hb, k1, k2⟩ := kk
  refine V_icmp_ge hC 51 rfl dX12_toKeep_23 ⟨ha, hb, fun z => ?_, fun z => ?_⟩
  · replace kk := k1 z; clear k1 k2
    refine V_aload_n hC 0 rfl dX12_toKeep_51 ?_
    refine V_aload_n hC 0 rfl dX12_toKeep_52 ?_
    refine V_gr hC fr_X12_62 (hp_r22 ho) dX12_toKeep_53 ?_
    refine V_iconst hC dX12_toKeep_56 ?_
    refine V_cVv hC (As := [_, _]) lv_X12_157 dX12_toKeep_57 (d0 := 3) (Nat.le_of_ble_eq_true rfl) (Rm_of hgr) (hp_v ho) rfl (Nat.le_of_ble_eq_true rfl) zk kk (fun M9 kk => ?_)
    refine V_iconst hC dX12_toKeep_60 ?_
    refine V_istore_n hC (lv' := [(1, _), (0, _)]) (Nat.le_of_ble_eq_true rfl) rfl dX12_toKeep_61 ?_
    refine V_iconst hC dX12_toKeep_62 ?_
    refine V_istore_n hC (lv' := [(2, _), (1, _), (0, _)]) (Nat.le_of_ble_eq_true rfl) rfl dX12_toKeep_63 ?_
    exact V_sub [2, 1, 0] rfl kk
  · replace kk := k2 z; clear k1 k2
    refine V_aload_n hC 0 rfl dX12_toKeep_26 ?_
    refine V_gr hC fr_X12_56 (hp_r20 ho) dX12_toKeep_27 ?_
    refine V_iload_n hC 1 rfl dX12_toKeep_30 ?_
    obtain ⟨hi, kk⟩ := kk
    refine V_il hC (hp_a12 ho) dX12_toKeep_31 hi (fun z => ?_)
    replace kk := kk z
    refine V_iconst hC dX12_toKeep_32 ?_
    obtain ⟨ha, hb, k1, k2⟩ := kk
    refine V_icmp_ne hC 45 rfl dX12_toKeep_33 ⟨ha, hb, fun z => ?_, fun z => ?_⟩
    · replace kk := k1 z; clear k1 k2
      refine V_iinc hC (lv' := [(1, _), (0, _)]) 1 rfl (Nat.le_of_ble_eq_true rfl) rfl dX12_toKeep_45 ?_
      refine V_goto hC 18 rfl dX12_toKeep_48 ?_
      exact V_sub [1, 0] rfl kk
    · replace kk := k2 z; clear k1 k2
      refine V_aload_n hC 0 rfl dX12_toKeep_36 ?_
      refine V_aload_n hC 0 rfl dX12_toKeep_37 ?_
      refine V_gr hC fr_X12_62 (hp_r22 ho) dX12_toKeep_38 ?_
      refine V_iload_n hC 1 rfl dX12_toKeep_41 ?_
      refine V_cVv hC (As := [_, _]) lv_X12_145 dX12_toKeep_42 (d0 := 3) (Nat.le_of_ble_eq_true rfl) (Rm_of hgr) (hp_v ho) rfl (Nat.le_of_ble_eq_true rfl) zk kk (fun M9 kk => ?_)
      refine V_iinc hC (lv' := [(1, _), (0, _)]) 1 rfl (Nat.le_of_ble_eq_true rfl) rfl dX12_toKeep_45 ?_
      refine V_goto hC 18 rfl dX12_toKeep_48 ?_
      exact V_sub [1, 0] rfl kk
def T_X12_toKeep_64 (G : GT) (X : va_W) (Q : Int → Mem → Prop) (E : String → Mem → Prop) (o : Nat) (x1 : Int) (x2 : Int) (M : Mem) : Prop := (inR (M o 0) → (inR x2 ∧ inR (M o 0) ∧ ((M o 0) ≤ x2 → (inR x1 ∧ Q x1 M)) ∧ (x2 < (M o 0) → ((0 ≤ x2 ∧ x2 < 256) ∧ (inR (M (o + 14) x2.toNat) → L_X12_toKeep_64 G X o (x1 + (M (o + 14) x2.toNat)) (x2 + 1) M)))))
set_option maxRecDepth 100000 in
set_option maxHeartbeats 4000000 in
theorem go_X12_toKeep_64 {G : GT} {X : va_W} {Q : Int → Mem → Prop} {E : String → Mem → Prop} {B : WB} {l : Launch} {k n : Nat} {o : Nat} {x1 : Int} {x2 : Int} {M : Mem} (h : Ct G md_X12_toKeep X (oI Q E) B l k n) (ho : isHp o) (kk : T_X12_toKeep_64 G X Q E o x1 x2 M) : L_X12_toKeep_64 G X o x1 x2 M := by
  obtain ⟨hC, hR, rfl, hgr, rfl⟩ := h
  unfold T_X12_toKeep_64 at kk
  unfold L_X12_toKeep_64
  refine V_iload_n hC 2 rfl dX12_toKeep_64 ?_
  refine V_aload_n hC 0 rfl dX12_toKeep_65 ?_
  refine V_gi hC fr_X12_80 (hp_i0 ho) dX12_toKeep_66 (fun z => ?_)
  replace kk := kk z
  obtain ⟨ha, hb, k1, k2⟩ := kk
  refine V_icmp_ge hC 87 rfl dX12_toKeep_69 ⟨ha, hb, fun z => ?_, fun z => ?_⟩
  · replace kk := k1 z; clear k1 k2
    refine V_iload_n hC 1 rfl dX12_toKeep_87 ?_
    obtain ⟨hr, kk⟩ := kk
    exact V_iret hC hR (ty := .int) rfl rfl zk dX12_toKeep_88 ⟨_, rfl, hr, kk⟩
  · replace kk := k2 z; clear k1 k2
    refine V_iload_n hC 1 rfl dX12_toKeep_72 ?_
    refine V_aload_n hC 0 rfl dX12_toKeep_73 ?_
    refine V_gr hC fr_X12_62 (hp_r22 ho) dX12_toKeep_74 ?_
    refine V_iload_n hC 2 rfl dX12_toKeep_77 ?_
    obtain ⟨hi, kk⟩ := kk
    refine V_il hC (hp_a14 ho) dX12_toKeep_78 hi (fun z => ?_)
    replace kk := kk z
    refine V_iadd hC dX12_toKeep_79 ?_
    refine V_istore_n hC (lv' := [(1, _), (0, _), (2, _)]) (Nat.le_of_ble_eq_true rfl) rfl dX12_toKeep_80 ?_
    refine V_iinc hC (lv' := [(2, _), (1, _), (0, _)]) 2 rfl (Nat.le_of_ble_eq_true rfl) rfl dX12_toKeep_81 ?_
    refine V_goto hC 64 rfl dX12_toKeep_84 ?_
    exact V_sub [2, 1, 0] rfl kk
theorem ok_X12_toKeep {B : WB} {l : Launch} {k n : Nat} {X : va_W} {M : Mem} {Q : Int → Mem → Prop} {E : String → Mem → Prop} {o : Nat} (hl : l.stackTraces = false) (body : ∀ G : GT, Ct G md_X12_toKeep X (oI Q E) B l k n → L_X12_toKeep_0 G X o M) : OkI B l md_X12_toKeep k n [.ref (ad B o)] X M Q E :=
  Ok_of mk_X12_toKeep hl (Nat.le_of_ble_eq_true rfl) (fun G h => by have hb := body G h; obtain ⟨-, -, rfl, -, -⟩ := h; exact hb)
