/-! ===== the walk of the reference's digest ===== -/
def L_X13_digest_0 (G : GT) (X : va_W) (kc nc : Nat) (M : Mem) : Prop := V G md_X13_digest kc nc X M 0 [(0, .ref (ad (gB G) 72))] []
def L_X13_digest_180 (G : GT) (X : va_W) (kc nc : Nat) (q : Nat) (f : Nat → Int32) (s0 : Int) (s1 : Int) (M : Mem) : Prop := V G md_X13_digest kc nc (Xn G X q 17 f) M 180 [(0, .ref (ad (gB G) 72))] [.int (I s0), .int (I s1), .ref q, .ref q]
def L_X13_digest_226 (G : GT) (X : va_W) (kc nc : Nat) (q : Nat) (f : Nat → Int32) (y2 : Int64) (x5 : Int) (x6 : Int) (M : Mem) : Prop := V G md_X13_digest kc nc (Xn G X q 17 f) M 226 [(0, .ref (ad (gB G) 72)), (2, .long y2), (4, .ref q), (5, .int (I x5)), (6, .int (I x6))] []
def L_X13_digest_259 (G : GT) (X : va_W) (kc nc : Nat) (y2 : Int64) (x4 : Int) (M : Mem) : Prop := V G md_X13_digest kc nc X M 259 [(0, .ref (ad (gB G) 72)), (2, .long y2), (4, .int (I x4))] []
def L_X13_digest_365 (G : GT) (X : va_W) (kc nc : Nat) (q : Nat) (f : Nat → Int32) (y2 : Int64) (x4 : Int) (x5 : Int) (s0 : Int) (s1 : Int) (M : Mem) : Prop := V G md_X13_digest kc nc (Xn G X q 11 f) M 365 [(0, .ref (ad (gB G) 72)), (2, .long y2), (4, .int (I x4)), (5, .int (I x5))] [.int (I s0), .int (I s1), .ref q, .ref q]
def L_X13_digest_384 (G : GT) (X : va_W) (kc nc : Nat) (q : Nat) (f : Nat → Int32) (y2 : Int64) (x4 : Int) (x5 : Int) (s0 : Int) (s1 : Int) (M : Mem) : Prop := V G md_X13_digest kc nc (Xn G X q 11 f) M 384 [(0, .ref (ad (gB G) 72)), (2, .long y2), (4, .int (I x4)), (5, .int (I x5))] [.int (I s0), .int (I s1), .ref q, .ref q]
def L_X13_digest_403 (G : GT) (X : va_W) (kc nc : Nat) (q : Nat) (f : Nat → Int32) (y2 : Int64) (x4 : Int) (x5 : Int) (s0 : Int) (s1 : Int) (M : Mem) : Prop := V G md_X13_digest kc nc (Xn G X q 11 f) M 403 [(0, .ref (ad (gB G) 72)), (2, .long y2), (4, .int (I x4)), (5, .int (I x5))] [.int (I s0), .int (I s1), .ref q, .ref q]
def L_X13_digest_421 (G : GT) (X : va_W) (kc nc : Nat) (q : Nat) (f : Nat → Int32) (y2 : Int64) (x4 : Int) (x5 : Int) (s0 : Int) (s1 : Int) (M : Mem) : Prop := V G md_X13_digest kc nc (Xn G X q 11 f) M 421 [(0, .ref (ad (gB G) 72)), (2, .long y2), (4, .int (I x4)), (5, .int (I x5))] [.int (I s0), .int (I s1), .ref q, .ref q]
def L_X13_digest_446 (G : GT) (X : va_W) (kc nc : Nat) (q : Nat) (f : Nat → Int32) (y2 : Int64) (x4 : Int) (x8 : Int) (x9 : Int) (M : Mem) : Prop := V G md_X13_digest kc nc (Xn G X q 11 f) M 446 [(0, .ref (ad (gB G) 72)), (2, .long y2), (4, .int (I x4)), (7, .ref q), (8, .int (I x8)), (9, .int (I x9))] []
def L_X13_digest_485 (G : GT) (X : va_W) (kc nc : Nat) (y2 : Int64) (x4 : Int) (M : Mem) : Prop := V G md_X13_digest kc nc X M 485 [(0, .ref (ad (gB G) 72)), (2, .long y2), (4, .int (I x4))] []
def L_X13_digest_546 (G : GT) (X : va_W) (kc nc : Nat) (y2 : Int64) (x4 : Int) (M : Mem) : Prop := V G md_X13_digest kc nc X M 546 [(0, .ref (ad (gB G) 72)), (2, .long y2), (4, .int (I x4))] []
def L_X13_digest_631 (G : GT) (X : va_W) (kc nc : Nat) (y2 : Int64) (x4 : Int) (M : Mem) : Prop := V G md_X13_digest kc nc X M 631 [(0, .ref (ad (gB G) 72)), (2, .long y2), (4, .int (I x4))] []
def T_X13_digest_0 (G : GT) (X : va_W) (Q : Int64 → Mem → Prop) (E : String → Mem → Prop) (k n kc nc : Nat) (M : Mem) : Prop := (inR (0 : Int) ∧ ∀ M1 : Mem, M1 = up M 72 0 (0 : Int) → ((kc + 1 ≤ k ∧ nc + 17 ≤ n) ∧ ∀ (q7 : Nat) (g7 : Nat → Int32), g7 = (fun _ => 0) → (inR (M1 80 6) → (∀ g7_1 : Nat → Int32, g7_1 = upd g7 (0 : Int).toNat (I (M1 80 6)) → (inR (M1 80 6) → ((0 ≤ ((M1 80 6) - (1 : Int)) ∧ ((M1 80 6) - (1 : Int)) < 8) ∧ (inR (M1 88 ((M1 80 6) - (1 : Int)).toNat) → (∀ g7_2 : Nat → Int32, g7_2 = upd g7_1 (1 : Int).toNat (I (M1 88 ((M1 80 6) - (1 : Int)).toNat)) → (inR (M1 72 1) → (∀ g7_3 : Nat → Int32, g7_3 = upd g7_2 (2 : Int).toNat (I (M1 72 1)) → (inR (M1 80 0) → (∀ g7_4 : Nat → Int32, g7_4 = upd g7_3 (3 : Int).toNat (I (M1 80 0)) → (inR (M1 80 0) → OkI (gB G) (gl G) md_X12_many 0 0 [.ref (ad (gB G) 80), .int (I (1 : Int))] (Xn G X q7 17 g7_4) M1 (fun r70 M2 => inR r70 → (∀ g7_5 : Nat → Int32, g7_5 = upd g7_4 (4 : Int).toNat (I ((M1 80 0) - r70)) → OkI (gB G) (gl G) md_X12_allWords 0 0 [.ref (ad (gB G) 80), .int (I (0 : Int))] (Xn G X q7 17 g7_5) M2 (fun r82 M3 => inR r82 → (∀ g7_6 : Nat → Int32, g7_6 = upd g7_5 (5 : Int).toNat (I r82) → OkI (gB G) (gl G) md_X12_allWords 0 0 [.ref (ad (gB G) 80), .int (I (1 : Int))] (Xn G X q7 17 g7_6) M3 (fun r94 M4 => inR r94 → (∀ g7_7 : Nat → Int32, g7_7 = upd g7_6 (6 : Int).toNat (I r94) → (inR (M4 80 2) → (∀ g7_8 : Nat → Int32, g7_8 = upd g7_7 (7 : Int).toNat (I (M4 80 2)) → (inR (M4 80 7) → (∀ g7_9 : Nat → Int32, g7_9 = upd g7_8 (8 : Int).toNat (I (M4 80 7)) → (inR (M4 80 8) → (∀ g7_10 : Nat → Int32, g7_10 = upd g7_9 (9 : Int).toNat (I (M4 80 8)) → OkI (gB G) (gl G) md_X12_many 0 0 [.ref (ad (gB G) 80), .int (I (4 : Int))] (Xn G X q7 17 g7_10) M4 (fun r139 M5 => inR r139 → (∀ g7_11 : Nat → Int32, g7_11 = upd g7_10 (10 : Int).toNat (I r139) → (inR (M5 80 3) → (∀ g7_12 : Nat → Int32, g7_12 = upd g7_11 (11 : Int).toNat (I (M5 80 3)) → (inR (M5 80 4) → (∀ g7_13 : Nat → Int32, g7_13 = upd g7_12 (12 : Int).toNat (I (M5 80 4)) → (inR (M5 72 10) → (inR (M5 72 10) ∧ ((M5 72 10) = 0 → L_X13_digest_180 G X (kc + 1) (nc + 17) q7 g7_13 (0 : Int) (13 : Int) M5) ∧ ((M5 72 10) ≠ 0 → L_X13_digest_180 G X (kc + 1) (nc + 17) q7 g7_13 (1 : Int) (13 : Int) M5))))))))) NoX)))))))) NoX)) NoX)) NoX)))))))))))))
set_option maxRecDepth 100000 in
set_option maxHeartbeats 4000000 in
theorem go_X13_digest_0 {G : GT} {X : va_W} {Q : Int64 → Mem → Prop} {E : String → Mem → Prop} {B : WB} {l : Launch} {k n kc nc : Nat} {M : Mem} (h : Ct G md_X13_digest X (oL Q E) B l k n) (hb : kc ≤ k ∧ nc ≤ n) (kk : T_X13_digest_0 G X Q E k n kc nc M) : L_X13_digest_0 G X kc nc M := by
  obtain ⟨hC, hR, rfl, hgr, rfl⟩ := h
  have hbd : kc ≤ (gR G).cells ∧ nc ≤ (gR G).slots := by rw [hgr]; exact hb
  clear hb
  unfold T_X13_digest_0 at kk
  unfold L_X13_digest_0
  refine V_aload_n hC 0 rfl dX13_digest_0 ?_
  refine V_iconst hC dX13_digest_1 ?_
  obtain ⟨hv, kk⟩ := kk
  refine V_pi hC fk_X13_53 qi_72_0 dX13_digest_2 hv ?_
  replace kk := kk _ rfl
  refine V_bipush hC (d := dX13_digest_5) rfl ?_
  obtain ⟨hnew, kk⟩ := kk
  have hb1 : kc + 1 ≤ (gR G).cells ∧ nc + 17 ≤ (gR G).slots := by rw [hgr]; exact hnew
  clear hbd
  have hbd := hb1
  refine V_newI hC (L := 17) dX13_digest_7 ac_I rfl (by decide) hbd (fun q7 => ?_)
  replace kk := kk q7 _ rfl
  refine V_dup hC rfl dX13_digest_9 ?_
  refine V_iconst hC dX13_digest_10 ?_
  refine V_aload_n hC 0 rfl dX13_digest_11 ?_
  refine V_gr hC fr_X13_37 qr_72_12 dX13_digest_12 ?_
  refine V_gi hC fr_X13_67 qi_80_6 dX13_digest_15 (fun z => ?_)
  replace kk := kk z
  refine V_xst hC dX13_digest_18 (by decide) ⟨by decide, by decide⟩ ?_
  replace kk := kk _ rfl
  refine V_dup hC rfl dX13_digest_19 ?_
  refine V_iconst hC dX13_digest_20 ?_
  refine V_aload_n hC 0 rfl dX13_digest_21 ?_
  refine V_gr hC fr_X13_37 qr_72_12 dX13_digest_22 ?_
  refine V_gr hC fr_X13_64 qr_80_16 dX13_digest_25 ?_
  refine V_aload_n hC 0 rfl dX13_digest_28 ?_
  refine V_gr hC fr_X13_37 qr_72_12 dX13_digest_29 ?_
  refine V_gi hC fr_X13_67 qi_80_6 dX13_digest_32 (fun z => ?_)
  replace kk := kk z
  refine V_iconst hC dX13_digest_35 ?_
  refine V_isub hC dX13_digest_36 ?_
  obtain ⟨hi, kk⟩ := kk
  refine V_il hC qa_88 dX13_digest_37 hi (fun z => ?_)
  replace kk := kk z
  refine V_xst hC dX13_digest_38 (by decide) ⟨by decide, by decide⟩ ?_
  replace kk := kk _ rfl
  refine V_dup hC rfl dX13_digest_39 ?_
  refine V_iconst hC dX13_digest_40 ?_
  refine V_aload_n hC 0 rfl dX13_digest_41 ?_
  refine V_gi hC fr_X13_57 qi_72_1 dX13_digest_42 (fun z => ?_)
  replace kk := kk z
  refine V_xst hC dX13_digest_45 (by decide) ⟨by decide, by decide⟩ ?_
  replace kk := kk _ rfl
  refine V_dup hC rfl dX13_digest_46 ?_
  refine V_iconst hC dX13_digest_47 ?_
  refine V_aload_n hC 0 rfl dX13_digest_48 ?_
  refine V_gr hC fr_X13_37 qr_72_12 dX13_digest_49 ?_
  refine V_gi hC fr_X13_249 qi_80_0 dX13_digest_52 (fun z => ?_)
  replace kk := kk z
  refine V_xst hC dX13_digest_55 (by decide) ⟨by decide, by decide⟩ ?_
  replace kk := kk _ rfl
  refine V_dup hC rfl dX13_digest_56 ?_
  refine V_iconst hC dX13_digest_57 ?_
  refine V_aload_n hC 0 rfl dX13_digest_58 ?_
  refine V_gr hC fr_X13_37 qr_72_12 dX13_digest_59 ?_
  refine V_gi hC fr_X13_249 qi_80_0 dX13_digest_62 (fun z => ?_)
  replace kk := kk z
  refine V_aload_n hC 0 rfl dX13_digest_65 ?_
  refine V_gr hC fr_X13_37 qr_72_12 dX13_digest_66 ?_
  refine V_iconst hC dX13_digest_69 ?_
  refine V_cVi hC (As := [_]) lv_X13_343 dX13_digest_70 (d0 := 8) (Nat.le_of_ble_eq_true rfl) (Rm_of hgr) rv_80 rfl (Nat.le_of_ble_eq_true rfl) hbd kk (fun r9 M9 z kk => ?_)
  replace kk := kk z
  refine V_isub hC dX13_digest_73 ?_
  refine V_xst hC dX13_digest_74 (by decide) ⟨by decide, by decide⟩ ?_
  replace kk := kk _ rfl
  refine V_dup hC rfl dX13_digest_75 ?_
  refine V_iconst hC dX13_digest_76 ?_
  refine V_aload_n hC 0 rfl dX13_digest_77 ?_
  refine V_gr hC fr_X13_37 qr_72_12 dX13_digest_78 ?_
  refine V_iconst hC dX13_digest_81 ?_
  refine V_cVi hC (As := [_]) lv_X13_123 dX13_digest_82 (d0 := 8) (Nat.le_of_ble_eq_true rfl) (Rm_of hgr) rv_80 rfl (Nat.le_of_ble_eq_true rfl) hbd kk (fun r9 M9 z kk => ?_)
  replace kk := kk z
  refine V_xst hC dX13_digest_85 (by decide) ⟨by decide, by decide⟩ ?_
  replace kk := kk _ rfl
  refine V_dup hC rfl dX13_digest_86 ?_
  refine V_bipush hC (d := dX13_digest_87) rfl ?_
  refine V_aload_n hC 0 rfl dX13_digest_89 ?_
  refine V_gr hC fr_X13_37 qr_72_12 dX13_digest_90 ?_
  refine V_iconst hC dX13_digest_93 ?_
  refine V_cVi hC (As := [_]) lv_X13_123 dX13_digest_94 (d0 := 8) (Nat.le_of_ble_eq_true rfl) (Rm_of hgr) rv_80 rfl (Nat.le_of_ble_eq_true rfl) hbd kk (fun r9 M9 z kk => ?_)
  replace kk := kk z
  refine V_xst hC dX13_digest_97 (by decide) ⟨by decide, by decide⟩ ?_
  replace kk := kk _ rfl
  refine V_dup hC rfl dX13_digest_98 ?_
  refine V_bipush hC (d := dX13_digest_99) rfl ?_
  refine V_aload_n hC 0 rfl dX13_digest_101 ?_
  refine V_gr hC fr_X13_37 qr_72_12 dX13_digest_102 ?_
  refine V_gi hC fr_X13_346 qi_80_2 dX13_digest_105 (fun z => ?_)
  replace kk := kk z
  refine V_xst hC dX13_digest_108 (by decide) ⟨by decide, by decide⟩ ?_
  replace kk := kk _ rfl
  refine V_dup hC rfl dX13_digest_109 ?_
  refine V_bipush hC (d := dX13_digest_110) rfl ?_
  refine V_aload_n hC 0 rfl dX13_digest_112 ?_
  refine V_gr hC fr_X13_37 qr_72_12 dX13_digest_113 ?_
  refine V_gi hC fr_X13_199 qi_80_7 dX13_digest_116 (fun z => ?_)
  replace kk := kk z
  refine V_xst hC dX13_digest_119 (by decide) ⟨by decide, by decide⟩ ?_
  replace kk := kk _ rfl
  refine V_dup hC rfl dX13_digest_120 ?_
  refine V_bipush hC (d := dX13_digest_121) rfl ?_
  refine V_aload_n hC 0 rfl dX13_digest_123 ?_
  refine V_gr hC fr_X13_37 qr_72_12 dX13_digest_124 ?_
  refine V_gi hC fr_X13_211 qi_80_8 dX13_digest_127 (fun z => ?_)
  replace kk := kk z
  refine V_xst hC dX13_digest_130 (by decide) ⟨by decide, by decide⟩ ?_
  replace kk := kk _ rfl
  refine V_dup hC rfl dX13_digest_131 ?_
  refine V_bipush hC (d := dX13_digest_132) rfl ?_
  refine V_aload_n hC 0 rfl dX13_digest_134 ?_
  refine V_gr hC fr_X13_37 qr_72_12 dX13_digest_135 ?_
  refine V_iconst hC dX13_digest_138 ?_
  refine V_cVi hC (As := [_]) lv_X13_343 dX13_digest_139 (d0 := 8) (Nat.le_of_ble_eq_true rfl) (Rm_of hgr) rv_80 rfl (Nat.le_of_ble_eq_true rfl) hbd kk (fun r9 M9 z kk => ?_)
  replace kk := kk z
  refine V_xst hC dX13_digest_142 (by decide) ⟨by decide, by decide⟩ ?_
  replace kk := kk _ rfl
  refine V_dup hC rfl dX13_digest_143 ?_
  refine V_bipush hC (d := dX13_digest_144) rfl ?_
  refine V_aload_n hC 0 rfl dX13_digest_146 ?_
  refine V_gr hC fr_X13_37 qr_72_12 dX13_digest_147 ?_
  refine V_gi hC fr_X13_349 qi_80_3 dX13_digest_150 (fun z => ?_)
  replace kk := kk z
  refine V_xst hC dX13_digest_153 (by decide) ⟨by decide, by decide⟩ ?_
  replace kk := kk _ rfl
  refine V_dup hC rfl dX13_digest_154 ?_
  refine V_bipush hC (d := dX13_digest_155) rfl ?_
  refine V_aload_n hC 0 rfl dX13_digest_157 ?_
  refine V_gr hC fr_X13_37 qr_72_12 dX13_digest_158 ?_
  refine V_gi hC fr_X13_352 qi_80_4 dX13_digest_161 (fun z => ?_)
  replace kk := kk z
  refine V_xst hC dX13_digest_164 (by decide) ⟨by decide, by decide⟩ ?_
  replace kk := kk _ rfl
  refine V_dup hC rfl dX13_digest_165 ?_
  refine V_bipush hC (d := dX13_digest_166) rfl ?_
  refine V_aload_n hC 0 rfl dX13_digest_168 ?_
  refine V_gi hC fr_X13_130 qi_72_10 dX13_digest_169 (fun z => ?_)
  replace kk := kk z
  obtain ⟨ha, k1, k2⟩ := kk
  refine V_if_eq hC 179 rfl dX13_digest_172 ⟨ha, fun z => ?_, fun z => ?_⟩
  · replace kk := k1 z; clear k1 k2
    refine V_iconst hC dX13_digest_179 ?_
    exact V_sub [0] rfl kk
  · replace kk := k2 z; clear k1 k2
    refine V_iconst hC dX13_digest_175 ?_
    refine V_goto hC 180 rfl dX13_digest_176 ?_
    exact V_sub [0] rfl kk
def T_X13_digest_180 (G : GT) (X : va_W) (Q : Int64 → Mem → Prop) (E : String → Mem → Prop) (k n kc nc : Nat) (q : Nat) (f : Nat → Int32) (s0 : Int) (s1 : Int) (M : Mem) : Prop := ((0 ≤ s1 ∧ s1 < 17) ∧ ∀ f_1 : Nat → Int32, f_1 = upd f s1.toNat (I s0) → (inR (M 80 5) → (∀ f_2 : Nat → Int32, f_2 = upd f_1 (14 : Int).toNat (I (M 80 5)) → OkI (gB G) (gl G) md_X13_wouldRemove 0 0 [.ref (ad (gB G) 72), .int (I (0 : Int))] (Xn G X q 17 f_2) M (fun r197 M1 => inR r197 → (∀ f_3 : Nat → Int32, f_3 = upd f_2 (15 : Int).toNat (I r197) → OkI (gB G) (gl G) md_X13_wouldRemove 0 0 [.ref (ad (gB G) 72), .int (I (1 : Int))] (Xn G X q 17 f_3) M1 (fun r206 M2 => inR r206 → (∀ f_4 : Nat → Int32, f_4 = upd f_3 (16 : Int).toNat (I r206) → L_X13_digest_226 G X kc nc q f_4 (58002 : Int64) (17 : Int) (0 : Int) M2)) NoX)) NoX)))
set_option maxRecDepth 100000 in
set_option maxHeartbeats 4000000 in
theorem go_X13_digest_180 {G : GT} {X : va_W} {Q : Int64 → Mem → Prop} {E : String → Mem → Prop} {B : WB} {l : Launch} {k n kc nc : Nat} {q : Nat} {f : Nat → Int32} {s0 : Int} {s1 : Int} {M : Mem} (h : Ct G md_X13_digest X (oL Q E) B l k n) (hb : kc ≤ k ∧ nc ≤ n) (kk : T_X13_digest_180 G X Q E k n kc nc q f s0 s1 M) : L_X13_digest_180 G X kc nc q f s0 s1 M := by
  obtain ⟨hC, hR, rfl, hgr, rfl⟩ := h
  have hbd : kc ≤ (gR G).cells ∧ nc ≤ (gR G).slots := by rw [hgr]; exact hb
  clear hb
  unfold T_X13_digest_180 at kk
  unfold L_X13_digest_180
  obtain ⟨hi, kk⟩ := kk
  refine V_xst hC dX13_digest_180 (by decide) hi ?_
  replace kk := kk _ rfl
  refine V_dup hC rfl dX13_digest_181 ?_
  refine V_bipush hC (d := dX13_digest_182) rfl ?_
  refine V_aload_n hC 0 rfl dX13_digest_184 ?_
  refine V_gr hC fr_X13_37 qr_72_12 dX13_digest_185 ?_
  refine V_gi hC fr_X13_290 qi_80_5 dX13_digest_188 (fun z => ?_)
  replace kk := kk z
  refine V_xst hC dX13_digest_191 (by decide) ⟨by decide, by decide⟩ ?_
  replace kk := kk _ rfl
  refine V_dup hC rfl dX13_digest_192 ?_
  refine V_bipush hC (d := dX13_digest_193) rfl ?_
  refine V_aload_n hC 0 rfl dX13_digest_195 ?_
  refine V_iconst hC dX13_digest_196 ?_
  refine V_cVi hC (As := [_]) lv_X13_384 dX13_digest_197 (d0 := 8) (Nat.le_of_ble_eq_true rfl) (Rm_of hgr) rv_72 rfl (Nat.le_of_ble_eq_true rfl) hbd kk (fun r9 M9 z kk => ?_)
  replace kk := kk z
  refine V_xst hC dX13_digest_200 (by decide) ⟨by decide, by decide⟩ ?_
  replace kk := kk _ rfl
  refine V_dup hC rfl dX13_digest_201 ?_
  refine V_bipush hC (d := dX13_digest_202) rfl ?_
  refine V_aload_n hC 0 rfl dX13_digest_204 ?_
  refine V_iconst hC dX13_digest_205 ?_
  refine V_cVi hC (As := [_]) lv_X13_384 dX13_digest_206 (d0 := 8) (Nat.le_of_ble_eq_true rfl) (Rm_of hgr) rv_72 rfl (Nat.le_of_ble_eq_true rfl) hbd kk (fun r9 M9 z kk => ?_)
  replace kk := kk z
  refine V_xst hC dX13_digest_209 (by decide) ⟨by decide, by decide⟩ ?_
  replace kk := kk _ rfl
  refine V_astore_n hC (lv' := [(1, _), (0, _)]) (Nat.le_of_ble_eq_true rfl) rfl dX13_digest_210 ?_
  refine V_ldc2 hC (v := 58002) (wa_12 134 rfl rfl) dX13_digest_211 ?_
  refine V_lstore_n hC (lv' := [(2, _), (1, _), (0, _)]) (Nat.le_of_ble_eq_true rfl) rfl dX13_digest_214 ?_
  refine V_aload_n hC 1 rfl dX13_digest_215 ?_
  refine V_astore hC (lv' := [(4, _), (2, _), (1, _), (0, _)]) (Nat.le_of_ble_eq_true rfl) rfl dX13_digest_216 ?_
  refine V_aload hC 0 rfl dX13_digest_218 ?_
  refine V_xlen hC dX13_digest_220 rfl ?_
  refine V_istore hC (lv' := [(5, _), (4, _), (2, _), (1, _), (0, _)]) (Nat.le_of_ble_eq_true rfl) rfl dX13_digest_221 ?_
  refine V_iconst hC dX13_digest_223 ?_
  refine V_istore hC (lv' := [(6, _), (5, _), (4, _), (2, _), (1, _), (0, _)]) (Nat.le_of_ble_eq_true rfl) rfl dX13_digest_224 ?_
  exact V_sub [5, 3, 2, 1, 0] rfl kk
def T_X13_digest_226 (G : GT) (X : va_W) (Q : Int64 → Mem → Prop) (E : String → Mem → Prop) (k n kc nc : Nat) (q : Nat) (f : Nat → Int32) (y2 : Int64) (x5 : Int) (x6 : Int) (M : Mem) : Prop := (inR x6 ∧ inR x5 ∧ (x5 ≤ x6 → L_X13_digest_259 G X kc nc y2 (0 : Int) M) ∧ (x6 < x5 → ((0 ≤ x6 ∧ x6 < 17) ∧ L_X13_digest_226 G X kc nc q f ((y2 * (31 : Int64)) + ((f x6.toNat).toInt64)) x5 (x6 + 1) M)))
set_option maxRecDepth 100000 in
set_option maxHeartbeats 4000000 in
theorem go_X13_digest_226 {G : GT} {X : va_W} {Q : Int64 → Mem → Prop} {E : String → Mem → Prop} {B : WB} {l : Launch} {k n kc nc : Nat} {q : Nat} {f : Nat → Int32} {y2 : Int64} {x5 : Int} {x6 : Int} {M : Mem} (h : Ct G md_X13_digest X (oL Q E) B l k n) (hb : kc ≤ k ∧ nc ≤ n) (kk : T_X13_digest_226 G X Q E k n kc nc q f y2 x5 x6 M) : L_X13_digest_226 G X kc nc q f y2 x5 x6 M := by
  obtain ⟨hC, hR, rfl, hgr, rfl⟩ := h
  have hbd : kc ≤ (gR G).cells ∧ nc ≤ (gR G).slots := by rw [hgr]; exact hb
  clear hb
  unfold T_X13_digest_226 at kk
  unfold L_X13_digest_226
  refine V_iload hC 4 rfl dX13_digest_226 ?_
  refine V_iload hC 3 rfl dX13_digest_228 ?_
  obtain ⟨ha, hb, k1, k2⟩ := kk
  refine V_icmp_ge hC 256 rfl dX13_digest_230 ⟨ha, hb, fun z => ?_, fun z => ?_⟩
  · replace kk := k1 z; clear k1 k2
    refine V_iconst hC dX13_digest_256 ?_
    refine V_istore hC (lv' := [(4, _), (0, _), (2, _), (5, _), (6, _)]) (Nat.le_of_ble_eq_true rfl) rfl dX13_digest_257 ?_
    exact V_dropX (V_sub [1, 2, 0] rfl kk)
  · replace kk := k2 z; clear k1 k2
    refine V_aload hC 2 rfl dX13_digest_233 ?_
    refine V_iload hC 4 rfl dX13_digest_235 ?_
    obtain ⟨hi, kk⟩ := kk
    refine V_xld hC dX13_digest_237 (by decide) hi ?_
    refine V_istore hC (lv' := [(7, _), (0, _), (2, _), (4, _), (5, _), (6, _)]) (Nat.le_of_ble_eq_true rfl) rfl dX13_digest_238 ?_
    refine V_lload_n hC 2 rfl dX13_digest_240 ?_
    refine V_ldc2 hC (v := 31) (wa_12 135 rfl rfl) dX13_digest_241 ?_
    refine V_lmul hC dX13_digest_244 ?_
    refine V_iload hC 0 rfl dX13_digest_245 ?_
    refine V_i2l hC dX13_digest_247 ?_
    refine V_ladd hC dX13_digest_248 ?_
    refine V_lstore_n hC (lv' := [(2, _), (7, _), (0, _), (4, _), (5, _), (6, _)]) (Nat.le_of_ble_eq_true rfl) rfl dX13_digest_249 ?_
    refine V_iinc hC (lv' := [(6, _), (2, _), (7, _), (0, _), (4, _), (5, _)]) 5 rfl (Nat.le_of_ble_eq_true rfl) rfl dX13_digest_250 ?_
    refine V_goto hC 226 rfl dX13_digest_253 ?_
    exact V_sub [3, 1, 4, 5, 0] rfl kk
def T_X13_digest_259 (G : GT) (X : va_W) (Q : Int64 → Mem → Prop) (E : String → Mem → Prop) (k n kc nc : Nat) (y2 : Int64) (x4 : Int) (M : Mem) : Prop := (inR (M 80 6) → ((0 ≤ ((M 80 6) - (1 : Int)) ∧ ((M 80 6) - (1 : Int)) < 8) ∧ (inR (M 88 ((M 80 6) - (1 : Int)).toNat) → (inR x4 ∧ inR (M 88 ((M 80 6) - (1 : Int)).toNat) ∧ ((M 88 ((M 80 6) - (1 : Int)).toNat) ≤ x4 → L_X13_digest_485 G X kc nc y2 (0 : Int) M) ∧ (x4 < (M 88 ((M 80 6) - (1 : Int)).toNat) → OkI (gB G) (gl G) md_X13_placeOf 0 0 [.ref (ad (gB G) 72), .int (I x4)] X M (fun r284 M1 => inR r284 → ((kc + 1 ≤ k ∧ nc + 11 ≤ n) ∧ ∀ (q291 : Nat) (g291 : Nat → Int32), g291 = (fun _ => 0) → OkI (gB G) (gl G) md_X13_inSlot 0 0 [.ref (ad (gB G) 72), .int (I x4)] (Xn G X q291 11 g291) M1 (fun r298 M2 => inR r298 → (∀ g291_1 : Nat → Int32, g291_1 = upd g291 (0 : Int).toNat (I r298) → OkI (gB G) (gl G) md_X13_formIn 0 0 [.ref (ad (gB G) 72), .int (I x4)] (Xn G X q291 11 g291_1) M2 (fun r307 M3 => inR r307 → (∀ g291_2 : Nat → Int32, g291_2 = upd g291_1 (1 : Int).toNat (I r307) → OkI (gB G) (gl G) md_X13_kindIn 0 0 [.ref (ad (gB G) 72), .int (I r284)] (Xn G X q291 11 g291_2) M3 (fun r316 M4 => inR r316 → (∀ g291_3 : Nat → Int32, g291_3 = upd g291_2 (2 : Int).toNat (I r316) → OkI (gB G) (gl G) md_X13_lengthIn 0 0 [.ref (ad (gB G) 72), .int (I r284)] (Xn G X q291 11 g291_3) M4 (fun r325 M5 => inR r325 → (∀ g291_4 : Nat → Int32, g291_4 = upd g291_3 (3 : Int).toNat (I r325) → OkI (gB G) (gl G) md_X13_wordsIn 0 0 [.ref (ad (gB G) 72), .int (I r284)] (Xn G X q291 11 g291_4) M5 (fun r334 M6 => inR r334 → (∀ g291_5 : Nat → Int32, g291_5 = upd g291_4 (4 : Int).toNat (I r334) → OkI (gB G) (gl G) md_X13_ageIn 0 0 [.ref (ad (gB G) 72), .int (I r284)] (Xn G X q291 11 g291_5) M6 (fun r343 M7 => inR r343 → (∀ g291_6 : Nat → Int32, g291_6 = upd g291_5 (5 : Int).toNat (I r343) → OkI (gB G) (gl G) md_X13_isSo 0 0 [.ref (ad (gB G) 72), .int (I x4), .int (I (1 : Int))] (Xn G X q291 11 g291_6) M7 (fun r354 M8 => inR r354 → (inR r354 ∧ (r354 = 0 → L_X13_digest_365 G X (kc + 1) (nc + 11) q291 g291_6 y2 x4 r284 (0 : Int) (6 : Int) M8) ∧ (r354 ≠ 0 → L_X13_digest_365 G X (kc + 1) (nc + 11) q291 g291_6 y2 x4 r284 (1 : Int) (6 : Int) M8))) NoX)) NoX)) NoX)) NoX)) NoX)) NoX)) NoX)) NoX)))))
set_option maxRecDepth 100000 in
set_option maxHeartbeats 4000000 in
theorem go_X13_digest_259 {G : GT} {X : va_W} {Q : Int64 → Mem → Prop} {E : String → Mem → Prop} {B : WB} {l : Launch} {k n kc nc : Nat} {y2 : Int64} {x4 : Int} {M : Mem} (h : Ct G md_X13_digest X (oL Q E) B l k n) (hb : kc ≤ k ∧ nc ≤ n) (kk : T_X13_digest_259 G X Q E k n kc nc y2 x4 M) : L_X13_digest_259 G X kc nc y2 x4 M := by
  obtain ⟨hC, hR, rfl, hgr, rfl⟩ := h
  have hbd : kc ≤ (gR G).cells ∧ nc ≤ (gR G).slots := by rw [hgr]; exact hb
  clear hb
  unfold T_X13_digest_259 at kk
  unfold L_X13_digest_259
  refine V_iload hC 2 rfl dX13_digest_259 ?_
  refine V_aload_n hC 0 rfl dX13_digest_261 ?_
  refine V_gr hC fr_X13_37 qr_72_12 dX13_digest_262 ?_
  refine V_gr hC fr_X13_64 qr_80_16 dX13_digest_265 ?_
  refine V_aload_n hC 0 rfl dX13_digest_268 ?_
  refine V_gr hC fr_X13_37 qr_72_12 dX13_digest_269 ?_
  refine V_gi hC fr_X13_67 qi_80_6 dX13_digest_272 (fun z => ?_)
  replace kk := kk z
  refine V_iconst hC dX13_digest_275 ?_
  refine V_isub hC dX13_digest_276 ?_
  obtain ⟨hi, kk⟩ := kk
  refine V_il hC qa_88 dX13_digest_277 hi (fun z => ?_)
  replace kk := kk z
  obtain ⟨ha, hb, k1, k2⟩ := kk
  refine V_icmp_ge hC 482 rfl dX13_digest_278 ⟨ha, hb, fun z => ?_, fun z => ?_⟩
  · replace kk := k1 z; clear k1 k2
    refine V_iconst hC dX13_digest_482 ?_
    refine V_istore hC (lv' := [(4, _), (0, _), (2, _)]) (Nat.le_of_ble_eq_true rfl) rfl dX13_digest_483 ?_
    exact V_sub [1, 2, 0] rfl kk
  · replace kk := k2 z; clear k1 k2
    refine V_aload_n hC 0 rfl dX13_digest_281 ?_
    refine V_iload hC 2 rfl dX13_digest_282 ?_
    refine V_cVi hC (As := [_]) lv_X13_87 dX13_digest_284 (d0 := 8) (Nat.le_of_ble_eq_true rfl) (Rm_of hgr) rv_72 rfl (Nat.le_of_ble_eq_true rfl) hbd kk (fun r9 M9 z kk => ?_)
    replace kk := kk z
    refine V_istore hC (lv' := [(5, _), (0, _), (2, _), (4, _)]) (Nat.le_of_ble_eq_true rfl) rfl dX13_digest_287 ?_
    refine V_bipush hC (d := dX13_digest_289) rfl ?_
    obtain ⟨hnew, kk⟩ := kk
    have hb1 : kc + 1 ≤ (gR G).cells ∧ nc + 11 ≤ (gR G).slots := by rw [hgr]; exact hnew
    clear hbd
    have hbd := hb1
    refine V_newI hC (L := 11) dX13_digest_291 ac_I rfl (by decide) hbd (fun q291 => ?_)
    replace kk := kk q291 _ rfl
    refine V_dup hC rfl dX13_digest_293 ?_
    refine V_iconst hC dX13_digest_294 ?_
    refine V_aload_n hC 1 rfl dX13_digest_295 ?_
    refine V_iload hC 3 rfl dX13_digest_296 ?_
    refine V_cVi hC (As := [_]) lv_X13_81 dX13_digest_298 (d0 := 8) (Nat.le_of_ble_eq_true rfl) (Rm_of hgr) rv_72 rfl (Nat.le_of_ble_eq_true rfl) hbd kk (fun r9 M9 z kk => ?_)
    replace kk := kk z
    refine V_xst hC dX13_digest_301 (by decide) ⟨by decide, by decide⟩ ?_
    replace kk := kk _ rfl
    refine V_dup hC rfl dX13_digest_302 ?_
    refine V_iconst hC dX13_digest_303 ?_
    refine V_aload_n hC 1 rfl dX13_digest_304 ?_
    refine V_iload hC 3 rfl dX13_digest_305 ?_
    refine V_cVi hC (As := [_]) lv_X13_93 dX13_digest_307 (d0 := 8) (Nat.le_of_ble_eq_true rfl) (Rm_of hgr) rv_72 rfl (Nat.le_of_ble_eq_true rfl) hbd kk (fun r9 M9 z kk => ?_)
    replace kk := kk z
    refine V_xst hC dX13_digest_310 (by decide) ⟨by decide, by decide⟩ ?_
    replace kk := kk _ rfl
    refine V_dup hC rfl dX13_digest_311 ?_
    refine V_iconst hC dX13_digest_312 ?_
    refine V_aload_n hC 1 rfl dX13_digest_313 ?_
    refine V_iload hC 0 rfl dX13_digest_314 ?_
    refine V_cVi hC (As := [_]) lv_X13_325 dX13_digest_316 (d0 := 8) (Nat.le_of_ble_eq_true rfl) (Rm_of hgr) rv_72 rfl (Nat.le_of_ble_eq_true rfl) hbd kk (fun r9 M9 z kk => ?_)
    replace kk := kk z
    refine V_xst hC dX13_digest_319 (by decide) ⟨by decide, by decide⟩ ?_
    replace kk := kk _ rfl
    refine V_dup hC rfl dX13_digest_320 ?_
    refine V_iconst hC dX13_digest_321 ?_
    refine V_aload_n hC 1 rfl dX13_digest_322 ?_
    refine V_iload hC 0 rfl dX13_digest_323 ?_
    refine V_cVi hC (As := [_]) lv_X13_328 dX13_digest_325 (d0 := 8) (Nat.le_of_ble_eq_true rfl) (Rm_of hgr) rv_72 rfl (Nat.le_of_ble_eq_true rfl) hbd kk (fun r9 M9 z kk => ?_)
    replace kk := kk z
    refine V_xst hC dX13_digest_328 (by decide) ⟨by decide, by decide⟩ ?_
    replace kk := kk _ rfl
    refine V_dup hC rfl dX13_digest_329 ?_
    refine V_iconst hC dX13_digest_330 ?_
    refine V_aload_n hC 1 rfl dX13_digest_331 ?_
    refine V_iload hC 0 rfl dX13_digest_332 ?_
    refine V_cVi hC (As := [_]) lv_X13_331 dX13_digest_334 (d0 := 8) (Nat.le_of_ble_eq_true rfl) (Rm_of hgr) rv_72 rfl (Nat.le_of_ble_eq_true rfl) hbd kk (fun r9 M9 z kk => ?_)
    replace kk := kk z
    refine V_xst hC dX13_digest_337 (by decide) ⟨by decide, by decide⟩ ?_
    replace kk := kk _ rfl
    refine V_dup hC rfl dX13_digest_338 ?_
    refine V_iconst hC dX13_digest_339 ?_
    refine V_aload_n hC 1 rfl dX13_digest_340 ?_
    refine V_iload hC 0 rfl dX13_digest_341 ?_
    refine V_cVi hC (As := [_]) lv_X13_334 dX13_digest_343 (d0 := 8) (Nat.le_of_ble_eq_true rfl) (Rm_of hgr) rv_72 rfl (Nat.le_of_ble_eq_true rfl) hbd kk (fun r9 M9 z kk => ?_)
    replace kk := kk z
    refine V_xst hC dX13_digest_346 (by decide) ⟨by decide, by decide⟩ ?_
    replace kk := kk _ rfl
    refine V_dup hC rfl dX13_digest_347 ?_
    refine V_bipush hC (d := dX13_digest_348) rfl ?_
    refine V_aload_n hC 1 rfl dX13_digest_350 ?_
    refine V_iload hC 3 rfl dX13_digest_351 ?_
    refine V_iconst hC dX13_digest_353 ?_
    refine V_cVi hC (As := [_, _]) lv_X13_184 dX13_digest_354 (d0 := 8) (Nat.le_of_ble_eq_true rfl) (Rm_of hgr) rv_72 rfl (Nat.le_of_ble_eq_true rfl) hbd kk (fun r9 M9 z kk => ?_)
    replace kk := kk z
    obtain ⟨ha, k1, k2⟩ := kk
    refine V_if_eq hC 364 rfl dX13_digest_357 ⟨ha, fun z => ?_, fun z => ?_⟩
    · replace kk := k1 z; clear k1 k2
      refine V_iconst hC dX13_digest_364 ?_
      exact V_sub [1, 2, 3, 0] rfl kk
    · replace kk := k2 z; clear k1 k2
      refine V_iconst hC dX13_digest_360 ?_
      refine V_goto hC 365 rfl dX13_digest_361 ?_
      exact V_sub [1, 2, 3, 0] rfl kk
def T_X13_digest_365 (G : GT) (X : va_W) (Q : Int64 → Mem → Prop) (E : String → Mem → Prop) (k n kc nc : Nat) (q : Nat) (f : Nat → Int32) (y2 : Int64) (x4 : Int) (x5 : Int) (s0 : Int) (s1 : Int) (M : Mem) : Prop := ((0 ≤ s1 ∧ s1 < 11) ∧ ∀ f_1 : Nat → Int32, f_1 = upd f s1.toNat (I s0) → OkI (gB G) (gl G) md_X13_isSo 0 0 [.ref (ad (gB G) 72), .int (I x4), .int (I (2 : Int))] (Xn G X q 11 f_1) M (fun r373 M1 => inR r373 → (inR r373 ∧ (r373 = 0 → L_X13_digest_384 G X kc nc q f_1 y2 x4 x5 (0 : Int) (7 : Int) M1) ∧ (r373 ≠ 0 → L_X13_digest_384 G X kc nc q f_1 y2 x4 x5 (1 : Int) (7 : Int) M1))) NoX)
set_option maxRecDepth 100000 in
set_option maxHeartbeats 4000000 in
theorem go_X13_digest_365 {G : GT} {X : va_W} {Q : Int64 → Mem → Prop} {E : String → Mem → Prop} {B : WB} {l : Launch} {k n kc nc : Nat} {q : Nat} {f : Nat → Int32} {y2 : Int64} {x4 : Int} {x5 : Int} {s0 : Int} {s1 : Int} {M : Mem} (h : Ct G md_X13_digest X (oL Q E) B l k n) (hb : kc ≤ k ∧ nc ≤ n) (kk : T_X13_digest_365 G X Q E k n kc nc q f y2 x4 x5 s0 s1 M) : L_X13_digest_365 G X kc nc q f y2 x4 x5 s0 s1 M := by
  obtain ⟨hC, hR, rfl, hgr, rfl⟩ := h
  have hbd : kc ≤ (gR G).cells ∧ nc ≤ (gR G).slots := by rw [hgr]; exact hb
  clear hb
  unfold T_X13_digest_365 at kk
  unfold L_X13_digest_365
  obtain ⟨hi, kk⟩ := kk
  refine V_xst hC dX13_digest_365 (by decide) hi ?_
  replace kk := kk _ rfl
  refine V_dup hC rfl dX13_digest_366 ?_
  refine V_bipush hC (d := dX13_digest_367) rfl ?_
  refine V_aload_n hC 0 rfl dX13_digest_369 ?_
  refine V_iload hC 2 rfl dX13_digest_370 ?_
  refine V_iconst hC dX13_digest_372 ?_
  refine V_cVi hC (As := [_, _]) lv_X13_184 dX13_digest_373 (d0 := 8) (Nat.le_of_ble_eq_true rfl) (Rm_of hgr) rv_72 rfl (Nat.le_of_ble_eq_true rfl) hbd kk (fun r9 M9 z kk => ?_)
  replace kk := kk z
  obtain ⟨ha, k1, k2⟩ := kk
  refine V_if_eq hC 383 rfl dX13_digest_376 ⟨ha, fun z => ?_, fun z => ?_⟩
  · replace kk := k1 z; clear k1 k2
    refine V_iconst hC dX13_digest_383 ?_
    exact V_sub [0, 1, 2, 3] rfl kk
  · replace kk := k2 z; clear k1 k2
    refine V_iconst hC dX13_digest_379 ?_
    refine V_goto hC 384 rfl dX13_digest_380 ?_
    exact V_sub [0, 1, 2, 3] rfl kk
def T_X13_digest_384 (G : GT) (X : va_W) (Q : Int64 → Mem → Prop) (E : String → Mem → Prop) (k n kc nc : Nat) (q : Nat) (f : Nat → Int32) (y2 : Int64) (x4 : Int) (x5 : Int) (s0 : Int) (s1 : Int) (M : Mem) : Prop := ((0 ≤ s1 ∧ s1 < 11) ∧ ∀ f_1 : Nat → Int32, f_1 = upd f s1.toNat (I s0) → OkI (gB G) (gl G) md_X13_isSo 0 0 [.ref (ad (gB G) 72), .int (I x4), .int (I (4 : Int))] (Xn G X q 11 f_1) M (fun r392 M1 => inR r392 → (inR r392 ∧ (r392 = 0 → L_X13_digest_403 G X kc nc q f_1 y2 x4 x5 (0 : Int) (8 : Int) M1) ∧ (r392 ≠ 0 → L_X13_digest_403 G X kc nc q f_1 y2 x4 x5 (1 : Int) (8 : Int) M1))) NoX)
set_option maxRecDepth 100000 in
set_option maxHeartbeats 4000000 in
theorem go_X13_digest_384 {G : GT} {X : va_W} {Q : Int64 → Mem → Prop} {E : String → Mem → Prop} {B : WB} {l : Launch} {k n kc nc : Nat} {q : Nat} {f : Nat → Int32} {y2 : Int64} {x4 : Int} {x5 : Int} {s0 : Int} {s1 : Int} {M : Mem} (h : Ct G md_X13_digest X (oL Q E) B l k n) (hb : kc ≤ k ∧ nc ≤ n) (kk : T_X13_digest_384 G X Q E k n kc nc q f y2 x4 x5 s0 s1 M) : L_X13_digest_384 G X kc nc q f y2 x4 x5 s0 s1 M := by
  obtain ⟨hC, hR, rfl, hgr, rfl⟩ := h
  have hbd : kc ≤ (gR G).cells ∧ nc ≤ (gR G).slots := by rw [hgr]; exact hb
  clear hb
  unfold T_X13_digest_384 at kk
  unfold L_X13_digest_384
  obtain ⟨hi, kk⟩ := kk
  refine V_xst hC dX13_digest_384 (by decide) hi ?_
  replace kk := kk _ rfl
  refine V_dup hC rfl dX13_digest_385 ?_
  refine V_bipush hC (d := dX13_digest_386) rfl ?_
  refine V_aload_n hC 0 rfl dX13_digest_388 ?_
  refine V_iload hC 2 rfl dX13_digest_389 ?_
  refine V_iconst hC dX13_digest_391 ?_
  refine V_cVi hC (As := [_, _]) lv_X13_184 dX13_digest_392 (d0 := 8) (Nat.le_of_ble_eq_true rfl) (Rm_of hgr) rv_72 rfl (Nat.le_of_ble_eq_true rfl) hbd kk (fun r9 M9 z kk => ?_)
  replace kk := kk z
  obtain ⟨ha, k1, k2⟩ := kk
  refine V_if_eq hC 402 rfl dX13_digest_395 ⟨ha, fun z => ?_, fun z => ?_⟩
  · replace kk := k1 z; clear k1 k2
    refine V_iconst hC dX13_digest_402 ?_
    exact V_sub [0, 1, 2, 3] rfl kk
  · replace kk := k2 z; clear k1 k2
    refine V_iconst hC dX13_digest_398 ?_
    refine V_goto hC 403 rfl dX13_digest_399 ?_
    exact V_sub [0, 1, 2, 3] rfl kk
def T_X13_digest_403 (G : GT) (X : va_W) (Q : Int64 → Mem → Prop) (E : String → Mem → Prop) (k n kc nc : Nat) (q : Nat) (f : Nat → Int32) (y2 : Int64) (x4 : Int) (x5 : Int) (s0 : Int) (s1 : Int) (M : Mem) : Prop := ((0 ≤ s1 ∧ s1 < 11) ∧ ∀ f_1 : Nat → Int32, f_1 = upd f s1.toNat (I s0) → OkI (gB G) (gl G) md_X13_isClearedIn 0 0 [.ref (ad (gB G) 72), .int (I x5)] (Xn G X q 11 f_1) M (fun r410 M1 => inR r410 → (inR r410 ∧ (r410 = 0 → L_X13_digest_421 G X kc nc q f_1 y2 x4 x5 (0 : Int) (9 : Int) M1) ∧ (r410 ≠ 0 → L_X13_digest_421 G X kc nc q f_1 y2 x4 x5 (1 : Int) (9 : Int) M1))) NoX)
set_option maxRecDepth 100000 in
set_option maxHeartbeats 4000000 in
theorem go_X13_digest_403 {G : GT} {X : va_W} {Q : Int64 → Mem → Prop} {E : String → Mem → Prop} {B : WB} {l : Launch} {k n kc nc : Nat} {q : Nat} {f : Nat → Int32} {y2 : Int64} {x4 : Int} {x5 : Int} {s0 : Int} {s1 : Int} {M : Mem} (h : Ct G md_X13_digest X (oL Q E) B l k n) (hb : kc ≤ k ∧ nc ≤ n) (kk : T_X13_digest_403 G X Q E k n kc nc q f y2 x4 x5 s0 s1 M) : L_X13_digest_403 G X kc nc q f y2 x4 x5 s0 s1 M := by
  obtain ⟨hC, hR, rfl, hgr, rfl⟩ := h
  have hbd : kc ≤ (gR G).cells ∧ nc ≤ (gR G).slots := by rw [hgr]; exact hb
  clear hb
  unfold T_X13_digest_403 at kk
  unfold L_X13_digest_403
  obtain ⟨hi, kk⟩ := kk
  refine V_xst hC dX13_digest_403 (by decide) hi ?_
  replace kk := kk _ rfl
  refine V_dup hC rfl dX13_digest_404 ?_
  refine V_bipush hC (d := dX13_digest_405) rfl ?_
  refine V_aload_n hC 0 rfl dX13_digest_407 ?_
  refine V_iload hC 3 rfl dX13_digest_408 ?_
  refine V_cVi hC (As := [_]) lv_X13_337 dX13_digest_410 (d0 := 8) (Nat.le_of_ble_eq_true rfl) (Rm_of hgr) rv_72 rfl (Nat.le_of_ble_eq_true rfl) hbd kk (fun r9 M9 z kk => ?_)
  replace kk := kk z
  obtain ⟨ha, k1, k2⟩ := kk
  refine V_if_eq hC 420 rfl dX13_digest_413 ⟨ha, fun z => ?_, fun z => ?_⟩
  · replace kk := k1 z; clear k1 k2
    refine V_iconst hC dX13_digest_420 ?_
    exact V_sub [0, 1, 2, 3] rfl kk
  · replace kk := k2 z; clear k1 k2
    refine V_iconst hC dX13_digest_416 ?_
    refine V_goto hC 421 rfl dX13_digest_417 ?_
    exact V_sub [0, 1, 2, 3] rfl kk
def T_X13_digest_421 (G : GT) (X : va_W) (Q : Int64 → Mem → Prop) (E : String → Mem → Prop) (k n kc nc : Nat) (q : Nat) (f : Nat → Int32) (y2 : Int64) (x4 : Int) (x5 : Int) (s0 : Int) (s1 : Int) (M : Mem) : Prop := ((0 ≤ s1 ∧ s1 < 11) ∧ ∀ f_1 : Nat → Int32, f_1 = upd f s1.toNat (I s0) → OkI (gB G) (gl G) md_X13_entriesIn 0 0 [.ref (ad (gB G) 72), .int (I x5)] (Xn G X q 11 f_1) M (fun r428 M1 => inR r428 → (∀ f_2 : Nat → Int32, f_2 = upd f_1 (10 : Int).toNat (I r428) → L_X13_digest_446 G X kc nc q f_2 y2 x4 (11 : Int) (0 : Int) M1)) NoX)
set_option maxRecDepth 100000 in
set_option maxHeartbeats 4000000 in
theorem go_X13_digest_421 {G : GT} {X : va_W} {Q : Int64 → Mem → Prop} {E : String → Mem → Prop} {B : WB} {l : Launch} {k n kc nc : Nat} {q : Nat} {f : Nat → Int32} {y2 : Int64} {x4 : Int} {x5 : Int} {s0 : Int} {s1 : Int} {M : Mem} (h : Ct G md_X13_digest X (oL Q E) B l k n) (hb : kc ≤ k ∧ nc ≤ n) (kk : T_X13_digest_421 G X Q E k n kc nc q f y2 x4 x5 s0 s1 M) : L_X13_digest_421 G X kc nc q f y2 x4 x5 s0 s1 M := by
  obtain ⟨hC, hR, rfl, hgr, rfl⟩ := h
  have hbd : kc ≤ (gR G).cells ∧ nc ≤ (gR G).slots := by rw [hgr]; exact hb
  clear hb
  unfold T_X13_digest_421 at kk
  unfold L_X13_digest_421
  obtain ⟨hi, kk⟩ := kk
  refine V_xst hC dX13_digest_421 (by decide) hi ?_
  replace kk := kk _ rfl
  refine V_dup hC rfl dX13_digest_422 ?_
  refine V_bipush hC (d := dX13_digest_423) rfl ?_
  refine V_aload_n hC 0 rfl dX13_digest_425 ?_
  refine V_iload hC 3 rfl dX13_digest_426 ?_
  refine V_cVi hC (As := [_]) lv_X13_340 dX13_digest_428 (d0 := 8) (Nat.le_of_ble_eq_true rfl) (Rm_of hgr) rv_72 rfl (Nat.le_of_ble_eq_true rfl) hbd kk (fun r9 M9 z kk => ?_)
  replace kk := kk z
  refine V_xst hC dX13_digest_431 (by decide) ⟨by decide, by decide⟩ ?_
  replace kk := kk _ rfl
  refine V_astore hC (lv' := [(6, _), (0, _), (2, _), (4, _), (5, _)]) (Nat.le_of_ble_eq_true rfl) rfl dX13_digest_432 ?_
  refine V_aload hC 0 rfl dX13_digest_434 ?_
  refine V_astore hC (lv' := [(7, _), (6, _), (0, _), (2, _), (4, _), (5, _)]) (Nat.le_of_ble_eq_true rfl) rfl dX13_digest_436 ?_
  refine V_aload hC 0 rfl dX13_digest_438 ?_
  refine V_xlen hC dX13_digest_440 rfl ?_
  refine V_istore hC (lv' := [(8, _), (7, _), (6, _), (0, _), (2, _), (4, _), (5, _)]) (Nat.le_of_ble_eq_true rfl) rfl dX13_digest_441 ?_
  refine V_iconst hC dX13_digest_443 ?_
  refine V_istore hC (lv' := [(9, _), (8, _), (7, _), (6, _), (0, _), (2, _), (4, _), (5, _)]) (Nat.le_of_ble_eq_true rfl) rfl dX13_digest_444 ?_
  exact V_sub [4, 5, 6, 2, 1, 0] rfl kk
def T_X13_digest_446 (G : GT) (X : va_W) (Q : Int64 → Mem → Prop) (E : String → Mem → Prop) (k n kc nc : Nat) (q : Nat) (f : Nat → Int32) (y2 : Int64) (x4 : Int) (x8 : Int) (x9 : Int) (M : Mem) : Prop := (inR x9 ∧ inR x8 ∧ (x8 ≤ x9 → L_X13_digest_259 G X kc nc y2 (x4 + 1) M) ∧ (x9 < x8 → ((0 ≤ x9 ∧ x9 < 11) ∧ L_X13_digest_446 G X kc nc q f ((y2 * (31 : Int64)) + ((f x9.toNat).toInt64)) x4 x8 (x9 + 1) M)))
set_option maxRecDepth 100000 in
set_option maxHeartbeats 4000000 in
theorem go_X13_digest_446 {G : GT} {X : va_W} {Q : Int64 → Mem → Prop} {E : String → Mem → Prop} {B : WB} {l : Launch} {k n kc nc : Nat} {q : Nat} {f : Nat → Int32} {y2 : Int64} {x4 : Int} {x8 : Int} {x9 : Int} {M : Mem} (h : Ct G md_X13_digest X (oL Q E) B l k n) (hb : kc ≤ k ∧ nc ≤ n) (kk : T_X13_digest_446 G X Q E k n kc nc q f y2 x4 x8 x9 M) : L_X13_digest_446 G X kc nc q f y2 x4 x8 x9 M := by
  obtain ⟨hC, hR, rfl, hgr, rfl⟩ := h
  have hbd : kc ≤ (gR G).cells ∧ nc ≤ (gR G).slots := by rw [hgr]; exact hb
  clear hb
  unfold T_X13_digest_446 at kk
  unfold L_X13_digest_446
  refine V_iload hC 5 rfl dX13_digest_446 ?_
  refine V_iload hC 4 rfl dX13_digest_448 ?_
  obtain ⟨ha, hb, k1, k2⟩ := kk
  refine V_icmp_ge hC 476 rfl dX13_digest_450 ⟨ha, hb, fun z => ?_, fun z => ?_⟩
  · replace kk := k1 z; clear k1 k2
    refine V_iinc hC (lv' := [(4, _), (0, _), (2, _), (7, _), (8, _), (9, _)]) 2 rfl (Nat.le_of_ble_eq_true rfl) rfl dX13_digest_476 ?_
    refine V_goto hC 259 rfl dX13_digest_479 ?_
    exact V_dropX (V_sub [1, 2, 0] rfl kk)
  · replace kk := k2 z; clear k1 k2
    refine V_aload hC 3 rfl dX13_digest_453 ?_
    refine V_iload hC 5 rfl dX13_digest_455 ?_
    obtain ⟨hi, kk⟩ := kk
    refine V_xld hC dX13_digest_457 (by decide) hi ?_
    refine V_istore hC (lv' := [(10, _), (0, _), (2, _), (4, _), (7, _), (8, _), (9, _)]) (Nat.le_of_ble_eq_true rfl) rfl dX13_digest_458 ?_
    refine V_lload_n hC 2 rfl dX13_digest_460 ?_
    refine V_ldc2 hC (v := 31) (wa_12 135 rfl rfl) dX13_digest_461 ?_
    refine V_lmul hC dX13_digest_464 ?_
    refine V_iload hC 0 rfl dX13_digest_465 ?_
    refine V_i2l hC dX13_digest_467 ?_
    refine V_ladd hC dX13_digest_468 ?_
    refine V_lstore_n hC (lv' := [(2, _), (10, _), (0, _), (4, _), (7, _), (8, _), (9, _)]) (Nat.le_of_ble_eq_true rfl) rfl dX13_digest_469 ?_
    refine V_iinc hC (lv' := [(9, _), (2, _), (10, _), (0, _), (4, _), (7, _), (8, _)]) 6 rfl (Nat.le_of_ble_eq_true rfl) rfl dX13_digest_470 ?_
    refine V_goto hC 446 rfl dX13_digest_473 ?_
    exact V_sub [3, 1, 4, 5, 6, 0] rfl kk
def T_X13_digest_485 (G : GT) (X : va_W) (Q : Int64 → Mem → Prop) (E : String → Mem → Prop) (k n kc nc : Nat) (y2 : Int64) (x4 : Int) (M : Mem) : Prop := (inR x4 ∧ inR (8 : Int) ∧ ((8 : Int) ≤ x4 → OkR (gB G) (gl G) md_X12_reach 0 0 [.ref (ad (gB G) 80), .ref (ad (gB G) 94), .int (I (0 : Int))] X M (fun r531 M1 => r531 = 94 ∧ OkR (gB G) (gl G) md_X12_far 0 0 [.ref (ad (gB G) 80)] X M1 (fun r539 M2 => r539 = 96 ∧ L_X13_digest_546 G X kc nc y2 (0 : Int) M2) NoX) NoX) ∧ (x4 < (8 : Int) → ((0 ≤ ((64 : Int) + x4) ∧ ((64 : Int) + x4) < 72) ∧ (inR (M 89 ((64 : Int) + x4).toNat) → L_X13_digest_485 G X kc nc ((y2 * (31 : Int64)) + ((I (M 89 ((64 : Int) + x4).toNat)).toInt64)) (x4 + 1) M))))
set_option maxRecDepth 100000 in
set_option maxHeartbeats 4000000 in
theorem go_X13_digest_485 {G : GT} {X : va_W} {Q : Int64 → Mem → Prop} {E : String → Mem → Prop} {B : WB} {l : Launch} {k n kc nc : Nat} {y2 : Int64} {x4 : Int} {M : Mem} (h : Ct G md_X13_digest X (oL Q E) B l k n) (hb : kc ≤ k ∧ nc ≤ n) (kk : T_X13_digest_485 G X Q E k n kc nc y2 x4 M) : L_X13_digest_485 G X kc nc y2 x4 M := by
  obtain ⟨hC, hR, rfl, hgr, rfl⟩ := h
  have hbd : kc ≤ (gR G).cells ∧ nc ≤ (gR G).slots := by rw [hgr]; exact hb
  clear hb
  unfold T_X13_digest_485 at kk
  unfold L_X13_digest_485
  refine V_iload hC 2 rfl dX13_digest_485 ?_
  refine V_bipush hC (d := dX13_digest_487) rfl ?_
  obtain ⟨ha, hb, k1, k2⟩ := kk
  refine V_icmp_ge hC 519 rfl dX13_digest_489 ⟨ha, hb, fun z => ?_, fun z => ?_⟩
  · replace kk := k1 z; clear k1 k2
    refine V_aload_n hC 0 rfl dX13_digest_519 ?_
    refine V_gr hC fr_X13_37 qr_72_12 dX13_digest_520 ?_
    refine V_aload_n hC 0 rfl dX13_digest_523 ?_
    refine V_gr hC fr_X13_37 qr_72_12 dX13_digest_524 ?_
    refine V_gr hC fr_X13_391 qr_80_22 dX13_digest_527 ?_
    refine V_iconst hC dX13_digest_530 ?_
    refine V_cVr hC (As := [_, _]) lv_X13_355 dX13_digest_531 (d0 := 8) (Nat.le_of_ble_eq_true rfl) (Rm_of hgr) rv_80 rfl (Nat.le_of_ble_eq_true rfl) hbd kk (fun r9 M9 kk => ?_)
    obtain ⟨rfl, kk⟩ := kk
    refine V_pop hC rfl dX13_digest_534 ?_
    refine V_aload_n hC 0 rfl dX13_digest_535 ?_
    refine V_gr hC fr_X13_37 qr_72_12 dX13_digest_536 ?_
    refine V_cVr hC (As := []) lv_X13_359 dX13_digest_539 (d0 := 8) (Nat.le_of_ble_eq_true rfl) (Rm_of hgr) rv_80 rfl (Nat.le_of_ble_eq_true rfl) hbd kk (fun r9 M9 kk => ?_)
    obtain ⟨rfl, kk⟩ := kk
    refine V_pop hC rfl dX13_digest_542 ?_
    refine V_iconst hC dX13_digest_543 ?_
    refine V_istore hC (lv' := [(4, _), (0, _), (2, _)]) (Nat.le_of_ble_eq_true rfl) rfl dX13_digest_544 ?_
    exact V_sub [1, 2, 0] rfl kk
  · replace kk := k2 z; clear k1 k2
    refine V_lload_n hC 1 rfl dX13_digest_492 ?_
    refine V_ldc2 hC (v := 31) (wa_12 135 rfl rfl) dX13_digest_493 ?_
    refine V_lmul hC dX13_digest_496 ?_
    refine V_aload_n hC 0 rfl dX13_digest_497 ?_
    refine V_gr hC fr_X13_37 qr_72_12 dX13_digest_498 ?_
    refine V_gr hC fr_X13_74 qr_80_17 dX13_digest_501 ?_
    refine V_bipush hC (d := dX13_digest_504) rfl ?_
    refine V_iload hC 2 rfl dX13_digest_506 ?_
    refine V_iadd hC dX13_digest_508 ?_
    obtain ⟨hi, kk⟩ := kk
    refine V_il hC qa_89 dX13_digest_509 hi (fun z => ?_)
    replace kk := kk z
    refine V_i2l hC dX13_digest_510 ?_
    refine V_ladd hC dX13_digest_511 ?_
    refine V_lstore_n hC (lv' := [(2, _), (0, _), (4, _)]) (Nat.le_of_ble_eq_true rfl) rfl dX13_digest_512 ?_
    refine V_iinc hC (lv' := [(4, _), (2, _), (0, _)]) 2 rfl (Nat.le_of_ble_eq_true rfl) rfl dX13_digest_513 ?_
    refine V_goto hC 485 rfl dX13_digest_516 ?_
    exact V_sub [2, 1, 0] rfl kk
def T_X13_digest_546 (G : GT) (X : va_W) (Q : Int64 → Mem → Prop) (E : String → Mem → Prop) (k n kc nc : Nat) (y2 : Int64) (x4 : Int) (M : Mem) : Prop := (inR (M 80 0) → (inR x4 ∧ inR (M 80 0) ∧ ((M 80 0) ≤ x4 → (inR (M 72 9) → L_X13_digest_631 G X kc nc ((y2 * (31 : Int64)) + ((I (M 72 9)).toInt64)) (0 : Int) M)) ∧ (x4 < (M 80 0) → ((0 ≤ x4 ∧ x4 < 256) ∧ (inR (M 81 x4.toNat) → ((0 ≤ x4 ∧ x4 < 256) ∧ (inR (M 94 x4.toNat) → ((0 ≤ x4 ∧ x4 < 256) ∧ (inR (M 96 x4.toNat) → L_X13_digest_546 G X kc nc (((((((y2 * (31 : Int64)) + ((I (M 81 x4.toNat)).toInt64)) * (31 : Int64)) + ((I (M 94 x4.toNat)).toInt64)) * (31 : Int64)) + ((I (M 96 x4.toNat)).toInt64)) - (1 : Int64)) (x4 + 1) M)))))))))
set_option maxRecDepth 100000 in
set_option maxHeartbeats 4000000 in
theorem go_X13_digest_546 {G : GT} {X : va_W} {Q : Int64 → Mem → Prop} {E : String → Mem → Prop} {B : WB} {l : Launch} {k n kc nc : Nat} {y2 : Int64} {x4 : Int} {M : Mem} (h : Ct G md_X13_digest X (oL Q E) B l k n) (hb : kc ≤ k ∧ nc ≤ n) (kk : T_X13_digest_546 G X Q E k n kc nc y2 x4 M) : L_X13_digest_546 G X kc nc y2 x4 M := by
  obtain ⟨hC, hR, rfl, hgr, rfl⟩ := h
  have hbd : kc ≤ (gR G).cells ∧ nc ≤ (gR G).slots := by rw [hgr]; exact hb
  clear hb
  unfold T_X13_digest_546 at kk
  unfold L_X13_digest_546
  refine V_iload hC 2 rfl dX13_digest_546 ?_
  refine V_aload_n hC 0 rfl dX13_digest_548 ?_
  refine V_gr hC fr_X13_37 qr_72_12 dX13_digest_549 ?_
  refine V_gi hC fr_X13_249 qi_80_0 dX13_digest_552 (fun z => ?_)
  replace kk := kk z
  obtain ⟨ha, hb, k1, k2⟩ := kk
  refine V_icmp_ge hC 616 rfl dX13_digest_555 ⟨ha, hb, fun z => ?_, fun z => ?_⟩
  · replace kk := k1 z; clear k1 k2
    refine V_lload_n hC 1 rfl dX13_digest_616 ?_
    refine V_ldc2 hC (v := 31) (wa_12 135 rfl rfl) dX13_digest_617 ?_
    refine V_lmul hC dX13_digest_620 ?_
    refine V_aload_n hC 0 rfl dX13_digest_621 ?_
    refine V_gi hC fr_X13_262 qi_72_9 dX13_digest_622 (fun z => ?_)
    replace kk := kk z
    refine V_i2l hC dX13_digest_625 ?_
    refine V_ladd hC dX13_digest_626 ?_
    refine V_lstore_n hC (lv' := [(2, _), (0, _), (4, _)]) (Nat.le_of_ble_eq_true rfl) rfl dX13_digest_627 ?_
    refine V_iconst hC dX13_digest_628 ?_
    refine V_istore hC (lv' := [(4, _), (2, _), (0, _)]) (Nat.le_of_ble_eq_true rfl) rfl dX13_digest_629 ?_
    exact V_sub [2, 1, 0] rfl kk
  · replace kk := k2 z; clear k1 k2
    refine V_lload_n hC 1 rfl dX13_digest_558 ?_
    refine V_ldc2 hC (v := 31) (wa_12 135 rfl rfl) dX13_digest_559 ?_
    refine V_lmul hC dX13_digest_562 ?_
    refine V_aload_n hC 0 rfl dX13_digest_563 ?_
    refine V_gr hC fr_X13_37 qr_72_12 dX13_digest_564 ?_
    refine V_gr hC fr_X13_231 qr_80_9 dX13_digest_567 ?_
    refine V_iload hC 2 rfl dX13_digest_570 ?_
    obtain ⟨hi, kk⟩ := kk
    refine V_il hC qa_81 dX13_digest_572 hi (fun z => ?_)
    replace kk := kk z
    refine V_i2l hC dX13_digest_573 ?_
    refine V_ladd hC dX13_digest_574 ?_
    refine V_ldc2 hC (v := 31) (wa_12 135 rfl rfl) dX13_digest_575 ?_
    refine V_lmul hC dX13_digest_578 ?_
    refine V_aload_n hC 0 rfl dX13_digest_579 ?_
    refine V_gr hC fr_X13_37 qr_72_12 dX13_digest_580 ?_
    refine V_gr hC fr_X13_391 qr_80_22 dX13_digest_583 ?_
    refine V_iload hC 2 rfl dX13_digest_586 ?_
    obtain ⟨hi, kk⟩ := kk
    refine V_il hC qa_94 dX13_digest_588 hi (fun z => ?_)
    replace kk := kk z
    refine V_i2l hC dX13_digest_589 ?_
    refine V_ladd hC dX13_digest_590 ?_
    refine V_ldc2 hC (v := 31) (wa_12 135 rfl rfl) dX13_digest_591 ?_
    refine V_lmul hC dX13_digest_594 ?_
    refine V_aload_n hC 0 rfl dX13_digest_595 ?_
    refine V_gr hC fr_X13_37 qr_72_12 dX13_digest_596 ?_
    refine V_gr hC fr_X13_252 qr_80_24 dX13_digest_599 ?_
    refine V_iload hC 2 rfl dX13_digest_602 ?_
    obtain ⟨hi, kk⟩ := kk
    refine V_il hC qa_96 dX13_digest_604 hi (fun z => ?_)
    replace kk := kk z
    refine V_i2l hC dX13_digest_605 ?_
    refine V_ladd hC dX13_digest_606 ?_
    refine V_lconst hC 1 rfl dX13_digest_607 ?_
    refine V_lsub hC dX13_digest_608 ?_
    refine V_lstore_n hC (lv' := [(2, _), (0, _), (4, _)]) (Nat.le_of_ble_eq_true rfl) rfl dX13_digest_609 ?_
    refine V_iinc hC (lv' := [(4, _), (2, _), (0, _)]) 2 rfl (Nat.le_of_ble_eq_true rfl) rfl dX13_digest_610 ?_
    refine V_goto hC 546 rfl dX13_digest_613 ?_
    exact V_sub [2, 1, 0] rfl kk
def T_X13_digest_631 (G : GT) (X : va_W) (Q : Int64 → Mem → Prop) (E : String → Mem → Prop) (k n kc nc : Nat) (y2 : Int64) (x4 : Int) (M : Mem) : Prop := (inR (M 72 9) → (inR x4 ∧ inR (M 72 9) ∧ ((M 72 9) ≤ x4 → Q y2 M) ∧ (x4 < (M 72 9) → ((0 ≤ x4 ∧ x4 < 400) ∧ (inR (M 77 x4.toNat) → L_X13_digest_631 G X kc nc ((y2 * (31 : Int64)) + ((I (M 77 x4.toNat)).toInt64)) (x4 + 1) M)))))
set_option maxRecDepth 100000 in
set_option maxHeartbeats 4000000 in
theorem go_X13_digest_631 {G : GT} {X : va_W} {Q : Int64 → Mem → Prop} {E : String → Mem → Prop} {B : WB} {l : Launch} {k n kc nc : Nat} {y2 : Int64} {x4 : Int} {M : Mem} (h : Ct G md_X13_digest X (oL Q E) B l k n) (hb : kc ≤ k ∧ nc ≤ n) (kk : T_X13_digest_631 G X Q E k n kc nc y2 x4 M) : L_X13_digest_631 G X kc nc y2 x4 M := by
  obtain ⟨hC, hR, rfl, hgr, rfl⟩ := h
  have hbd : kc ≤ (gR G).cells ∧ nc ≤ (gR G).slots := by rw [hgr]; exact hb
  clear hb
  unfold T_X13_digest_631 at kk
  unfold L_X13_digest_631
  refine V_iload hC 2 rfl dX13_digest_631 ?_
  refine V_aload_n hC 0 rfl dX13_digest_633 ?_
  refine V_gi hC fr_X13_262 qi_72_9 dX13_digest_634 (fun z => ?_)
  replace kk := kk z
  obtain ⟨ha, hb, k1, k2⟩ := kk
  refine V_icmp_ge hC 661 rfl dX13_digest_637 ⟨ha, hb, fun z => ?_, fun z => ?_⟩
  · replace kk := k1 z; clear k1 k2
    refine V_lload_n hC 1 rfl dX13_digest_661 ?_
    exact V_lret hC hR rfl hbd dX13_digest_662 ⟨_, rfl, kk⟩
  · replace kk := k2 z; clear k1 k2
    refine V_lload_n hC 1 rfl dX13_digest_640 ?_
    refine V_ldc2 hC (v := 31) (wa_12 135 rfl rfl) dX13_digest_641 ?_
    refine V_lmul hC dX13_digest_644 ?_
    refine V_aload_n hC 0 rfl dX13_digest_645 ?_
    refine V_gr hC fr_X13_23 qr_72_6 dX13_digest_646 ?_
    refine V_iload hC 2 rfl dX13_digest_649 ?_
    obtain ⟨hi, kk⟩ := kk
    refine V_il hC qa_77 dX13_digest_651 hi (fun z => ?_)
    replace kk := kk z
    refine V_i2l hC dX13_digest_652 ?_
    refine V_ladd hC dX13_digest_653 ?_
    refine V_lstore_n hC (lv' := [(2, _), (0, _), (4, _)]) (Nat.le_of_ble_eq_true rfl) rfl dX13_digest_654 ?_
    refine V_iinc hC (lv' := [(4, _), (2, _), (0, _)]) 2 rfl (Nat.le_of_ble_eq_true rfl) rfl dX13_digest_655 ?_
    refine V_goto hC 631 rfl dX13_digest_658 ?_
    exact V_sub [2, 1, 0] rfl kk
theorem ok_X13_digest {B : WB} {l : Launch} {k n : Nat} {X : va_W} {M : Mem} {Q : Int64 → Mem → Prop} {E : String → Mem → Prop} (hl : l.stackTraces = false) (body : ∀ G : GT, Ct G md_X13_digest X (oL Q E) B l k n → L_X13_digest_0 G X 0 0 M) : OkL B l md_X13_digest k n [.ref (ad B 72)] X M Q E :=
  Ok_of mk_X13_digest hl (Nat.le_of_ble_eq_true rfl) (fun G h => by have hb := body G h; obtain ⟨-, -, rfl, -, -⟩ := h; exact hb)
