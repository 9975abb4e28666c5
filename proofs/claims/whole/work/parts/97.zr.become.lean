/-! ===== another memory becomes as the first one is ===== -/
/-- heap 114 is heap 80, as far as it is in use -/
def Bco (M' M : Mem) : Prop :=
  (∀ o k, o < 114 ∨ 126 < o → M' o k = M o k) ∧
  ((∀ k, k ≤ 8 → M' 114 k = M 80 k) ∧ M' 114 25 = M 114 25 ∧ M' 114 26 = M 114 26) ∧
  (∀ q, M' 115 q = if q < (M 80 0).toNat then M 81 q else M 115 q) ∧ 
  (∀ q, M' 116 q = if q < (M 80 0).toNat then M 82 q else M 116 q) ∧ 
  (∀ q, M' 117 q = if q < (M 80 0).toNat then M 83 q else M 117 q) ∧ 
  (∀ q, M' 118 q = if q < (M 80 0).toNat then M 84 q else M 118 q) ∧ 
  (∀ q, M' 119 q = if q < (M 80 0).toNat then M 85 q else M 119 q) ∧ 
  (∀ q, M' 120 q = if q < (M 80 0).toNat then M 86 q else M 120 q) ∧ 
  (∀ q, M' 121 q = if q < (M 80 1).toNat then M 87 q else M 121 q) ∧ 
  (∀ q, M' 122 q = if q < 8 then M 88 q else M 122 q) ∧ 
  (∀ q, M' 123 q = if q < 72 then M 89 q else M 123 q) ∧ 
  (∀ q, M' 124 q = if q < (M 80 7).toNat then M 90 q else M 124 q) ∧ 
  (∀ q, M' 125 q = if q < (M 80 8).toNat then M 91 q else M 125 q)
section BecomeO
variable {B : WB} {l : Launch} {X : va_W} {i : Nat} {M M' N : Mem} {QN : Nat → Mem → Prop}
theorem ne_ofo {o d : Nat} (h : o < 115 ∨ 125 < o) (hd : 115 ≤ d ∧ d ≤ 125) : o ≠ d := by omega
set_option maxHeartbeats 8000000 in
theorem ms_becomeO (hl : l.stackTraces = false) (hi : ∀ k, inR (M 80 k)) (b0 : 0 ≤ M 80 0 ∧ M 80 0 ≤ 208) (b1 : 0 ≤ M 80 1 ∧ M 80 1 ≤ 1664) (b7 : 0 ≤ M 80 7 ∧ M 80 7 ≤ 208) (b8 : 0 ≤ M 80 8 ∧ M 80 8 ≤ 208) (hq : ∀ M', Bco M' M → QN 114 M') : OkR B l md_X12_become 0 0 [.ref (ad B 114), .ref (ad B 80)] X M QN NoX := by
  have h97 : isHp 114 := Or.inr (Or.inr rfl)
  refine ok_X12_become hl (fun G h => go_X12_become_0 h h97 (Or.inl rfl) ?_)
  refine fun z1 => ⟨z1, fun M1 e1 => ?_⟩
  have f1 : ∀ o k, o ≠ 114 → M1 o k = M o k := fun o k ho => by rw [e1, up_o ho]
  have v1_0 : M1 114 0 = M 80 0 := by rw [e1, up_s]
  have v1_25 : M1 114 25 = M 114 25 := by rw [e1, up_k (by decide)]
  have v1_26 : M1 114 26 = M 114 26 := by rw [e1, up_k (by decide)]
  refine fun z2 => ⟨z2, fun M2 e2 => ?_⟩
  have f2 : ∀ o k, o ≠ 114 → M2 o k = M o k := fun o k ho => by rw [e2, up_o ho, f1 o k ho]
  have v2_1 : M2 114 1 = M 80 1 := by rw [e2, up_s, f1 80 1 (by decide)]
  have v2_0 : M2 114 0 = M 80 0 := by rw [e2, up_k (by decide), v1_0]
  have v2_25 : M2 114 25 = M 114 25 := by rw [e2, up_k (by decide), v1_25]
  have v2_26 : M2 114 26 = M 114 26 := by rw [e2, up_k (by decide), v1_26]
  refine fun z3 => ⟨z3, fun M3 e3 => ?_⟩
  have f3 : ∀ o k, o ≠ 114 → M3 o k = M o k := fun o k ho => by rw [e3, up_o ho, f2 o k ho]
  have v3_2 : M3 114 2 = M 80 2 := by rw [e3, up_s, f2 80 2 (by decide)]
  have v3_0 : M3 114 0 = M 80 0 := by rw [e3, up_k (by decide), v2_0]
  have v3_1 : M3 114 1 = M 80 1 := by rw [e3, up_k (by decide), v2_1]
  have v3_25 : M3 114 25 = M 114 25 := by rw [e3, up_k (by decide), v2_25]
  have v3_26 : M3 114 26 = M 114 26 := by rw [e3, up_k (by decide), v2_26]
  refine fun z4 => ⟨z4, fun M4 e4 => ?_⟩
  have f4 : ∀ o k, o ≠ 114 → M4 o k = M o k := fun o k ho => by rw [e4, up_o ho, f3 o k ho]
  have v4_3 : M4 114 3 = M 80 3 := by rw [e4, up_s, f3 80 3 (by decide)]
  have v4_0 : M4 114 0 = M 80 0 := by rw [e4, up_k (by decide), v3_0]
  have v4_1 : M4 114 1 = M 80 1 := by rw [e4, up_k (by decide), v3_1]
  have v4_2 : M4 114 2 = M 80 2 := by rw [e4, up_k (by decide), v3_2]
  have v4_25 : M4 114 25 = M 114 25 := by rw [e4, up_k (by decide), v3_25]
  have v4_26 : M4 114 26 = M 114 26 := by rw [e4, up_k (by decide), v3_26]
  refine fun z5 => ⟨z5, fun M5 e5 => ?_⟩
  have f5 : ∀ o k, o ≠ 114 → M5 o k = M o k := fun o k ho => by rw [e5, up_o ho, f4 o k ho]
  have v5_4 : M5 114 4 = M 80 4 := by rw [e5, up_s, f4 80 4 (by decide)]
  have v5_0 : M5 114 0 = M 80 0 := by rw [e5, up_k (by decide), v4_0]
  have v5_1 : M5 114 1 = M 80 1 := by rw [e5, up_k (by decide), v4_1]
  have v5_2 : M5 114 2 = M 80 2 := by rw [e5, up_k (by decide), v4_2]
  have v5_3 : M5 114 3 = M 80 3 := by rw [e5, up_k (by decide), v4_3]
  have v5_25 : M5 114 25 = M 114 25 := by rw [e5, up_k (by decide), v4_25]
  have v5_26 : M5 114 26 = M 114 26 := by rw [e5, up_k (by decide), v4_26]
  refine fun z6 => ⟨z6, fun M6 e6 => ?_⟩
  have f6 : ∀ o k, o ≠ 114 → M6 o k = M o k := fun o k ho => by rw [e6, up_o ho, f5 o k ho]
  have v6_5 : M6 114 5 = M 80 5 := by rw [e6, up_s, f5 80 5 (by decide)]
  have v6_0 : M6 114 0 = M 80 0 := by rw [e6, up_k (by decide), v5_0]
  have v6_1 : M6 114 1 = M 80 1 := by rw [e6, up_k (by decide), v5_1]
  have v6_2 : M6 114 2 = M 80 2 := by rw [e6, up_k (by decide), v5_2]
  have v6_3 : M6 114 3 = M 80 3 := by rw [e6, up_k (by decide), v5_3]
  have v6_4 : M6 114 4 = M 80 4 := by rw [e6, up_k (by decide), v5_4]
  have v6_25 : M6 114 25 = M 114 25 := by rw [e6, up_k (by decide), v5_25]
  have v6_26 : M6 114 26 = M 114 26 := by rw [e6, up_k (by decide), v5_26]
  refine fun z7 => ⟨z7, fun M7 e7 => ?_⟩
  have f7 : ∀ o k, o ≠ 114 → M7 o k = M o k := fun o k ho => by rw [e7, up_o ho, f6 o k ho]
  have v7_6 : M7 114 6 = M 80 6 := by rw [e7, up_s, f6 80 6 (by decide)]
  have v7_0 : M7 114 0 = M 80 0 := by rw [e7, up_k (by decide), v6_0]
  have v7_1 : M7 114 1 = M 80 1 := by rw [e7, up_k (by decide), v6_1]
  have v7_2 : M7 114 2 = M 80 2 := by rw [e7, up_k (by decide), v6_2]
  have v7_3 : M7 114 3 = M 80 3 := by rw [e7, up_k (by decide), v6_3]
  have v7_4 : M7 114 4 = M 80 4 := by rw [e7, up_k (by decide), v6_4]
  have v7_5 : M7 114 5 = M 80 5 := by rw [e7, up_k (by decide), v6_5]
  have v7_25 : M7 114 25 = M 114 25 := by rw [e7, up_k (by decide), v6_25]
  have v7_26 : M7 114 26 = M 114 26 := by rw [e7, up_k (by decide), v6_26]
  refine fun z8 => ⟨z8, fun M8 e8 => ?_⟩
  have f8 : ∀ o k, o ≠ 114 → M8 o k = M o k := fun o k ho => by rw [e8, up_o ho, f7 o k ho]
  have v8_7 : M8 114 7 = M 80 7 := by rw [e8, up_s, f7 80 7 (by decide)]
  have v8_0 : M8 114 0 = M 80 0 := by rw [e8, up_k (by decide), v7_0]
  have v8_1 : M8 114 1 = M 80 1 := by rw [e8, up_k (by decide), v7_1]
  have v8_2 : M8 114 2 = M 80 2 := by rw [e8, up_k (by decide), v7_2]
  have v8_3 : M8 114 3 = M 80 3 := by rw [e8, up_k (by decide), v7_3]
  have v8_4 : M8 114 4 = M 80 4 := by rw [e8, up_k (by decide), v7_4]
  have v8_5 : M8 114 5 = M 80 5 := by rw [e8, up_k (by decide), v7_5]
  have v8_6 : M8 114 6 = M 80 6 := by rw [e8, up_k (by decide), v7_6]
  have v8_25 : M8 114 25 = M 114 25 := by rw [e8, up_k (by decide), v7_25]
  have v8_26 : M8 114 26 = M 114 26 := by rw [e8, up_k (by decide), v7_26]
  refine fun z9 => ⟨z9, fun M9 e9 => ?_⟩
  have f9 : ∀ o k, o ≠ 114 → M9 o k = M o k := fun o k ho => by rw [e9, up_o ho, f8 o k ho]
  have v9_8 : M9 114 8 = M 80 8 := by rw [e9, up_s, f8 80 8 (by decide)]
  have v9_0 : M9 114 0 = M 80 0 := by rw [e9, up_k (by decide), v8_0]
  have v9_1 : M9 114 1 = M 80 1 := by rw [e9, up_k (by decide), v8_1]
  have v9_2 : M9 114 2 = M 80 2 := by rw [e9, up_k (by decide), v8_2]
  have v9_3 : M9 114 3 = M 80 3 := by rw [e9, up_k (by decide), v8_3]
  have v9_4 : M9 114 4 = M 80 4 := by rw [e9, up_k (by decide), v8_4]
  have v9_5 : M9 114 5 = M 80 5 := by rw [e9, up_k (by decide), v8_5]
  have v9_6 : M9 114 6 = M 80 6 := by rw [e9, up_k (by decide), v8_6]
  have v9_7 : M9 114 7 = M 80 7 := by rw [e9, up_k (by decide), v8_7]
  have v9_25 : M9 114 25 = M 114 25 := by rw [e9, up_k (by decide), v8_25]
  have v9_26 : M9 114 26 = M 114 26 := by rw [e9, up_k (by decide), v8_26]
  have s9 : ∀ k, M9 114 k = M9 114 k := fun _ => rfl
  have g9 : ∀ o k, 114 ≠ o → (o < 115 ∨ 125 < o) → M9 o k = M o k := fun o k ho _ => f9 o k (fun z => ho z.symm)
  have w10 : M9 114 0 = M 80 0 := by rw [s9]; exact v9_0
  refine fun z10 => ⟨by rw [w10]; exact bd256 b0, fun M10 e10 => ?_⟩
  have e10q : M10 = cpM M9 81 0 115 0 (M 80 0).toNat := by rw [e10, w10]; rfl
  have s10 : ∀ k, M10 114 k = M9 114 k := fun k => by rw [e10q, cp_o (by decide), s9]
  have g10 : ∀ o k, 114 ≠ o → (o < 115 ∨ 125 < o) → M10 o k = M o k := fun o k ho hh => by rw [e10q, cp_o (ne_ofo hh (by decide)), g9 o k ho hh]
  have u10_116 : ∀ q, M10 116 q = M 116 q := fun q => by rw [e10q, cp_o (by decide), f9 116 q (by decide)]
  have u10_117 : ∀ q, M10 117 q = M 117 q := fun q => by rw [e10q, cp_o (by decide), f9 117 q (by decide)]
  have u10_118 : ∀ q, M10 118 q = M 118 q := fun q => by rw [e10q, cp_o (by decide), f9 118 q (by decide)]
  have u10_119 : ∀ q, M10 119 q = M 119 q := fun q => by rw [e10q, cp_o (by decide), f9 119 q (by decide)]
  have u10_120 : ∀ q, M10 120 q = M 120 q := fun q => by rw [e10q, cp_o (by decide), f9 120 q (by decide)]
  have u10_121 : ∀ q, M10 121 q = M 121 q := fun q => by rw [e10q, cp_o (by decide), f9 121 q (by decide)]
  have u10_122 : ∀ q, M10 122 q = M 122 q := fun q => by rw [e10q, cp_o (by decide), f9 122 q (by decide)]
  have u10_123 : ∀ q, M10 123 q = M 123 q := fun q => by rw [e10q, cp_o (by decide), f9 123 q (by decide)]
  have u10_124 : ∀ q, M10 124 q = M 124 q := fun q => by rw [e10q, cp_o (by decide), f9 124 q (by decide)]
  have u10_125 : ∀ q, M10 125 q = M 125 q := fun q => by rw [e10q, cp_o (by decide), f9 125 q (by decide)]
  have a10_115 : ∀ q, M10 115 q = if q < (M 80 0).toNat then M 81 q else M 115 q := fun q => by rw [e10q, cp_at, g9 81 q (by decide) (by decide), f9 115 q (by decide)]
  have w11 : M10 114 0 = M 80 0 := by rw [s10]; exact v9_0
  refine fun z11 => ⟨by rw [w11]; exact bd256 b0, fun M11 e11 => ?_⟩
  have e11q : M11 = cpM M10 82 0 116 0 (M 80 0).toNat := by rw [e11, w11]; rfl
  have s11 : ∀ k, M11 114 k = M9 114 k := fun k => by rw [e11q, cp_o (by decide), s10]
  have g11 : ∀ o k, 114 ≠ o → (o < 115 ∨ 125 < o) → M11 o k = M o k := fun o k ho hh => by rw [e11q, cp_o (ne_ofo hh (by decide)), g10 o k ho hh]
  have a11_115 : ∀ q, M11 115 q = if q < (M 80 0).toNat then M 81 q else M 115 q := fun q => by rw [e11q, cp_o (by decide), a10_115]
  have u11_117 : ∀ q, M11 117 q = M 117 q := fun q => by rw [e11q, cp_o (by decide), u10_117]
  have u11_118 : ∀ q, M11 118 q = M 118 q := fun q => by rw [e11q, cp_o (by decide), u10_118]
  have u11_119 : ∀ q, M11 119 q = M 119 q := fun q => by rw [e11q, cp_o (by decide), u10_119]
  have u11_120 : ∀ q, M11 120 q = M 120 q := fun q => by rw [e11q, cp_o (by decide), u10_120]
  have u11_121 : ∀ q, M11 121 q = M 121 q := fun q => by rw [e11q, cp_o (by decide), u10_121]
  have u11_122 : ∀ q, M11 122 q = M 122 q := fun q => by rw [e11q, cp_o (by decide), u10_122]
  have u11_123 : ∀ q, M11 123 q = M 123 q := fun q => by rw [e11q, cp_o (by decide), u10_123]
  have u11_124 : ∀ q, M11 124 q = M 124 q := fun q => by rw [e11q, cp_o (by decide), u10_124]
  have u11_125 : ∀ q, M11 125 q = M 125 q := fun q => by rw [e11q, cp_o (by decide), u10_125]
  have a11_116 : ∀ q, M11 116 q = if q < (M 80 0).toNat then M 82 q else M 116 q := fun q => by rw [e11q, cp_at, g10 82 q (by decide) (by decide), u10_116]
  have w12 : M11 114 0 = M 80 0 := by rw [s11]; exact v9_0
  refine fun z12 => ⟨by rw [w12]; exact bd256 b0, fun M12 e12 => ?_⟩
  have e12q : M12 = cpM M11 83 0 117 0 (M 80 0).toNat := by rw [e12, w12]; rfl
  have s12 : ∀ k, M12 114 k = M9 114 k := fun k => by rw [e12q, cp_o (by decide), s11]
  have g12 : ∀ o k, 114 ≠ o → (o < 115 ∨ 125 < o) → M12 o k = M o k := fun o k ho hh => by rw [e12q, cp_o (ne_ofo hh (by decide)), g11 o k ho hh]
  have a12_115 : ∀ q, M12 115 q = if q < (M 80 0).toNat then M 81 q else M 115 q := fun q => by rw [e12q, cp_o (by decide), a11_115]
  have a12_116 : ∀ q, M12 116 q = if q < (M 80 0).toNat then M 82 q else M 116 q := fun q => by rw [e12q, cp_o (by decide), a11_116]
  have u12_118 : ∀ q, M12 118 q = M 118 q := fun q => by rw [e12q, cp_o (by decide), u11_118]
  have u12_119 : ∀ q, M12 119 q = M 119 q := fun q => by rw [e12q, cp_o (by decide), u11_119]
  have u12_120 : ∀ q, M12 120 q = M 120 q := fun q => by rw [e12q, cp_o (by decide), u11_120]
  have u12_121 : ∀ q, M12 121 q = M 121 q := fun q => by rw [e12q, cp_o (by decide), u11_121]
  have u12_122 : ∀ q, M12 122 q = M 122 q := fun q => by rw [e12q, cp_o (by decide), u11_122]
  have u12_123 : ∀ q, M12 123 q = M 123 q := fun q => by rw [e12q, cp_o (by decide), u11_123]
  have u12_124 : ∀ q, M12 124 q = M 124 q := fun q => by rw [e12q, cp_o (by decide), u11_124]
  have u12_125 : ∀ q, M12 125 q = M 125 q := fun q => by rw [e12q, cp_o (by decide), u11_125]
  have a12_117 : ∀ q, M12 117 q = if q < (M 80 0).toNat then M 83 q else M 117 q := fun q => by rw [e12q, cp_at, g11 83 q (by decide) (by decide), u11_117]
  have w13 : M12 114 0 = M 80 0 := by rw [s12]; exact v9_0
  refine fun z13 => ⟨by rw [w13]; exact bd256 b0, fun M13 e13 => ?_⟩
  have e13q : M13 = cpM M12 84 0 118 0 (M 80 0).toNat := by rw [e13, w13]; rfl
  have s13 : ∀ k, M13 114 k = M9 114 k := fun k => by rw [e13q, cp_o (by decide), s12]
  have g13 : ∀ o k, 114 ≠ o → (o < 115 ∨ 125 < o) → M13 o k = M o k := fun o k ho hh => by rw [e13q, cp_o (ne_ofo hh (by decide)), g12 o k ho hh]
  have a13_115 : ∀ q, M13 115 q = if q < (M 80 0).toNat then M 81 q else M 115 q := fun q => by rw [e13q, cp_o (by decide), a12_115]
  have a13_116 : ∀ q, M13 116 q = if q < (M 80 0).toNat then M 82 q else M 116 q := fun q => by rw [e13q, cp_o (by decide), a12_116]
  have a13_117 : ∀ q, M13 117 q = if q < (M 80 0).toNat then M 83 q else M 117 q := fun q => by rw [e13q, cp_o (by decide), a12_117]
  have u13_119 : ∀ q, M13 119 q = M 119 q := fun q => by rw [e13q, cp_o (by decide), u12_119]
  have u13_120 : ∀ q, M13 120 q = M 120 q := fun q => by rw [e13q, cp_o (by decide), u12_120]
  have u13_121 : ∀ q, M13 121 q = M 121 q := fun q => by rw [e13q, cp_o (by decide), u12_121]
  have u13_122 : ∀ q, M13 122 q = M 122 q := fun q => by rw [e13q, cp_o (by decide), u12_122]
  have u13_123 : ∀ q, M13 123 q = M 123 q := fun q => by rw [e13q, cp_o (by decide), u12_123]
  have u13_124 : ∀ q, M13 124 q = M 124 q := fun q => by rw [e13q, cp_o (by decide), u12_124]
  have u13_125 : ∀ q, M13 125 q = M 125 q := fun q => by rw [e13q, cp_o (by decide), u12_125]
  have a13_118 : ∀ q, M13 118 q = if q < (M 80 0).toNat then M 84 q else M 118 q := fun q => by rw [e13q, cp_at, g12 84 q (by decide) (by decide), u12_118]
  have w14 : M13 114 0 = M 80 0 := by rw [s13]; exact v9_0
  refine fun z14 => ⟨by rw [w14]; exact bd256 b0, fun M14 e14 => ?_⟩
  have e14q : M14 = cpM M13 85 0 119 0 (M 80 0).toNat := by rw [e14, w14]; rfl
  have s14 : ∀ k, M14 114 k = M9 114 k := fun k => by rw [e14q, cp_o (by decide), s13]
  have g14 : ∀ o k, 114 ≠ o → (o < 115 ∨ 125 < o) → M14 o k = M o k := fun o k ho hh => by rw [e14q, cp_o (ne_ofo hh (by decide)), g13 o k ho hh]
  have a14_115 : ∀ q, M14 115 q = if q < (M 80 0).toNat then M 81 q else M 115 q := fun q => by rw [e14q, cp_o (by decide), a13_115]
  have a14_116 : ∀ q, M14 116 q = if q < (M 80 0).toNat then M 82 q else M 116 q := fun q => by rw [e14q, cp_o (by decide), a13_116]
  have a14_117 : ∀ q, M14 117 q = if q < (M 80 0).toNat then M 83 q else M 117 q := fun q => by rw [e14q, cp_o (by decide), a13_117]
  have a14_118 : ∀ q, M14 118 q = if q < (M 80 0).toNat then M 84 q else M 118 q := fun q => by rw [e14q, cp_o (by decide), a13_118]
  have u14_120 : ∀ q, M14 120 q = M 120 q := fun q => by rw [e14q, cp_o (by decide), u13_120]
  have u14_121 : ∀ q, M14 121 q = M 121 q := fun q => by rw [e14q, cp_o (by decide), u13_121]
  have u14_122 : ∀ q, M14 122 q = M 122 q := fun q => by rw [e14q, cp_o (by decide), u13_122]
  have u14_123 : ∀ q, M14 123 q = M 123 q := fun q => by rw [e14q, cp_o (by decide), u13_123]
  have u14_124 : ∀ q, M14 124 q = M 124 q := fun q => by rw [e14q, cp_o (by decide), u13_124]
  have u14_125 : ∀ q, M14 125 q = M 125 q := fun q => by rw [e14q, cp_o (by decide), u13_125]
  have a14_119 : ∀ q, M14 119 q = if q < (M 80 0).toNat then M 85 q else M 119 q := fun q => by rw [e14q, cp_at, g13 85 q (by decide) (by decide), u13_119]
  have w15 : M14 114 0 = M 80 0 := by rw [s14]; exact v9_0
  refine fun z15 => ⟨by rw [w15]; exact bd256 b0, fun M15 e15 => ?_⟩
  have e15q : M15 = cpM M14 86 0 120 0 (M 80 0).toNat := by rw [e15, w15]; rfl
  have s15 : ∀ k, M15 114 k = M9 114 k := fun k => by rw [e15q, cp_o (by decide), s14]
  have g15 : ∀ o k, 114 ≠ o → (o < 115 ∨ 125 < o) → M15 o k = M o k := fun o k ho hh => by rw [e15q, cp_o (ne_ofo hh (by decide)), g14 o k ho hh]
  have a15_115 : ∀ q, M15 115 q = if q < (M 80 0).toNat then M 81 q else M 115 q := fun q => by rw [e15q, cp_o (by decide), a14_115]
  have a15_116 : ∀ q, M15 116 q = if q < (M 80 0).toNat then M 82 q else M 116 q := fun q => by rw [e15q, cp_o (by decide), a14_116]
  have a15_117 : ∀ q, M15 117 q = if q < (M 80 0).toNat then M 83 q else M 117 q := fun q => by rw [e15q, cp_o (by decide), a14_117]
  have a15_118 : ∀ q, M15 118 q = if q < (M 80 0).toNat then M 84 q else M 118 q := fun q => by rw [e15q, cp_o (by decide), a14_118]
  have a15_119 : ∀ q, M15 119 q = if q < (M 80 0).toNat then M 85 q else M 119 q := fun q => by rw [e15q, cp_o (by decide), a14_119]
  have u15_121 : ∀ q, M15 121 q = M 121 q := fun q => by rw [e15q, cp_o (by decide), u14_121]
  have u15_122 : ∀ q, M15 122 q = M 122 q := fun q => by rw [e15q, cp_o (by decide), u14_122]
  have u15_123 : ∀ q, M15 123 q = M 123 q := fun q => by rw [e15q, cp_o (by decide), u14_123]
  have u15_124 : ∀ q, M15 124 q = M 124 q := fun q => by rw [e15q, cp_o (by decide), u14_124]
  have u15_125 : ∀ q, M15 125 q = M 125 q := fun q => by rw [e15q, cp_o (by decide), u14_125]
  have a15_120 : ∀ q, M15 120 q = if q < (M 80 0).toNat then M 86 q else M 120 q := fun q => by rw [e15q, cp_at, g14 86 q (by decide) (by decide), u14_120]
  have w16 : M15 114 1 = M 80 1 := by rw [s15]; exact v9_1
  refine fun z16 => ⟨by rw [w16]; exact bd2048 b1, fun M16 e16 => ?_⟩
  have e16q : M16 = cpM M15 87 0 121 0 (M 80 1).toNat := by rw [e16, w16]; rfl
  have s16 : ∀ k, M16 114 k = M9 114 k := fun k => by rw [e16q, cp_o (by decide), s15]
  have g16 : ∀ o k, 114 ≠ o → (o < 115 ∨ 125 < o) → M16 o k = M o k := fun o k ho hh => by rw [e16q, cp_o (ne_ofo hh (by decide)), g15 o k ho hh]
  have a16_115 : ∀ q, M16 115 q = if q < (M 80 0).toNat then M 81 q else M 115 q := fun q => by rw [e16q, cp_o (by decide), a15_115]
  have a16_116 : ∀ q, M16 116 q = if q < (M 80 0).toNat then M 82 q else M 116 q := fun q => by rw [e16q, cp_o (by decide), a15_116]
  have a16_117 : ∀ q, M16 117 q = if q < (M 80 0).toNat then M 83 q else M 117 q := fun q => by rw [e16q, cp_o (by decide), a15_117]
  have a16_118 : ∀ q, M16 118 q = if q < (M 80 0).toNat then M 84 q else M 118 q := fun q => by rw [e16q, cp_o (by decide), a15_118]
  have a16_119 : ∀ q, M16 119 q = if q < (M 80 0).toNat then M 85 q else M 119 q := fun q => by rw [e16q, cp_o (by decide), a15_119]
  have a16_120 : ∀ q, M16 120 q = if q < (M 80 0).toNat then M 86 q else M 120 q := fun q => by rw [e16q, cp_o (by decide), a15_120]
  have u16_122 : ∀ q, M16 122 q = M 122 q := fun q => by rw [e16q, cp_o (by decide), u15_122]
  have u16_123 : ∀ q, M16 123 q = M 123 q := fun q => by rw [e16q, cp_o (by decide), u15_123]
  have u16_124 : ∀ q, M16 124 q = M 124 q := fun q => by rw [e16q, cp_o (by decide), u15_124]
  have u16_125 : ∀ q, M16 125 q = M 125 q := fun q => by rw [e16q, cp_o (by decide), u15_125]
  have a16_121 : ∀ q, M16 121 q = if q < (M 80 1).toNat then M 87 q else M 121 q := fun q => by rw [e16q, cp_at, g15 87 q (by decide) (by decide), u15_121]
  refine ⟨by decide, fun M17 e17 => ?_⟩
  have e17q : M17 = cpM M16 88 0 122 0 8 := e17
  have s17 : ∀ k, M17 114 k = M9 114 k := fun k => by rw [e17q, cp_o (by decide), s16]
  have g17 : ∀ o k, 114 ≠ o → (o < 115 ∨ 125 < o) → M17 o k = M o k := fun o k ho hh => by rw [e17q, cp_o (ne_ofo hh (by decide)), g16 o k ho hh]
  have a17_115 : ∀ q, M17 115 q = if q < (M 80 0).toNat then M 81 q else M 115 q := fun q => by rw [e17q, cp_o (by decide), a16_115]
  have a17_116 : ∀ q, M17 116 q = if q < (M 80 0).toNat then M 82 q else M 116 q := fun q => by rw [e17q, cp_o (by decide), a16_116]
  have a17_117 : ∀ q, M17 117 q = if q < (M 80 0).toNat then M 83 q else M 117 q := fun q => by rw [e17q, cp_o (by decide), a16_117]
  have a17_118 : ∀ q, M17 118 q = if q < (M 80 0).toNat then M 84 q else M 118 q := fun q => by rw [e17q, cp_o (by decide), a16_118]
  have a17_119 : ∀ q, M17 119 q = if q < (M 80 0).toNat then M 85 q else M 119 q := fun q => by rw [e17q, cp_o (by decide), a16_119]
  have a17_120 : ∀ q, M17 120 q = if q < (M 80 0).toNat then M 86 q else M 120 q := fun q => by rw [e17q, cp_o (by decide), a16_120]
  have a17_121 : ∀ q, M17 121 q = if q < (M 80 1).toNat then M 87 q else M 121 q := fun q => by rw [e17q, cp_o (by decide), a16_121]
  have u17_123 : ∀ q, M17 123 q = M 123 q := fun q => by rw [e17q, cp_o (by decide), u16_123]
  have u17_124 : ∀ q, M17 124 q = M 124 q := fun q => by rw [e17q, cp_o (by decide), u16_124]
  have u17_125 : ∀ q, M17 125 q = M 125 q := fun q => by rw [e17q, cp_o (by decide), u16_125]
  have a17_122 : ∀ q, M17 122 q = if q < 8 then M 88 q else M 122 q := fun q => by rw [e17q, cp_at, g16 88 q (by decide) (by decide), u16_122]
  refine ⟨by decide, fun M18 e18 => ?_⟩
  have e18q : M18 = cpM M17 89 0 123 0 72 := e18
  have s18 : ∀ k, M18 114 k = M9 114 k := fun k => by rw [e18q, cp_o (by decide), s17]
  have g18 : ∀ o k, 114 ≠ o → (o < 115 ∨ 125 < o) → M18 o k = M o k := fun o k ho hh => by rw [e18q, cp_o (ne_ofo hh (by decide)), g17 o k ho hh]
  have a18_115 : ∀ q, M18 115 q = if q < (M 80 0).toNat then M 81 q else M 115 q := fun q => by rw [e18q, cp_o (by decide), a17_115]
  have a18_116 : ∀ q, M18 116 q = if q < (M 80 0).toNat then M 82 q else M 116 q := fun q => by rw [e18q, cp_o (by decide), a17_116]
  have a18_117 : ∀ q, M18 117 q = if q < (M 80 0).toNat then M 83 q else M 117 q := fun q => by rw [e18q, cp_o (by decide), a17_117]
  have a18_118 : ∀ q, M18 118 q = if q < (M 80 0).toNat then M 84 q else M 118 q := fun q => by rw [e18q, cp_o (by decide), a17_118]
  have a18_119 : ∀ q, M18 119 q = if q < (M 80 0).toNat then M 85 q else M 119 q := fun q => by rw [e18q, cp_o (by decide), a17_119]
  have a18_120 : ∀ q, M18 120 q = if q < (M 80 0).toNat then M 86 q else M 120 q := fun q => by rw [e18q, cp_o (by decide), a17_120]
  have a18_121 : ∀ q, M18 121 q = if q < (M 80 1).toNat then M 87 q else M 121 q := fun q => by rw [e18q, cp_o (by decide), a17_121]
  have a18_122 : ∀ q, M18 122 q = if q < 8 then M 88 q else M 122 q := fun q => by rw [e18q, cp_o (by decide), a17_122]
  have u18_124 : ∀ q, M18 124 q = M 124 q := fun q => by rw [e18q, cp_o (by decide), u17_124]
  have u18_125 : ∀ q, M18 125 q = M 125 q := fun q => by rw [e18q, cp_o (by decide), u17_125]
  have a18_123 : ∀ q, M18 123 q = if q < 72 then M 89 q else M 123 q := fun q => by rw [e18q, cp_at, g17 89 q (by decide) (by decide), u17_123]
  have w19 : M18 114 7 = M 80 7 := by rw [s18]; exact v9_7
  refine fun z19 => ⟨by rw [w19]; exact bd256 b7, fun M19 e19 => ?_⟩
  have e19q : M19 = cpM M18 90 0 124 0 (M 80 7).toNat := by rw [e19, w19]; rfl
  have s19 : ∀ k, M19 114 k = M9 114 k := fun k => by rw [e19q, cp_o (by decide), s18]
  have g19 : ∀ o k, 114 ≠ o → (o < 115 ∨ 125 < o) → M19 o k = M o k := fun o k ho hh => by rw [e19q, cp_o (ne_ofo hh (by decide)), g18 o k ho hh]
  have a19_115 : ∀ q, M19 115 q = if q < (M 80 0).toNat then M 81 q else M 115 q := fun q => by rw [e19q, cp_o (by decide), a18_115]
  have a19_116 : ∀ q, M19 116 q = if q < (M 80 0).toNat then M 82 q else M 116 q := fun q => by rw [e19q, cp_o (by decide), a18_116]
  have a19_117 : ∀ q, M19 117 q = if q < (M 80 0).toNat then M 83 q else M 117 q := fun q => by rw [e19q, cp_o (by decide), a18_117]
  have a19_118 : ∀ q, M19 118 q = if q < (M 80 0).toNat then M 84 q else M 118 q := fun q => by rw [e19q, cp_o (by decide), a18_118]
  have a19_119 : ∀ q, M19 119 q = if q < (M 80 0).toNat then M 85 q else M 119 q := fun q => by rw [e19q, cp_o (by decide), a18_119]
  have a19_120 : ∀ q, M19 120 q = if q < (M 80 0).toNat then M 86 q else M 120 q := fun q => by rw [e19q, cp_o (by decide), a18_120]
  have a19_121 : ∀ q, M19 121 q = if q < (M 80 1).toNat then M 87 q else M 121 q := fun q => by rw [e19q, cp_o (by decide), a18_121]
  have a19_122 : ∀ q, M19 122 q = if q < 8 then M 88 q else M 122 q := fun q => by rw [e19q, cp_o (by decide), a18_122]
  have a19_123 : ∀ q, M19 123 q = if q < 72 then M 89 q else M 123 q := fun q => by rw [e19q, cp_o (by decide), a18_123]
  have u19_125 : ∀ q, M19 125 q = M 125 q := fun q => by rw [e19q, cp_o (by decide), u18_125]
  have a19_124 : ∀ q, M19 124 q = if q < (M 80 7).toNat then M 90 q else M 124 q := fun q => by rw [e19q, cp_at, g18 90 q (by decide) (by decide), u18_124]
  have w20 : M19 114 8 = M 80 8 := by rw [s19]; exact v9_8
  refine fun z20 => ⟨by rw [w20]; exact bd256 b8, fun M20 e20 => ?_⟩
  have e20q : M20 = cpM M19 91 0 125 0 (M 80 8).toNat := by rw [e20, w20]; rfl
  have s20 : ∀ k, M20 114 k = M9 114 k := fun k => by rw [e20q, cp_o (by decide), s19]
  have g20 : ∀ o k, 114 ≠ o → (o < 115 ∨ 125 < o) → M20 o k = M o k := fun o k ho hh => by rw [e20q, cp_o (ne_ofo hh (by decide)), g19 o k ho hh]
  have a20_115 : ∀ q, M20 115 q = if q < (M 80 0).toNat then M 81 q else M 115 q := fun q => by rw [e20q, cp_o (by decide), a19_115]
  have a20_116 : ∀ q, M20 116 q = if q < (M 80 0).toNat then M 82 q else M 116 q := fun q => by rw [e20q, cp_o (by decide), a19_116]
  have a20_117 : ∀ q, M20 117 q = if q < (M 80 0).toNat then M 83 q else M 117 q := fun q => by rw [e20q, cp_o (by decide), a19_117]
  have a20_118 : ∀ q, M20 118 q = if q < (M 80 0).toNat then M 84 q else M 118 q := fun q => by rw [e20q, cp_o (by decide), a19_118]
  have a20_119 : ∀ q, M20 119 q = if q < (M 80 0).toNat then M 85 q else M 119 q := fun q => by rw [e20q, cp_o (by decide), a19_119]
  have a20_120 : ∀ q, M20 120 q = if q < (M 80 0).toNat then M 86 q else M 120 q := fun q => by rw [e20q, cp_o (by decide), a19_120]
  have a20_121 : ∀ q, M20 121 q = if q < (M 80 1).toNat then M 87 q else M 121 q := fun q => by rw [e20q, cp_o (by decide), a19_121]
  have a20_122 : ∀ q, M20 122 q = if q < 8 then M 88 q else M 122 q := fun q => by rw [e20q, cp_o (by decide), a19_122]
  have a20_123 : ∀ q, M20 123 q = if q < 72 then M 89 q else M 123 q := fun q => by rw [e20q, cp_o (by decide), a19_123]
  have a20_124 : ∀ q, M20 124 q = if q < (M 80 7).toNat then M 90 q else M 124 q := fun q => by rw [e20q, cp_o (by decide), a19_124]
  have a20_125 : ∀ q, M20 125 q = if q < (M 80 8).toNat then M 91 q else M 125 q := fun q => by rw [e20q, cp_at, g19 91 q (by decide) (by decide), u19_125]
  have n0 : M20 114 0 = M 80 0 := by rw [s20]; exact v9_0
  refine ms_none h97 ⟨by decide, rfl, rfl⟩ (Ct_fl h) (by rw [n0]; exact b0) (fun M21 f21 z21 => ?_)
  have k21 : ∀ o k, o ≠ 126 → M21 o k = M20 o k := fun o k ho => f21 o k (fun z => ho z.1)
  refine hq M21 ⟨fun o k ho => ?_, ⟨fun k hk => ?_, ?_, ?_⟩, fun q => ?_, fun q => ?_, fun q => ?_, fun q => ?_, fun q => ?_, fun q => ?_, fun q => ?_, fun q => ?_, fun q => ?_, fun q => ?_, fun q => ?_⟩
  · rw [k21 o k (by omega), g20 o k (by omega) (by omega)]
  · rw [k21 114 k (by omega), s20]
    have h9 : k = 0 ∨ k = 1 ∨ k = 2 ∨ k = 3 ∨ k = 4 ∨ k = 5 ∨ k = 6 ∨ k = 7 ∨ k = 8 := by omega
    rcases h9 with rfl | rfl | rfl | rfl | rfl | rfl | rfl | rfl | rfl
    · exact v9_0
    · exact v9_1
    · exact v9_2
    · exact v9_3
    · exact v9_4
    · exact v9_5
    · exact v9_6
    · exact v9_7
    · exact v9_8
  · rw [k21 114 25 (by decide), s20]; exact v9_25
  · rw [k21 114 26 (by decide), s20]; exact v9_26
  · rw [k21 115 q (by decide), a20_115 q]
  · rw [k21 116 q (by decide), a20_116 q]
  · rw [k21 117 q (by decide), a20_117 q]
  · rw [k21 118 q (by decide), a20_118 q]
  · rw [k21 119 q (by decide), a20_119 q]
  · rw [k21 120 q (by decide), a20_120 q]
  · rw [k21 121 q (by decide), a20_121 q]
  · rw [k21 122 q (by decide), a20_122 q]
  · rw [k21 123 q (by decide), a20_123 q]
  · rw [k21 124 q (by decide), a20_124 q]
  · rw [k21 125 q (by decide), a20_125 q]
end BecomeO
