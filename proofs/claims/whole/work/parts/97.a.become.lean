/-! ===== the PICTURE is taken ===== -/
section Become
variable {B : WB} {l : Launch} {X : va_W} {i : Nat} {M M' N : Mem} {qo : Nat} {Q : Int → Mem → Prop} {QN : Nat → Mem → Prop} {QV : Mem → Prop} {E : String → Mem → Prop}
theorem cp_o {s sp d dp n o k : Nat} (h : o ≠ d) : cpM M s sp d dp n o k = M o k := by
  unfold cpM
  rw [if_neg (fun z => h z.1)]
theorem cp_at {s d n k : Nat} : cpM M s 0 d 0 n d k = if k < n then M s k else M d k := by
  unfold cpM
  by_cases h : k < n
  · rw [if_pos ⟨rfl, by omega, by omega⟩, if_pos h]
    congr 1
    omega
  · rw [if_neg (fun z => h (by omega)), if_neg h]
/-- heap 97 is heap 80, as far as it is in use -/
def Bcm (M' M : Mem) : Prop :=
  (∀ o k, o < 97 ∨ 109 < o → M' o k = M o k) ∧
  (M' 97 0 = M 80 0 ∧ M' 97 2 = M 80 2 ∧ M' 97 7 = M 80 7 ∧ M' 97 8 = M 80 8 ∧ M' 97 25 = M 97 25 ∧ M' 97 26 = M 97 26) ∧
  (∀ q, M' 98 q = if q < (M 80 0).toNat then M 81 q else M 98 q) ∧ (∀ q, M' 99 q = if q < (M 80 0).toNat then M 82 q else M 99 q) ∧
  (∀ q, M' 100 q = if q < (M 80 0).toNat then M 83 q else M 100 q) ∧ (∀ q, M' 101 q = if q < (M 80 0).toNat then M 84 q else M 101 q) ∧
  (∀ q, M' 104 q = if q < (M 80 1).toNat then M 87 q else M 104 q) ∧ (∀ q, M' 106 q = if q < 72 then M 89 q else M 106 q) ∧
  (∀ q, M' 107 q = if q < (M 80 7).toNat then M 90 q else M 107 q) ∧ (∀ q, M' 108 q = if q < (M 80 8).toNat then M 91 q else M 108 q)
theorem ne_ofr {o d : Nat} (h : o < 98 ∨ 108 < o) (hd : 98 ≤ d ∧ d ≤ 108) : o ≠ d := by omega
theorem bd256 {x : Int} (h : 0 ≤ x ∧ x ≤ 208) : (0 : Int) ≤ 0 ∧ (0 : Int) ≤ 0 ∧ 0 ≤ x ∧ 0 + x ≤ 256 ∧ 0 + x ≤ 256 := by omega
theorem bd2048 {x : Int} (h : 0 ≤ x ∧ x ≤ 1664) : (0 : Int) ≤ 0 ∧ (0 : Int) ≤ 0 ∧ 0 ≤ x ∧ 0 + x ≤ 2048 ∧ 0 + x ≤ 2048 := by omega
set_option maxHeartbeats 8000000 in
theorem ms_become (hl : l.stackTraces = false) (hi : ∀ k, inR (M 80 k)) (b0 : 0 ≤ M 80 0 ∧ M 80 0 ≤ 208) (b1 : 0 ≤ M 80 1 ∧ M 80 1 ≤ 1664) (b7 : 0 ≤ M 80 7 ∧ M 80 7 ≤ 208) (b8 : 0 ≤ M 80 8 ∧ M 80 8 ≤ 208) (hq : ∀ M', Bcm M' M → (∀ q : Nat, (q : Int) < M 80 0 → M' 109 q = 0) → QN 97 M') : OkR B l md_X12_become 0 0 [.ref (ad B 97), .ref (ad B 80)] X M QN NoX := by
  have h97 : isHp 97 := Or.inr (Or.inl rfl)
  refine ok_X12_become hl (fun G h => go_X12_become_0 h h97 (Or.inl rfl) ?_)
  refine fun z1 => ⟨z1, fun M1 e1 => ?_⟩
  have f1 : ∀ o k, o ≠ 97 → M1 o k = M o k := fun o k ho => by rw [e1, up_o ho]
  have v1_0 : M1 97 0 = M 80 0 := by rw [e1, up_s]
  have v1_25 : M1 97 25 = M 97 25 := by rw [e1, up_k (by decide)]
  have v1_26 : M1 97 26 = M 97 26 := by rw [e1, up_k (by decide)]
  refine fun z2 => ⟨z2, fun M2 e2 => ?_⟩
  have f2 : ∀ o k, o ≠ 97 → M2 o k = M o k := fun o k ho => by rw [e2, up_o ho, f1 o k ho]
  have v2_1 : M2 97 1 = M 80 1 := by rw [e2, up_s, f1 80 1 (by decide)]
  have v2_0 : M2 97 0 = M 80 0 := by rw [e2, up_k (by decide), v1_0]
  have v2_25 : M2 97 25 = M 97 25 := by rw [e2, up_k (by decide), v1_25]
  have v2_26 : M2 97 26 = M 97 26 := by rw [e2, up_k (by decide), v1_26]
  refine fun z3 => ⟨z3, fun M3 e3 => ?_⟩
  have f3 : ∀ o k, o ≠ 97 → M3 o k = M o k := fun o k ho => by rw [e3, up_o ho, f2 o k ho]
  have v3_2 : M3 97 2 = M 80 2 := by rw [e3, up_s, f2 80 2 (by decide)]
  have v3_0 : M3 97 0 = M 80 0 := by rw [e3, up_k (by decide), v2_0]
  have v3_1 : M3 97 1 = M 80 1 := by rw [e3, up_k (by decide), v2_1]
  have v3_25 : M3 97 25 = M 97 25 := by rw [e3, up_k (by decide), v2_25]
  have v3_26 : M3 97 26 = M 97 26 := by rw [e3, up_k (by decide), v2_26]
  refine fun z4 => ⟨z4, fun M4 e4 => ?_⟩
  have f4 : ∀ o k, o ≠ 97 → M4 o k = M o k := fun o k ho => by rw [e4, up_o ho, f3 o k ho]
  have v4_0 : M4 97 0 = M 80 0 := by rw [e4, up_k (by decide), v3_0]
  have v4_1 : M4 97 1 = M 80 1 := by rw [e4, up_k (by decide), v3_1]
  have v4_2 : M4 97 2 = M 80 2 := by rw [e4, up_k (by decide), v3_2]
  have v4_25 : M4 97 25 = M 97 25 := by rw [e4, up_k (by decide), v3_25]
  have v4_26 : M4 97 26 = M 97 26 := by rw [e4, up_k (by decide), v3_26]
  refine fun z5 => ⟨z5, fun M5 e5 => ?_⟩
  have f5 : ∀ o k, o ≠ 97 → M5 o k = M o k := fun o k ho => by rw [e5, up_o ho, f4 o k ho]
  have v5_0 : M5 97 0 = M 80 0 := by rw [e5, up_k (by decide), v4_0]
  have v5_1 : M5 97 1 = M 80 1 := by rw [e5, up_k (by decide), v4_1]
  have v5_2 : M5 97 2 = M 80 2 := by rw [e5, up_k (by decide), v4_2]
  have v5_25 : M5 97 25 = M 97 25 := by rw [e5, up_k (by decide), v4_25]
  have v5_26 : M5 97 26 = M 97 26 := by rw [e5, up_k (by decide), v4_26]
  refine fun z6 => ⟨z6, fun M6 e6 => ?_⟩
  have f6 : ∀ o k, o ≠ 97 → M6 o k = M o k := fun o k ho => by rw [e6, up_o ho, f5 o k ho]
  have v6_0 : M6 97 0 = M 80 0 := by rw [e6, up_k (by decide), v5_0]
  have v6_1 : M6 97 1 = M 80 1 := by rw [e6, up_k (by decide), v5_1]
  have v6_2 : M6 97 2 = M 80 2 := by rw [e6, up_k (by decide), v5_2]
  have v6_25 : M6 97 25 = M 97 25 := by rw [e6, up_k (by decide), v5_25]
  have v6_26 : M6 97 26 = M 97 26 := by rw [e6, up_k (by decide), v5_26]
  refine fun z7 => ⟨z7, fun M7 e7 => ?_⟩
  have f7 : ∀ o k, o ≠ 97 → M7 o k = M o k := fun o k ho => by rw [e7, up_o ho, f6 o k ho]
  have v7_0 : M7 97 0 = M 80 0 := by rw [e7, up_k (by decide), v6_0]
  have v7_1 : M7 97 1 = M 80 1 := by rw [e7, up_k (by decide), v6_1]
  have v7_2 : M7 97 2 = M 80 2 := by rw [e7, up_k (by decide), v6_2]
  have v7_25 : M7 97 25 = M 97 25 := by rw [e7, up_k (by decide), v6_25]
  have v7_26 : M7 97 26 = M 97 26 := by rw [e7, up_k (by decide), v6_26]
  refine fun z8 => ⟨z8, fun M8 e8 => ?_⟩
  have f8 : ∀ o k, o ≠ 97 → M8 o k = M o k := fun o k ho => by rw [e8, up_o ho, f7 o k ho]
  have v8_7 : M8 97 7 = M 80 7 := by rw [e8, up_s, f7 80 7 (by decide)]
  have v8_0 : M8 97 0 = M 80 0 := by rw [e8, up_k (by decide), v7_0]
  have v8_1 : M8 97 1 = M 80 1 := by rw [e8, up_k (by decide), v7_1]
  have v8_2 : M8 97 2 = M 80 2 := by rw [e8, up_k (by decide), v7_2]
  have v8_25 : M8 97 25 = M 97 25 := by rw [e8, up_k (by decide), v7_25]
  have v8_26 : M8 97 26 = M 97 26 := by rw [e8, up_k (by decide), v7_26]
  refine fun z9 => ⟨z9, fun M9 e9 => ?_⟩
  have f9 : ∀ o k, o ≠ 97 → M9 o k = M o k := fun o k ho => by rw [e9, up_o ho, f8 o k ho]
  have v9_8 : M9 97 8 = M 80 8 := by rw [e9, up_s, f8 80 8 (by decide)]
  have v9_0 : M9 97 0 = M 80 0 := by rw [e9, up_k (by decide), v8_0]
  have v9_1 : M9 97 1 = M 80 1 := by rw [e9, up_k (by decide), v8_1]
  have v9_2 : M9 97 2 = M 80 2 := by rw [e9, up_k (by decide), v8_2]
  have v9_7 : M9 97 7 = M 80 7 := by rw [e9, up_k (by decide), v8_7]
  have v9_25 : M9 97 25 = M 97 25 := by rw [e9, up_k (by decide), v8_25]
  have v9_26 : M9 97 26 = M 97 26 := by rw [e9, up_k (by decide), v8_26]
  have s9 : ∀ k, M9 97 k = M9 97 k := fun _ => rfl
  have g9 : ∀ o k, 97 ≠ o → (o < 98 ∨ 108 < o) → M9 o k = M o k := fun o k ho _ => f9 o k (fun z => ho z.symm)
  have w10 : M9 97 0 = M 80 0 := by rw [s9]; exact v9_0
  refine fun z10 => ⟨by rw [w10]; exact bd256 b0, fun M10 e10 => ?_⟩
  have e10q : M10 = cpM M9 81 0 98 0 (M 80 0).toNat := by rw [e10, w10]; rfl
  have s10 : ∀ k, M10 97 k = M9 97 k := fun k => by rw [e10q, cp_o (by decide), s9]
  have g10 : ∀ o k, 97 ≠ o → (o < 98 ∨ 108 < o) → M10 o k = M o k := fun o k ho hh => by rw [e10q, cp_o (ne_ofr hh (by decide)), g9 o k ho hh]
  have u10_99 : ∀ q, M10 99 q = M 99 q := fun q => by rw [e10q, cp_o (by decide), f9 99 q (by decide)]
  have u10_100 : ∀ q, M10 100 q = M 100 q := fun q => by rw [e10q, cp_o (by decide), f9 100 q (by decide)]
  have u10_101 : ∀ q, M10 101 q = M 101 q := fun q => by rw [e10q, cp_o (by decide), f9 101 q (by decide)]
  have u10_102 : ∀ q, M10 102 q = M 102 q := fun q => by rw [e10q, cp_o (by decide), f9 102 q (by decide)]
  have u10_103 : ∀ q, M10 103 q = M 103 q := fun q => by rw [e10q, cp_o (by decide), f9 103 q (by decide)]
  have u10_104 : ∀ q, M10 104 q = M 104 q := fun q => by rw [e10q, cp_o (by decide), f9 104 q (by decide)]
  have u10_105 : ∀ q, M10 105 q = M 105 q := fun q => by rw [e10q, cp_o (by decide), f9 105 q (by decide)]
  have u10_106 : ∀ q, M10 106 q = M 106 q := fun q => by rw [e10q, cp_o (by decide), f9 106 q (by decide)]
  have u10_107 : ∀ q, M10 107 q = M 107 q := fun q => by rw [e10q, cp_o (by decide), f9 107 q (by decide)]
  have u10_108 : ∀ q, M10 108 q = M 108 q := fun q => by rw [e10q, cp_o (by decide), f9 108 q (by decide)]
  have a10_98 : ∀ q, M10 98 q = if q < (M 80 0).toNat then M 81 q else M 98 q := fun q => by rw [e10q, cp_at, g9 81 q (by decide) (by decide), f9 98 q (by decide)]
  have w11 : M10 97 0 = M 80 0 := by rw [s10]; exact v9_0
  refine fun z11 => ⟨by rw [w11]; exact bd256 b0, fun M11 e11 => ?_⟩
  have e11q : M11 = cpM M10 82 0 99 0 (M 80 0).toNat := by rw [e11, w11]; rfl
  have s11 : ∀ k, M11 97 k = M9 97 k := fun k => by rw [e11q, cp_o (by decide), s10]
  have g11 : ∀ o k, 97 ≠ o → (o < 98 ∨ 108 < o) → M11 o k = M o k := fun o k ho hh => by rw [e11q, cp_o (ne_ofr hh (by decide)), g10 o k ho hh]
  have a11_98 : ∀ q, M11 98 q = if q < (M 80 0).toNat then M 81 q else M 98 q := fun q => by rw [e11q, cp_o (by decide), a10_98]
  have u11_100 : ∀ q, M11 100 q = M 100 q := fun q => by rw [e11q, cp_o (by decide), u10_100]
  have u11_101 : ∀ q, M11 101 q = M 101 q := fun q => by rw [e11q, cp_o (by decide), u10_101]
  have u11_102 : ∀ q, M11 102 q = M 102 q := fun q => by rw [e11q, cp_o (by decide), u10_102]
  have u11_103 : ∀ q, M11 103 q = M 103 q := fun q => by rw [e11q, cp_o (by decide), u10_103]
  have u11_104 : ∀ q, M11 104 q = M 104 q := fun q => by rw [e11q, cp_o (by decide), u10_104]
  have u11_105 : ∀ q, M11 105 q = M 105 q := fun q => by rw [e11q, cp_o (by decide), u10_105]
  have u11_106 : ∀ q, M11 106 q = M 106 q := fun q => by rw [e11q, cp_o (by decide), u10_106]
  have u11_107 : ∀ q, M11 107 q = M 107 q := fun q => by rw [e11q, cp_o (by decide), u10_107]
  have u11_108 : ∀ q, M11 108 q = M 108 q := fun q => by rw [e11q, cp_o (by decide), u10_108]
  have a11_99 : ∀ q, M11 99 q = if q < (M 80 0).toNat then M 82 q else M 99 q := fun q => by rw [e11q, cp_at, g10 82 q (by decide) (by decide), u10_99]
  have w12 : M11 97 0 = M 80 0 := by rw [s11]; exact v9_0
  refine fun z12 => ⟨by rw [w12]; exact bd256 b0, fun M12 e12 => ?_⟩
  have e12q : M12 = cpM M11 83 0 100 0 (M 80 0).toNat := by rw [e12, w12]; rfl
  have s12 : ∀ k, M12 97 k = M9 97 k := fun k => by rw [e12q, cp_o (by decide), s11]
  have g12 : ∀ o k, 97 ≠ o → (o < 98 ∨ 108 < o) → M12 o k = M o k := fun o k ho hh => by rw [e12q, cp_o (ne_ofr hh (by decide)), g11 o k ho hh]
  have a12_98 : ∀ q, M12 98 q = if q < (M 80 0).toNat then M 81 q else M 98 q := fun q => by rw [e12q, cp_o (by decide), a11_98]
  have a12_99 : ∀ q, M12 99 q = if q < (M 80 0).toNat then M 82 q else M 99 q := fun q => by rw [e12q, cp_o (by decide), a11_99]
  have u12_101 : ∀ q, M12 101 q = M 101 q := fun q => by rw [e12q, cp_o (by decide), u11_101]
  have u12_102 : ∀ q, M12 102 q = M 102 q := fun q => by rw [e12q, cp_o (by decide), u11_102]
  have u12_103 : ∀ q, M12 103 q = M 103 q := fun q => by rw [e12q, cp_o (by decide), u11_103]
  have u12_104 : ∀ q, M12 104 q = M 104 q := fun q => by rw [e12q, cp_o (by decide), u11_104]
  have u12_105 : ∀ q, M12 105 q = M 105 q := fun q => by rw [e12q, cp_o (by decide), u11_105]
  have u12_106 : ∀ q, M12 106 q = M 106 q := fun q => by rw [e12q, cp_o (by decide), u11_106]
  have u12_107 : ∀ q, M12 107 q = M 107 q := fun q => by rw [e12q, cp_o (by decide), u11_107]
  have u12_108 : ∀ q, M12 108 q = M 108 q := fun q => by rw [e12q, cp_o (by decide), u11_108]
  have a12_100 : ∀ q, M12 100 q = if q < (M 80 0).toNat then M 83 q else M 100 q := fun q => by rw [e12q, cp_at, g11 83 q (by decide) (by decide), u11_100]
  have w13 : M12 97 0 = M 80 0 := by rw [s12]; exact v9_0
  refine fun z13 => ⟨by rw [w13]; exact bd256 b0, fun M13 e13 => ?_⟩
  have e13q : M13 = cpM M12 84 0 101 0 (M 80 0).toNat := by rw [e13, w13]; rfl
  have s13 : ∀ k, M13 97 k = M9 97 k := fun k => by rw [e13q, cp_o (by decide), s12]
  have g13 : ∀ o k, 97 ≠ o → (o < 98 ∨ 108 < o) → M13 o k = M o k := fun o k ho hh => by rw [e13q, cp_o (ne_ofr hh (by decide)), g12 o k ho hh]
  have a13_98 : ∀ q, M13 98 q = if q < (M 80 0).toNat then M 81 q else M 98 q := fun q => by rw [e13q, cp_o (by decide), a12_98]
  have a13_99 : ∀ q, M13 99 q = if q < (M 80 0).toNat then M 82 q else M 99 q := fun q => by rw [e13q, cp_o (by decide), a12_99]
  have a13_100 : ∀ q, M13 100 q = if q < (M 80 0).toNat then M 83 q else M 100 q := fun q => by rw [e13q, cp_o (by decide), a12_100]
  have u13_102 : ∀ q, M13 102 q = M 102 q := fun q => by rw [e13q, cp_o (by decide), u12_102]
  have u13_103 : ∀ q, M13 103 q = M 103 q := fun q => by rw [e13q, cp_o (by decide), u12_103]
  have u13_104 : ∀ q, M13 104 q = M 104 q := fun q => by rw [e13q, cp_o (by decide), u12_104]
  have u13_105 : ∀ q, M13 105 q = M 105 q := fun q => by rw [e13q, cp_o (by decide), u12_105]
  have u13_106 : ∀ q, M13 106 q = M 106 q := fun q => by rw [e13q, cp_o (by decide), u12_106]
  have u13_107 : ∀ q, M13 107 q = M 107 q := fun q => by rw [e13q, cp_o (by decide), u12_107]
  have u13_108 : ∀ q, M13 108 q = M 108 q := fun q => by rw [e13q, cp_o (by decide), u12_108]
  have a13_101 : ∀ q, M13 101 q = if q < (M 80 0).toNat then M 84 q else M 101 q := fun q => by rw [e13q, cp_at, g12 84 q (by decide) (by decide), u12_101]
  have w14 : M13 97 0 = M 80 0 := by rw [s13]; exact v9_0
  refine fun z14 => ⟨by rw [w14]; exact bd256 b0, fun M14 e14 => ?_⟩
  have e14q : M14 = cpM M13 85 0 102 0 (M 80 0).toNat := by rw [e14, w14]; rfl
  have s14 : ∀ k, M14 97 k = M9 97 k := fun k => by rw [e14q, cp_o (by decide), s13]
  have g14 : ∀ o k, 97 ≠ o → (o < 98 ∨ 108 < o) → M14 o k = M o k := fun o k ho hh => by rw [e14q, cp_o (ne_ofr hh (by decide)), g13 o k ho hh]
  have a14_98 : ∀ q, M14 98 q = if q < (M 80 0).toNat then M 81 q else M 98 q := fun q => by rw [e14q, cp_o (by decide), a13_98]
  have a14_99 : ∀ q, M14 99 q = if q < (M 80 0).toNat then M 82 q else M 99 q := fun q => by rw [e14q, cp_o (by decide), a13_99]
  have a14_100 : ∀ q, M14 100 q = if q < (M 80 0).toNat then M 83 q else M 100 q := fun q => by rw [e14q, cp_o (by decide), a13_100]
  have a14_101 : ∀ q, M14 101 q = if q < (M 80 0).toNat then M 84 q else M 101 q := fun q => by rw [e14q, cp_o (by decide), a13_101]
  have u14_103 : ∀ q, M14 103 q = M 103 q := fun q => by rw [e14q, cp_o (by decide), u13_103]
  have u14_104 : ∀ q, M14 104 q = M 104 q := fun q => by rw [e14q, cp_o (by decide), u13_104]
  have u14_105 : ∀ q, M14 105 q = M 105 q := fun q => by rw [e14q, cp_o (by decide), u13_105]
  have u14_106 : ∀ q, M14 106 q = M 106 q := fun q => by rw [e14q, cp_o (by decide), u13_106]
  have u14_107 : ∀ q, M14 107 q = M 107 q := fun q => by rw [e14q, cp_o (by decide), u13_107]
  have u14_108 : ∀ q, M14 108 q = M 108 q := fun q => by rw [e14q, cp_o (by decide), u13_108]
  have w15 : M14 97 0 = M 80 0 := by rw [s14]; exact v9_0
  refine fun z15 => ⟨by rw [w15]; exact bd256 b0, fun M15 e15 => ?_⟩
  have e15q : M15 = cpM M14 86 0 103 0 (M 80 0).toNat := by rw [e15, w15]; rfl
  have s15 : ∀ k, M15 97 k = M9 97 k := fun k => by rw [e15q, cp_o (by decide), s14]
  have g15 : ∀ o k, 97 ≠ o → (o < 98 ∨ 108 < o) → M15 o k = M o k := fun o k ho hh => by rw [e15q, cp_o (ne_ofr hh (by decide)), g14 o k ho hh]
  have a15_98 : ∀ q, M15 98 q = if q < (M 80 0).toNat then M 81 q else M 98 q := fun q => by rw [e15q, cp_o (by decide), a14_98]
  have a15_99 : ∀ q, M15 99 q = if q < (M 80 0).toNat then M 82 q else M 99 q := fun q => by rw [e15q, cp_o (by decide), a14_99]
  have a15_100 : ∀ q, M15 100 q = if q < (M 80 0).toNat then M 83 q else M 100 q := fun q => by rw [e15q, cp_o (by decide), a14_100]
  have a15_101 : ∀ q, M15 101 q = if q < (M 80 0).toNat then M 84 q else M 101 q := fun q => by rw [e15q, cp_o (by decide), a14_101]
  have u15_104 : ∀ q, M15 104 q = M 104 q := fun q => by rw [e15q, cp_o (by decide), u14_104]
  have u15_105 : ∀ q, M15 105 q = M 105 q := fun q => by rw [e15q, cp_o (by decide), u14_105]
  have u15_106 : ∀ q, M15 106 q = M 106 q := fun q => by rw [e15q, cp_o (by decide), u14_106]
  have u15_107 : ∀ q, M15 107 q = M 107 q := fun q => by rw [e15q, cp_o (by decide), u14_107]
  have u15_108 : ∀ q, M15 108 q = M 108 q := fun q => by rw [e15q, cp_o (by decide), u14_108]
  have w16 : M15 97 1 = M 80 1 := by rw [s15]; exact v9_1
  refine fun z16 => ⟨by rw [w16]; exact bd2048 b1, fun M16 e16 => ?_⟩
  have e16q : M16 = cpM M15 87 0 104 0 (M 80 1).toNat := by rw [e16, w16]; rfl
  have s16 : ∀ k, M16 97 k = M9 97 k := fun k => by rw [e16q, cp_o (by decide), s15]
  have g16 : ∀ o k, 97 ≠ o → (o < 98 ∨ 108 < o) → M16 o k = M o k := fun o k ho hh => by rw [e16q, cp_o (ne_ofr hh (by decide)), g15 o k ho hh]
  have a16_98 : ∀ q, M16 98 q = if q < (M 80 0).toNat then M 81 q else M 98 q := fun q => by rw [e16q, cp_o (by decide), a15_98]
  have a16_99 : ∀ q, M16 99 q = if q < (M 80 0).toNat then M 82 q else M 99 q := fun q => by rw [e16q, cp_o (by decide), a15_99]
  have a16_100 : ∀ q, M16 100 q = if q < (M 80 0).toNat then M 83 q else M 100 q := fun q => by rw [e16q, cp_o (by decide), a15_100]
  have a16_101 : ∀ q, M16 101 q = if q < (M 80 0).toNat then M 84 q else M 101 q := fun q => by rw [e16q, cp_o (by decide), a15_101]
  have u16_105 : ∀ q, M16 105 q = M 105 q := fun q => by rw [e16q, cp_o (by decide), u15_105]
  have u16_106 : ∀ q, M16 106 q = M 106 q := fun q => by rw [e16q, cp_o (by decide), u15_106]
  have u16_107 : ∀ q, M16 107 q = M 107 q := fun q => by rw [e16q, cp_o (by decide), u15_107]
  have u16_108 : ∀ q, M16 108 q = M 108 q := fun q => by rw [e16q, cp_o (by decide), u15_108]
  have a16_104 : ∀ q, M16 104 q = if q < (M 80 1).toNat then M 87 q else M 104 q := fun q => by rw [e16q, cp_at, g15 87 q (by decide) (by decide), u15_104]
  refine ⟨by decide, fun M17 e17 => ?_⟩
  have e17q : M17 = cpM M16 88 0 105 0 8 := e17
  have s17 : ∀ k, M17 97 k = M9 97 k := fun k => by rw [e17q, cp_o (by decide), s16]
  have g17 : ∀ o k, 97 ≠ o → (o < 98 ∨ 108 < o) → M17 o k = M o k := fun o k ho hh => by rw [e17q, cp_o (ne_ofr hh (by decide)), g16 o k ho hh]
  have a17_98 : ∀ q, M17 98 q = if q < (M 80 0).toNat then M 81 q else M 98 q := fun q => by rw [e17q, cp_o (by decide), a16_98]
  have a17_99 : ∀ q, M17 99 q = if q < (M 80 0).toNat then M 82 q else M 99 q := fun q => by rw [e17q, cp_o (by decide), a16_99]
  have a17_100 : ∀ q, M17 100 q = if q < (M 80 0).toNat then M 83 q else M 100 q := fun q => by rw [e17q, cp_o (by decide), a16_100]
  have a17_101 : ∀ q, M17 101 q = if q < (M 80 0).toNat then M 84 q else M 101 q := fun q => by rw [e17q, cp_o (by decide), a16_101]
  have a17_104 : ∀ q, M17 104 q = if q < (M 80 1).toNat then M 87 q else M 104 q := fun q => by rw [e17q, cp_o (by decide), a16_104]
  have u17_106 : ∀ q, M17 106 q = M 106 q := fun q => by rw [e17q, cp_o (by decide), u16_106]
  have u17_107 : ∀ q, M17 107 q = M 107 q := fun q => by rw [e17q, cp_o (by decide), u16_107]
  have u17_108 : ∀ q, M17 108 q = M 108 q := fun q => by rw [e17q, cp_o (by decide), u16_108]
  refine ⟨by decide, fun M18 e18 => ?_⟩
  have e18q : M18 = cpM M17 89 0 106 0 72 := e18
  have s18 : ∀ k, M18 97 k = M9 97 k := fun k => by rw [e18q, cp_o (by decide), s17]
  have g18 : ∀ o k, 97 ≠ o → (o < 98 ∨ 108 < o) → M18 o k = M o k := fun o k ho hh => by rw [e18q, cp_o (ne_ofr hh (by decide)), g17 o k ho hh]
  have a18_98 : ∀ q, M18 98 q = if q < (M 80 0).toNat then M 81 q else M 98 q := fun q => by rw [e18q, cp_o (by decide), a17_98]
  have a18_99 : ∀ q, M18 99 q = if q < (M 80 0).toNat then M 82 q else M 99 q := fun q => by rw [e18q, cp_o (by decide), a17_99]
  have a18_100 : ∀ q, M18 100 q = if q < (M 80 0).toNat then M 83 q else M 100 q := fun q => by rw [e18q, cp_o (by decide), a17_100]
  have a18_101 : ∀ q, M18 101 q = if q < (M 80 0).toNat then M 84 q else M 101 q := fun q => by rw [e18q, cp_o (by decide), a17_101]
  have a18_104 : ∀ q, M18 104 q = if q < (M 80 1).toNat then M 87 q else M 104 q := fun q => by rw [e18q, cp_o (by decide), a17_104]
  have u18_107 : ∀ q, M18 107 q = M 107 q := fun q => by rw [e18q, cp_o (by decide), u17_107]
  have u18_108 : ∀ q, M18 108 q = M 108 q := fun q => by rw [e18q, cp_o (by decide), u17_108]
  have a18_106 : ∀ q, M18 106 q = if q < 72 then M 89 q else M 106 q := fun q => by rw [e18q, cp_at, g17 89 q (by decide) (by decide), u17_106]
  have w19 : M18 97 7 = M 80 7 := by rw [s18]; exact v9_7
  refine fun z19 => ⟨by rw [w19]; exact bd256 b7, fun M19 e19 => ?_⟩
  have e19q : M19 = cpM M18 90 0 107 0 (M 80 7).toNat := by rw [e19, w19]; rfl
  have s19 : ∀ k, M19 97 k = M9 97 k := fun k => by rw [e19q, cp_o (by decide), s18]
  have g19 : ∀ o k, 97 ≠ o → (o < 98 ∨ 108 < o) → M19 o k = M o k := fun o k ho hh => by rw [e19q, cp_o (ne_ofr hh (by decide)), g18 o k ho hh]
  have a19_98 : ∀ q, M19 98 q = if q < (M 80 0).toNat then M 81 q else M 98 q := fun q => by rw [e19q, cp_o (by decide), a18_98]
  have a19_99 : ∀ q, M19 99 q = if q < (M 80 0).toNat then M 82 q else M 99 q := fun q => by rw [e19q, cp_o (by decide), a18_99]
  have a19_100 : ∀ q, M19 100 q = if q < (M 80 0).toNat then M 83 q else M 100 q := fun q => by rw [e19q, cp_o (by decide), a18_100]
  have a19_101 : ∀ q, M19 101 q = if q < (M 80 0).toNat then M 84 q else M 101 q := fun q => by rw [e19q, cp_o (by decide), a18_101]
  have a19_104 : ∀ q, M19 104 q = if q < (M 80 1).toNat then M 87 q else M 104 q := fun q => by rw [e19q, cp_o (by decide), a18_104]
  have a19_106 : ∀ q, M19 106 q = if q < 72 then M 89 q else M 106 q := fun q => by rw [e19q, cp_o (by decide), a18_106]
  have u19_108 : ∀ q, M19 108 q = M 108 q := fun q => by rw [e19q, cp_o (by decide), u18_108]
  have a19_107 : ∀ q, M19 107 q = if q < (M 80 7).toNat then M 90 q else M 107 q := fun q => by rw [e19q, cp_at, g18 90 q (by decide) (by decide), u18_107]
  have w20 : M19 97 8 = M 80 8 := by rw [s19]; exact v9_8
  refine fun z20 => ⟨by rw [w20]; exact bd256 b8, fun M20 e20 => ?_⟩
  have e20q : M20 = cpM M19 91 0 108 0 (M 80 8).toNat := by rw [e20, w20]; rfl
  have s20 : ∀ k, M20 97 k = M9 97 k := fun k => by rw [e20q, cp_o (by decide), s19]
  have g20 : ∀ o k, 97 ≠ o → (o < 98 ∨ 108 < o) → M20 o k = M o k := fun o k ho hh => by rw [e20q, cp_o (ne_ofr hh (by decide)), g19 o k ho hh]
  have a20_98 : ∀ q, M20 98 q = if q < (M 80 0).toNat then M 81 q else M 98 q := fun q => by rw [e20q, cp_o (by decide), a19_98]
  have a20_99 : ∀ q, M20 99 q = if q < (M 80 0).toNat then M 82 q else M 99 q := fun q => by rw [e20q, cp_o (by decide), a19_99]
  have a20_100 : ∀ q, M20 100 q = if q < (M 80 0).toNat then M 83 q else M 100 q := fun q => by rw [e20q, cp_o (by decide), a19_100]
  have a20_101 : ∀ q, M20 101 q = if q < (M 80 0).toNat then M 84 q else M 101 q := fun q => by rw [e20q, cp_o (by decide), a19_101]
  have a20_104 : ∀ q, M20 104 q = if q < (M 80 1).toNat then M 87 q else M 104 q := fun q => by rw [e20q, cp_o (by decide), a19_104]
  have a20_106 : ∀ q, M20 106 q = if q < 72 then M 89 q else M 106 q := fun q => by rw [e20q, cp_o (by decide), a19_106]
  have a20_107 : ∀ q, M20 107 q = if q < (M 80 7).toNat then M 90 q else M 107 q := fun q => by rw [e20q, cp_o (by decide), a19_107]
  have a20_108 : ∀ q, M20 108 q = if q < (M 80 8).toNat then M 91 q else M 108 q := fun q => by rw [e20q, cp_at, g19 91 q (by decide) (by decide), u19_108]
  have n0 : M20 97 0 = M 80 0 := by rw [s20]; exact v9_0
  refine ms_none h97 ⟨by decide, rfl, rfl⟩ (Ct_fl h) (by rw [n0]; exact b0) (fun M21 f21 z21 => ?_)
  have k21 : ∀ o k, o ≠ 109 → M21 o k = M20 o k := fun o k ho => f21 o k (fun z => ho z.1)
  refine hq M21 ⟨fun o k ho => ?_, ⟨?_, ?_, ?_, ?_, ?_, ?_⟩, fun q => ?_, fun q => ?_, fun q => ?_, fun q => ?_, fun q => ?_, fun q => ?_, fun q => ?_, fun q => ?_⟩ (fun q hq0 => z21 q (by rw [n0]; exact hq0))
  · rw [k21 o k (by omega), g20 o k (by omega) (by omega)]
  · rw [k21 97 0 (by decide), s20]; exact v9_0
  · rw [k21 97 2 (by decide), s20]; exact v9_2
  · rw [k21 97 7 (by decide), s20]; exact v9_7
  · rw [k21 97 8 (by decide), s20]; exact v9_8
  · rw [k21 97 25 (by decide), s20]; exact v9_25
  · rw [k21 97 26 (by decide), s20]; exact v9_26
  · rw [k21 98 q (by decide), a20_98 q]
  · rw [k21 99 q (by decide), a20_99 q]
  · rw [k21 100 q (by decide), a20_100 q]
  · rw [k21 101 q (by decide), a20_101 q]
  · rw [k21 104 q (by decide), a20_104 q]
  · rw [k21 106 q (by decide), a20_106 q]
  · rw [k21 107 q (by decide), a20_107 q]
  · rw [k21 108 q (by decide), a20_108 q]
end Become
