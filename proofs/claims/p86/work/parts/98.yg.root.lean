section Root
variable {G : GT} {b L : Nat} {xs : Nat → Int32}
/- room for calls that take none -/
theorem k0_of (hz : Lz G b L xs) {k n : Nat} (h : k ≤ 600104 ∧ n ≤ 7301314) : k + 0 ≤ (gR G).cells ∧ n + 0 ≤ (gR G).slots := kl hz h.1 h.2
theorem bud_s {a r k K : Nat} (h : k + a * (r + 1) = K) : (k + a) + a * r = K := by rw [← h, Nat.mul_succ]; omega
theorem bud_1 {a r k K X : Nat} (h : k + a * (r + 1) = K) (hX : K ≤ X) : k + a ≤ X := by have h1 := bud_s h; omega
theorem bud_0 {a r k K X : Nat} (h : k + a * r = K) (hX : K ≤ X) : k ≤ X := by omega
theorem bud_z {a k K : Nat} (h : k + a * 0 = K) : k = K := h
/-- the class and the law's own memory stand alike -/
def Rel (i : Nat) (S : Sh) (D N : Mem) (c : SC) : Prop := SOK S D ∧ Inv i N ∧ SR N S D c ∧ 1 ≤ N 72 1
/- nine deeds -/
set_option maxHeartbeats 4000000 in
theorem rt_54 (hC : Cx G md_law) (hfl : (gl G).stackTraces = false) (hz : Lz G b L xs) (hsx : Sx G b L xs) {c : SC} {t i0 K Nn : Nat} {x4 : Int} (ht : t < 8) (hi0 : i0 ≤ 300) (hK : K ≤ 600104) (hNn : Nn ≤ 7301314) (kk : ∀ S D N, Rel (i0 + 18) S D N c → V G md_law K Nn (dl (gB G) S D) N 100 [(4, .int (I x4)), (3, .int (I (t : Int))), (2, rv (s_m c)), (1, .ref (ad (gB G) 0)), (0, .ref b)] []) : ∀ (r j : Nat), j + r = 9 → ∀ (k n : Nat) (S : Sh) (D N : Mem), k + 2202 * r = K → n + 40014 * r = Nn → Rel (i0 + 2 * j) S D N c → V G md_law k n (dl (gB G) S D) N 54 [(5, .int (I (j : Int))), (4, .int (I x4)), (3, .int (I (t : Int))), (2, rv (s_m c)), (1, .ref (ad (gB G) 0)), (0, .ref b)] [] := by
  intro r
  induction r with
  | zero =>
    intro j hj k n S D N hk hn h
    have hj : j = 9 := hj
    subst hj
    refine V_iload hC 0 rfl dL_law_54 ?_
    refine V_bipush hC (d := dL_law_56) rfl ?_
    refine V_icmp_ge hC 100 rfl dL_law_58 ⟨⟨by omega, by omega⟩, ⟨by decide, by decide⟩, fun _ => ?_, fun z => absurd z (by omega)⟩
    rw [bud_z hk, bud_z hn]
    exact V_sub [1, 2, 3, 4, 5] rfl (kk S D N h)
  | succ r ih =>
    intro j hj k n S D N hk hn h
    obtain ⟨hS, hI, hR, hk1⟩ := h
    have hk0 := k0_of hz ⟨bud_0 hk hK, bud_0 hn hNn⟩
    refine V_iload hC 0 rfl dL_law_54 ?_
    refine V_bipush hC (d := dL_law_56) rfl ?_
    refine V_icmp_ge hC 100 rfl dL_law_58 ⟨⟨by omega, by omega⟩, ⟨by decide, by decide⟩, fun z => absurd z (by omega), fun _ => ?_⟩
    refine V_aload_n hC 4 rfl dL_law_61 ?_
    refine V_qload_n hC 3 rfl dL_law_62 ?_
    refine V_aload_n hC 5 rfl dL_law_63 ?_
    refine V_iload hC 0 rfl dL_law_64 ?_
    refine V_iload_n hC 2 rfl dL_law_66 ?_
    refine V_iadd hC dL_law_67 ?_
    refine V_uSX hC hsx (As := [_, _]) ls_L_205 dL_law_68 (d0 := 60) (by decide) (Rm_law hz) rfl (c1_sum (And.intro (rv_cat _) (And.intro rfl trivial)) (Nat.le_of_ble_eq_true rfl)) hk0 hS (w_cell hfl ⟨by omega, by omega⟩ (Q := fun r => inR r) (fun r hr => hr)) (fun v9 S9 D9 M9 q9 hX9 hS => ?_)
    obtain ⟨rfl, rfl, rfl, r1, ⟨rfl, -⟩, -⟩ := q9
    show V _ _ _ _ _ _ _ _ (.int (I r1) :: _)
    refine V_bipush hC (d := dL_law_71) rfl ?_
    refine V_iload hC 0 rfl dL_law_73 ?_
    refine V_imul hC dL_law_75 ?_
    refine V_iadd hC dL_law_76 ?_
    refine V_sipush hC (d := dL_law_77) rfl ?_
    refine V_iload_n hC 2 rfl dL_law_80 ?_
    refine V_imul hC dL_law_81 ?_
    refine V_iadd hC dL_law_82 ?_
    refine V_bipush hC (d := dL_law_83) rfl ?_
    refine V_iadd hC dL_law_85 ?_
    refine V_uS hC (As := [_, _, _]) ls_L_209 dL_law_86 (d0 := 60) (by decide) (Rm_law hz) rfl (Nat.le_of_ble_eq_true rfl) (kl hz (bud_1 hk hK) (bud_1 hn hNn)) hS (w_act hfl (fun _ _ _ => rfl) hI hR (by omega) hk1 (Q := fun r S1 D1 M1 => r = 1 ∧ ∃ N9, Eq72 N9 M1 ∧ Inv (i0 + 2 * j + 2) N9 ∧ SR N9 S1 D1 c ∧ 1 ≤ N9 72 1) (fun S1 D1 M1 N9 a1 a2 a3 a4 a5 => ⟨rfl, N9, a2, a3, a4, Int.le_trans hk1 a5⟩)) (fun v9 S1 D1 M1 q9 hX9 hS1 => ?_)
    obtain ⟨r9, ⟨rfl, -⟩, rfl, N9, hE9, hI9, hR9, hk9⟩ := q9
    refine V_swap hE9 ?_
    show V _ _ _ _ _ _ _ _ (.int (I 1) :: _)
    refine V_if_ne hC 94 rfl dL_law_89 ⟨⟨by decide, by decide⟩, fun _ => ?_, fun z => absurd z (by decide)⟩
    refine V_iinc hC (lv' := [(5, .int (I ((j : Int) + 1))), (4, .int (I x4)), (3, .int (I (t : Int))), (2, rv (s_m c)), (1, .ref (ad (gB G) 0)), (0, .ref b)]) 0 rfl (Nat.le_of_ble_eq_true rfl) rfl dL_law_94 ?_
    refine V_goto hC 54 rfl dL_law_97 ?_
    exact ih (j + 1) (by omega) (k + 2202) (n + 40014) S1 D1 N9 (bud_s hk) (bud_s hn) ⟨hS1, hI9, hR9, hk9⟩
/- to the loop's head -/
/- marked -/
set_option maxHeartbeats 4000000 in
theorem rt_166 (hC : Cx G md_law) (hfl : (gl G).stackTraces = false) (hz : Lz G b L xs) {c : SC} {t i k n : Nat} {x4 x7 : Int} {S : Sh} {D N : Mem} (hi : i + 1 ≤ 203) (h : Rel i S D N c) (off : N 72 10 = 0) (hk : k + 625 ≤ 600104 ∧ n + 130120 ≤ 7301314) (kk : ∀ S D N, Rel (i + 1) S D N c → V G md_law (k + 625) (n + 130120) (dl (gB G) S D) N 187 [(3, .int (I (t : Int))), (2, rv (s_m c)), (1, .ref (ad (gB G) 0)), (0, .ref b)] []) : V G md_law k n (dl (gB G) S D) N 166 [(7, .int (I x7)), (4, .int (I x4)), (3, .int (I (t : Int))), (2, rv (s_m c)), (1, .ref (ad (gB G) 0)), (0, .ref b)] [] := by
  obtain ⟨hS, hI, hR, hk1⟩ := h
  have hk0 := k0_of hz (k := k) (n := n) ⟨by omega, by omega⟩
  have hb2 : N 80 2 ≤ 300 * (i : Int) := hI.ob.2.2.1.2.2
  refine V_aload_n hC 4 rfl dL_law_166 ?_
  refine V_qload_n hC 3 rfl dL_law_167 ?_
  refine V_iconst hC dL_law_168 ?_
  refine V_iload hC 1 rfl dL_law_169 ?_
  refine V_iconst hC dL_law_171 ?_
  refine V_ishr hC dL_law_172 (fun z9 h9 => ?_)
  refine V_bipush hC (d := dL_law_173) rfl ?_
  refine V_uS hC (As := [_, _]) ls_L_169 dL_law_175 (d0 := 60) (by decide) (Rm_law hz) rfl (c1_sum (And.intro rfl (And.intro (rv_cat _) (And.intro rfl trivial))) (Nat.le_of_ble_eq_true rfl)) hk0 hS (w_below hfl (by decide) (by decide) (Q := fun r => 0 ≤ r ∧ r < 50) (fun r a1 a2 => ⟨a1, a2⟩)) (fun v9 S9 D9 M9 q9 hX9 hS => ?_)
  obtain ⟨rfl, rfl, rfl, r1, ⟨rfl, -⟩, h1⟩ := q9
  show V _ _ _ _ _ _ _ _ (.int (I r1) :: _)
  refine V_iadd hC dL_law_178 ?_
  refine V_uS hC (As := [_, _, _]) ls_L_343 dL_law_179 (d0 := 60) (by decide) (Rm_law hz) rfl (Nat.le_of_ble_eq_true rfl) (kl hz hk.1 hk.2) hS (w_isMarked hfl hI (by omega) off hR ⟨by omega, by omega⟩ (Nat.le_refl 625) (show (N 80 2).toNat + 8320 ≤ 130120 by omega) (Q := fun r S1 D1 M1 => r = 1 ∧ ∃ N9, Eq72 N9 M1 ∧ Inv (i + 1) N9 ∧ SR N9 S1 D1 c ∧ 1 ≤ N9 72 1) (fun S1 D1 M1 N9 a1 a2 a3 a4 a5 => ⟨rfl, N9, a2, a3, a4, by rw [a5]; exact hk1⟩)) (fun v9 S1 D1 M1 q9 hX9 hS1 => ?_)
  obtain ⟨r9, ⟨rfl, -⟩, rfl, N9, hE9, hI9, hR9, hk9⟩ := q9
  refine V_swap hE9 ?_
  show V _ _ _ _ _ _ _ _ (.int (I 1) :: _)
  refine V_if_ne hC 187 rfl dL_law_182 ⟨⟨by decide, by decide⟩, fun _ => ?_, fun z => absurd z (by decide)⟩
  exact V_sub [2, 3, 4, 5] rfl (kk S1 D1 N9 ⟨hS1, hI9, hR9, hk9⟩)
theorem rel_up {i : Nat} {S : Sh} {D N : Mem} {c : SC} (h : Rel i S D N c) : Rel (i + 1) S D N c := ⟨h.1, inv_keep _ _ h.2.1, h.2.2⟩
/- collected, or marked, or neither -/
set_option maxHeartbeats 4000000 in
theorem rt_135 (hC : Cx G md_law) (hfl : (gl G).stackTraces = false) (hz : Lz G b L xs) {c : SC} {t i k n : Nat} {x4 : Int} {S : Sh} {D N : Mem} (hi : i + 1 ≤ 203) (h : Rel i S D N c) (off : N 72 10 = 0) (hk : k + 625 ≤ 600104 ∧ n + 130120 ≤ 7301314) (kk : ∀ S D N, Rel (i + 1) S D N c → V G md_law (k + 625) (n + 130120) (dl (gB G) S D) N 187 [(3, .int (I (t : Int))), (2, rv (s_m c)), (1, .ref (ad (gB G) 0)), (0, .ref b)] []) : V G md_law k n (dl (gB G) S D) N 135 [(4, .int (I x4)), (3, .int (I (t : Int))), (2, rv (s_m c)), (1, .ref (ad (gB G) 0)), (0, .ref b)] [] := by
  obtain ⟨hS, hI, hR, hk1⟩ := h
  have hk0 := k0_of hz (k := k) (n := n) ⟨by omega, by omega⟩
  have hb2 : N 80 2 ≤ 300 * (i : Int) := hI.ob.2.2.1.2.2
  refine V_iload hC 0 rfl dL_law_135 ?_
  refine V_bipush hC (d := dL_law_137) rfl ?_
  refine V_uS hC (As := [_, _]) ls_L_169 dL_law_139 (d0 := 60) (by decide) (Rm_law hz) rfl (Nat.le_of_ble_eq_true rfl) hk0 hS (w_below hfl (by decide) (by decide) (Q := fun r => 0 ≤ r ∧ r < 6) (fun r a1 a2 => ⟨a1, a2⟩)) (fun v9 S9 D9 M9 q9 hX9 hS => ?_)
  obtain ⟨rfl, rfl, rfl, x7, ⟨rfl, -⟩, h1⟩ := q9
  show V _ _ _ _ _ _ _ _ (.int (I x7) :: _)
  refine V_istore hC (lv' := [(7, .int (I x7)), (4, .int (I x4)), (3, .int (I (t : Int))), (2, rv (s_m c)), (1, .ref (ad (gB G) 0)), (0, .ref b)]) (Nat.le_of_ble_eq_true rfl) rfl dL_law_142 ?_
  refine V_iload hC 0 rfl dL_law_144 ?_
  refine V_iconst hC dL_law_146 ?_
  refine V_icmp_ge hC 160 rfl dL_law_147 ⟨⟨by omega, by omega⟩, ⟨by decide, by decide⟩, fun z => ?_, fun z => ?_⟩
  · -- not collected
    refine V_iload hC 0 rfl dL_law_160 ?_
    refine V_iconst hC dL_law_162 ?_
    refine V_icmp_ne hC 187 rfl dL_law_163 ⟨⟨by omega, by omega⟩, ⟨by decide, by decide⟩, fun z2 => ?_, fun z2 => ?_⟩
    · exact V_widen (Nat.le_add_right _ _) (Nat.le_add_right _ _) (V_sub [2, 3, 4, 5] rfl (kk S D N (rel_up ⟨hS, hI, hR, hk1⟩)))
    · exact rt_166 hC hfl hz hi ⟨hS, hI, hR, hk1⟩ off hk kk
  · refine V_aload_n hC 4 rfl dL_law_150 ?_
    refine V_qload_n hC 3 rfl dL_law_151 ?_
    refine V_iload hC 0 rfl dL_law_152 ?_
    refine V_uS hC (As := [_, _, _]) ls_L_340 dL_law_154 (d0 := 60) (by decide) (Rm_law hz) rfl (Nat.le_of_ble_eq_true rfl) (kl hz hk.1 hk.2) hS (w_isCollected hfl hI (by omega) off hR ⟨by omega, by omega⟩ (show 2 ≤ 625 by decide) (show 2 * (N 80 2).toNat ≤ 130120 by omega) (Q := fun r S1 D1 M1 => r = 1 ∧ ∃ N9, Eq72 N9 M1 ∧ Inv (i + 1) N9 ∧ SR N9 S1 D1 c ∧ 1 ≤ N9 72 1) (fun S1 D1 M1 N9 a1 a2 a3 a4 a5 => ⟨rfl, N9, a2, a3, a4, by rw [a5]; exact hk1⟩)) (fun v9 S1 D1 M1 q9 hX9 hS1 => ?_)
    obtain ⟨r9, ⟨rfl, -⟩, rfl, N9, hE9, hI9, hR9, hk9⟩ := q9
    refine V_swap hE9 ?_
    show V _ _ _ _ _ _ _ _ (.int (I 1) :: _)
    refine V_if_eq hC 185 rfl dL_law_157 ⟨⟨by decide, by decide⟩, fun z2 => absurd z2 (by decide), fun _ => ?_⟩
    refine V_iload hC 0 rfl dL_law_160 ?_
    refine V_iconst hC dL_law_162 ?_
    refine V_icmp_ne hC 187 rfl dL_law_163 ⟨⟨by omega, by omega⟩, ⟨by decide, by decide⟩, fun z2 => ?_, fun z2 => absurd z2 (by omega)⟩
    exact V_sub [2, 3, 4, 5] rfl (kk S1 D1 N9 ⟨hS1, hI9, hR9, hk9⟩)
/- the digest stands, the picture is sound -/
set_option maxHeartbeats 4000000 in
theorem rt_100 (hC : Cx G md_law) (hfl : (gl G).stackTraces = false) (hz : Lz G b L xs) {c : SC} {t i k n : Nat} {x4 : Int} {S : Sh} {D N : Mem} (hi : i + 1 ≤ 203) (h : Rel i S D N c) (hk : k + 625 ≤ 600104 ∧ n + 130120 ≤ 7301314) (kk : ∀ S D N, Rel (i + 1) S D N c → V G md_law (k + 625) (n + 130120) (dl (gB G) S D) N 187 [(3, .int (I (t : Int))), (2, rv (s_m c)), (1, .ref (ad (gB G) 0)), (0, .ref b)] []) : V G md_law k n (dl (gB G) S D) N 100 [(4, .int (I x4)), (3, .int (I (t : Int))), (2, rv (s_m c)), (1, .ref (ad (gB G) 0)), (0, .ref b)] [] := by
  obtain ⟨hS, hI, hR, hk1⟩ := h
  have hk0 := kl hz (k := k) (n := n) (by omega) (by omega)
  refine V_aload_n hC 3 rfl dL_law_100 ?_
  refine V_mL hC (As := []) lv_L_332 dL_law_101 (d0 := 60) (by decide) (Rm_law hz) rv_0 rfl (Nat.le_of_ble_eq_true rfl) hk0 (cs_digest hfl hI (QL := fun y M1 => y = dgV N ∧ Inv i M1 ∧ Agr rel M1 N) (fun M1 a1 a2 => ⟨rfl, a1, a2⟩)) (fun y M1 q => ?_)
  obtain ⟨rfl, hI1, g1⟩ := q
  refine V_lstore hC (lv' := [(5, .long (dgV N)), (4, .int (I x4)), (3, .int (I (t : Int))), (2, rv (s_m c)), (1, .ref (ad (gB G) 0)), (0, .ref b)]) (Nat.le_of_ble_eq_true rfl) rfl dL_law_104 ?_
  refine V_aload_n hC 4 rfl dL_law_106 ?_
  refine V_uS hC (As := [_]) ls_L_336 dL_law_107 (d0 := 60) (by decide) (Rm_law hz) rfl (Nat.le_of_ble_eq_true rfl) hk0 hS (w_isSound hfl hI1 (by omega) (Q := fun r M2 => r = 1 ∧ Inv i M2 ∧ Agr rel M2 M1) (fun M2 a1 a2 => ⟨rfl, a1, a2⟩)) (fun v9 S9 D9 M2 q9 hX9 hS => ?_)
  obtain ⟨rfl, rfl, r9, ⟨rfl, -⟩, rfl, hI2, g2⟩ := q9
  show V _ _ _ _ _ _ _ _ (.int (I 1) :: _)
  refine V_if_eq hC 123 rfl dL_law_110 ⟨⟨by decide, by decide⟩, fun z2 => absurd z2 (by decide), fun _ => ?_⟩
  refine V_aload_n hC 4 rfl dL_law_113 ?_
  refine V_mL hC (As := []) lv_L_332 dL_law_114 (d0 := 60) (by decide) (Rm_law hz) rv_0 rfl (Nat.le_of_ble_eq_true rfl) hk0 (cs_digest hfl hI2 (QL := fun y M3 => y = dgV M2 ∧ Inv i M3 ∧ Agr rel M3 M2) (fun M3 a1 a2 => ⟨rfl, a1, a2⟩)) (fun y M3 q => ?_)
  obtain ⟨rfl, hI3, g3⟩ := q
  refine V_lload hC 0 rfl dL_law_117 ?_
  refine V_lcmp hC dL_law_119 (fun z9 h9 hz9 => ?_)
  have e9 : z9 = 0 := hz9.mpr ((dg_rel g2).trans (dg_rel g1))
  subst e9
  refine V_if_eq hC 125 rfl dL_law_120 ⟨⟨by decide, by decide⟩, fun _ => ?_, fun z2 => absurd rfl z2⟩
  have g : Agr rel M3 N := fun o k ho => (g3 o k ho).trans ((g2 o k ho).trans (g1 o k ho))
  have hR3 := sr_rel g hR
  have e1 : M3 72 1 = N 72 1 := g 72 1 rfl
  have h3 : Rel i S D M3 c := ⟨hS, hI3, hR3, by rw [e1]; exact hk1⟩
  refine V_qload_n hC 3 rfl dL_law_125 ?_
  refine V_dgi hC fr_L_201 (Or.inl rfl) rfl dL_law_126 hS (smC hR3.l) (fun z8 => ?_)
  refine V_if_eq hC 135 rfl dL_law_129 ⟨z8, fun z2 => ?_, fun _ => ?_⟩
  · exact V_sub [1, 2, 3, 4, 5] rfl (rt_135 hC hfl hz hi h3 (hR3.m.1.symm.trans z2) hk kk)
  · refine V_goto hC 187 rfl dL_law_132 ?_
    exact V_widen (Nat.le_add_right _ _) (Nat.le_add_right _ _) (V_sub [2, 3, 4, 5] rfl (kk S D M3 (rel_up h3)))
/- one round -/
theorem rng_a {k K : Nat} (h : k + 20443 = K) : k + 2202 * 9 = k + 19818 ∧ (k + 19818) + 625 = K := by omega
theorem rng_b {n K : Nat} (h : n + 490246 = K) : n + 40014 * 9 = n + 360126 ∧ (n + 360126) + 130120 = K := by omega
set_option maxHeartbeats 4000000 in
theorem rt_30 (hC : Cx G md_law) (hfl : (gl G).stackTraces = false) (hz : Lz G b L xs) (hsx : Sx G b L xs) {c : SC} {t i k n K Nn : Nat} {S : Sh} {D N : Mem} (ht : t < 8) (hi : i + 19 ≤ 203) (h : Rel i S D N c) (ek : k + 20443 = K) (en : n + 490246 = Nn) (hK : K ≤ 600104) (hNn : Nn ≤ 7301314) (kk : ∀ S D N, Rel (i + 19) S D N c → V G md_law K Nn (dl (gB G) S D) N 24 [(3, .int (I ((t : Int) + 1))), (2, rv (s_m c)), (1, .ref (ad (gB G) 0)), (0, .ref b)] []) : V G md_law k n (dl (gB G) S D) N 30 [(3, .int (I (t : Int))), (2, rv (s_m c)), (1, .ref (ad (gB G) 0)), (0, .ref b)] [] := by
  have hS := h.1
  have hk0 := k0_of hz (k := k) (n := n) ⟨by omega, by omega⟩
  refine V_aload_n hC 3 rfl dL_law_30 ?_
  refine V_iload_n hC 0 rfl dL_law_31 ?_
  refine V_bipush hC (d := dL_law_32) rfl ?_
  refine V_irem hC (by omega) (by omega) (by decide) (by decide) dL_law_34 ?_
  refine V_uSX hC hsx (As := [_, _]) ls_L_205 dL_law_35 (d0 := 60) (by decide) (Rm_law hz) rfl (Nat.le_of_ble_eq_true rfl) hk0 hS (w_cell hfl ⟨by omega, by omega⟩ (Q := fun r => inR r) (fun r hr => hr)) (fun v9 S9 D9 M9 q9 hX9 hS => ?_)
  obtain ⟨rfl, rfl, rfl, r1, ⟨rfl, -⟩, -⟩ := q9
  show V _ _ _ _ _ _ _ _ (.int (I r1) :: _)
  refine V_bipush hC (d := dL_law_38) rfl ?_
  refine V_iload_n hC 0 rfl dL_law_40 ?_
  refine V_imul hC dL_law_41 ?_
  refine V_iadd hC dL_law_42 ?_
  refine V_bipush hC (d := dL_law_43) rfl ?_
  refine V_iadd hC dL_law_45 ?_
  refine V_uS hC (As := [_]) ls_L_166 dL_law_46 (d0 := 60) (by decide) (Rm_law hz) rfl (Nat.le_of_ble_eq_true rfl) hk0 hS (w_mix hfl (Q := fun r => inR r) (fun r hr => hr)) (fun v9 S9 D9 M9 q9 hX9 hS => ?_)
  obtain ⟨rfl, rfl, rfl, x4, ⟨rfl, -⟩, -⟩ := q9
  show V _ _ _ _ _ _ _ _ (.int (I x4) :: _)
  refine V_istore hC (lv' := [(4, .int (I x4)), (3, .int (I (t : Int))), (2, rv (s_m c)), (1, .ref (ad (gB G) 0)), (0, .ref b)]) (Nat.le_of_ble_eq_true rfl) rfl dL_law_49 ?_
  refine V_iconst hC dL_law_51 ?_
  refine V_istore hC (lv' := [(5, .int (I (0 : Int))), (4, .int (I x4)), (3, .int (I (t : Int))), (2, rv (s_m c)), (1, .ref (ad (gB G) 0)), (0, .ref b)]) (Nat.le_of_ble_eq_true rfl) rfl dL_law_52 ?_
  obtain ⟨ka, kb⟩ := rng_a ek
  obtain ⟨na, nb⟩ := rng_b en
  refine rt_54 hC hfl hz hsx (x4 := x4) (K := k + 19818) (Nn := n + 360126) (i0 := i) ht (by omega) (by omega) (by omega) (fun S1 D1 N1 h1 => ?_) 9 0 rfl k n S D N ka na h
  refine rt_100 hC hfl hz (i := i + 18) (by omega) h1 ⟨by omega, by omega⟩ (fun S2 D2 N2 h2 => ?_)
  rw [kb, nb]
  refine V_iinc hC (lv' := [(3, .int (I ((t : Int) + 1))), (2, rv (s_m c)), (1, .ref (ad (gB G) 0)), (0, .ref b)]) 0 rfl (Nat.le_of_ble_eq_true rfl) (st_ok (And.intro rfl (And.intro (rv_cat _) (And.intro rfl (And.intro rfl trivial)))) rfl) dL_law_187 ?_
  refine V_goto hC 24 rfl dL_law_190 ?_
  exact kk S2 D2 N2 h2
/- the end -/
set_option maxHeartbeats 4000000 in
theorem rt_193 (hC : Cx G md_law) (hfl : (gl G).stackTraces = false) (hz : Lz G b L xs) {c : SC} {t i k n : Nat} {S : Sh} {D N : Mem} (hi : i ≤ 203) (h : Rel i S D N c) (hk : k ≤ 600104 ∧ n ≤ 7301314) : V G md_law k n (dl (gB G) S D) N 193 [(3, .int (I (t : Int))), (2, rv (s_m c)), (1, .ref (ad (gB G) 0)), (0, .ref b)] [] := by
  obtain ⟨hS, hI, hR, hk1⟩ := h
  have hk0 := kl hz hk.1 hk.2
  refine V_aload_n hC 2 rfl dL_law_193 ?_
  refine V_uS hC (As := [_]) ls_L_336 dL_law_194 (d0 := 60) (by decide) (Rm_law hz) rfl (Nat.le_of_ble_eq_true rfl) hk0 hS (w_isSound hfl hI (by omega) (Q := fun r M2 => r = 1 ∧ Inv i M2 ∧ Agr rel M2 N) (fun M2 a1 a2 => ⟨rfl, a1, a2⟩)) (fun v9 S9 D9 M2 q9 hX9 hS => ?_)
  obtain ⟨rfl, rfl, r9, ⟨rfl, -⟩, rfl, hI2, g2⟩ := q9
  show V _ _ _ _ _ _ _ _ (.int (I 1) :: _)
  refine V_if_eq hC 212 rfl dL_law_197 ⟨⟨by decide, by decide⟩, fun z2 => absurd z2 (by decide), fun _ => ?_⟩
  refine V_qload_n hC 1 rfl dL_law_200 ?_
  refine V_aload_n hC 2 rfl dL_law_201 ?_
  have hR2 := sr_rel g2 hR
  refine V_uV hC (As := [_]) lv_L_346 dL_law_202 (d0 := 60) (by decide) (Rm_law hz) (Or.inl rfl) sc_c12 (smC hR2.l) rfl (Nat.le_of_ble_eq_true rfl) hk0 hS (w_isSame hfl hI2 hR2 (Q := fun r M3 => r = 1) (fun M3 _ _ => rfl)) (fun v9 S9 D9 M3 q9 hX9 hS => ?_)
  obtain ⟨rfl, rfl, r9, ⟨rfl, -⟩, rfl⟩ := q9
  show V _ _ _ _ _ _ _ _ (.int (I 1) :: _)
  refine V_if_eq hC 212 rfl dL_law_205 ⟨⟨by decide, by decide⟩, fun z2 => absurd z2 (by decide), fun _ => ?_⟩
  refine V_iconst hC dL_law_208 ?_
  refine V_goto hC 213 rfl dL_law_209 ?_
  exact V_lend hC hz hk dL_law_213
set_option maxHeartbeats 4000000 in
theorem rt_24 (hC : Cx G md_law) (hfl : (gl G).stackTraces = false) (hz : Lz G b L xs) (hsx : Sx G b L xs) {c : SC} {K Nn : Nat} (hK : K ≤ 600104) (hNn : Nn ≤ 7301314) : ∀ (r t : Nat), t + r = 8 → ∀ (k n : Nat) (S : Sh) (D N : Mem), k + 20443 * r = K → n + 490246 * r = Nn → Rel (51 + 19 * t) S D N c → V G md_law k n (dl (gB G) S D) N 24 [(3, .int (I (t : Int))), (2, rv (s_m c)), (1, .ref (ad (gB G) 0)), (0, .ref b)] [] := by
  intro r
  induction r with
  | zero =>
    intro t ht k n S D N hk hn h
    have ht : t = 8 := ht
    subst ht
    refine V_iload_n hC 0 rfl dL_law_24 ?_
    refine V_bipush hC (d := dL_law_25) rfl ?_
    refine V_icmp_ge hC 193 rfl dL_law_27 ⟨⟨by omega, by omega⟩, ⟨by decide, by decide⟩, fun _ => ?_, fun z => absurd z (by omega)⟩
    have hk := bud_z hk
    have hn := bud_z hn
    exact rt_193 hC hfl hz (t := 8) (by omega) h ⟨by omega, by omega⟩
  | succ r ih =>
    intro t ht k n S D N hk hn h
    refine V_iload_n hC 0 rfl dL_law_24 ?_
    refine V_bipush hC (d := dL_law_25) rfl ?_
    refine V_icmp_ge hC 193 rfl dL_law_27 ⟨⟨by omega, by omega⟩, ⟨by decide, by decide⟩, fun z => absurd z (by omega), fun _ => ?_⟩
    refine rt_30 hC hfl hz hsx (K := k + 20443) (Nn := n + 490246) (by omega) (i := 51 + 19 * t) (by omega) h rfl rfl (bud_1 hk hK) (bud_1 hn hNn) (fun S1 D1 N1 h1 => ?_)
    exact ih (t + 1) (by omega) (k + 20443) (n + 490246) S1 D1 N1 (bud_s hk) (bud_s hn) h1
set_option maxHeartbeats 4000000 in
theorem rt_8 (hC : Cx G md_law) (hfl : (gl G).stackTraces = false) (hz : Lz G b L xs) (hsx : Sx G b L xs) : V G md_law 72 12493 (dl (gB G) [] zD) M0 8 [(1, .ref (ad (gB G) 0)), (0, .ref b)] [] := by
  have hS : SOK [] zD := ⟨rfl, fun a r o n h => by cases h⟩
  refine V_aload_n hC 0 rfl dL_law_8 ?_
  refine V_aload_n hC 1 rfl dL_law_9 ?_
  refine V_bipush hC (d := dL_law_10) rfl ?_
  refine V_uSX hC hsx (As := [_, _, _]) (kc := 56160) (nc := 1054179) ls_L_328 dL_law_12 (d0 := 60) (by decide) (Rm_law hz) rfl (Nat.le_of_ble_eq_true rfl) (kl hz (Nat.le_of_ble_eq_true rfl) (Nat.le_of_ble_eq_true rfl)) hS (w_build hfl (J := 51) ⟨by decide, by decide⟩ (fun _ _ _ => rfl) inv_start stn_start rfl (by decide) (Nat.le_of_ble_eq_true rfl) (Nat.le_of_ble_eq_true rfl) (Q := fun q S1 D1 M1 => ∃ c N9, q = s_m c ∧ Eq72 N9 M1 ∧ Inv 51 N9 ∧ SR N9 S1 D1 c ∧ 1 ≤ N9 72 1) (fun c S1 D1 M1 N9 _ a2 a3 a4 a5 => ⟨c, N9, rfl, a2, a3, a4, a5⟩)) (fun v9 S1 D1 M1 q9 hX9 hS1 => ?_)
  obtain ⟨t9, rfl, c, N9, rfl, hE9, hI9, hR9, hk9⟩ := q9
  refine V_swap hE9 ?_
  show V _ _ _ _ _ _ _ _ (rv (s_m c) :: _)
  refine V_qstore_n hC (t := (s_m c)) (lv' := [(2, rv (s_m c)), (1, .ref (ad (gB G) 0)), (0, .ref b)]) (Nat.le_of_ble_eq_true rfl) (st_ok (And.intro rfl (And.intro rfl trivial)) rfl) dL_law_15 ?_
  refine V_qload_n hC 0 rfl dL_law_16 ?_
  have hne : s_m c ≠ 0 := by obtain ⟨r9, o9, n9, h9, -⟩ := smC hR9.l; exact sok_ne hS1 h9
  refine V_ifnonnull hC (t := s_m c) 22 rfl dL_law_17 (fun _ => ?_) (fun z => absurd z hne)
  refine V_iconst hC dL_law_22 ?_
  refine V_istore_n hC (lv' := [(3, .int (I (0 : Int))), (2, rv (s_m c)), (1, .ref (ad (gB G) 0)), (0, .ref b)]) (Nat.le_of_ble_eq_true rfl) (st_ok (And.intro (rv_cat _) (And.intro rfl (And.intro rfl trivial))) rfl) dL_law_23 ?_
  exact rt_24 hC hfl hz hsx (K := 219776) (Nn := 4988640) (Nat.le_of_ble_eq_true rfl) (Nat.le_of_ble_eq_true rfl) 8 0 rfl 56232 1066672 S1 D1 N9 (Nat.eq_of_beq_eq_true rfl) (Nat.eq_of_beq_eq_true rfl) ⟨hS1, hI9, hR9, hk9⟩
end Root
