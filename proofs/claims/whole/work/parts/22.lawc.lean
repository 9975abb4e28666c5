def L_law_1772 (G : GT) (b qo : Nat) (k n : Nat) (x4 : Int) (M : Mem) (f : Nat → Int64) : Prop := V G md_law k n (Xo (gB G) qo f) M 1772 [(0, .ref b), (1, .ref (ad (gB G) 0)), (2, .ref (ad (gB G) 72)), (3, .ref qo), (4, .int (I x4))] []
def T_law_1772 (G : GT) (b L : Nat) (xs : Nat → Int32) (qo : Nat) (k n : Nat) (x4 : Int) (M : Mem) (f : Nat → Int64) : Prop := ((0 ≤ (x4 + (1 : Int)) ∧ (x4 + (1 : Int)) < (L : Int)) ∧ (inR ((xs (x4 + (1 : Int)).toNat).toInt) → ((0 ≤ (x4 + (2 : Int)) ∧ (x4 + (2 : Int)) < (L : Int)) ∧ (inR ((xs (x4 + (2 : Int)).toNat).toInt) → ((0 ≤ (x4 + (3 : Int)) ∧ (x4 + (3 : Int)) < (L : Int)) ∧ (inR ((xs (x4 + (3 : Int)).toNat).toInt) → OkW (gB G) (gl G) md_L_setByte hh_L_setByte [.ref (ad (gB G) 0), .int (I ((xs (x4 + (1 : Int)).toNat).toInt)), .int (I ((xs (x4 + (2 : Int)).toNat).toInt)), .int (I ((xs (x4 + (3 : Int)).toNat).toInt)), .ref qo] qo f M (fun r1792 M1 f1 => inR r1792 → ((0 ≤ (x4 + (1 : Int)) ∧ (x4 + (1 : Int)) < (L : Int)) ∧ (inR ((xs (x4 + (1 : Int)).toNat).toInt) → ((0 ≤ (x4 + (2 : Int)) ∧ (x4 + (2 : Int)) < (L : Int)) ∧ (inR ((xs (x4 + (2 : Int)).toNat).toInt) → ((0 ≤ (x4 + (3 : Int)) ∧ (x4 + (3 : Int)) < (L : Int)) ∧ (inR ((xs (x4 + (3 : Int)).toNat).toInt) → OkI (gB G) (gl G) md_X13_setByte 0 0 [.ref (ad (gB G) 72), .int (I ((xs (x4 + (1 : Int)).toNat).toInt)), .int (I ((xs (x4 + (2 : Int)).toNat).toInt)), .int (I ((xs (x4 + (3 : Int)).toNat).toInt))] (Xo (gB G) qo f1) M1 (fun r1816 M2 => inR r1816 → OkI (gB G) (gl G) md_X13_thrown 0 0 [.ref (ad (gB G) 72)] (Xo (gB G) qo f1) M2 (fun r1822 M3 => inR r1822 → (inR r1822 ∧ inR r1792 ∧ (r1822 = r1792 → (inR r1792 ∧ (r1792 ≠ 0 → L_law_23 G b qo (k + 1) (n + 6) (x4 + 5) M3 f1) ∧ (r1792 = 0 → (∀ z1843 : Int, inR z1843 → (z1843 = 0 ↔ (f1 0) = (I r1816).toInt64) → (inR z1843 ∧ (z1843 = 0 → L_law_23 G b qo (k + 1) (n + 6) (x4 + 5) M3 f1) ∧ (z1843 ≠ 0 → False)))))) ∧ (r1822 ≠ r1792 → False))) NoX) NoX)))))))))))))
set_option maxRecDepth 100000 in
set_option maxHeartbeats 4000000 in
theorem go_law_1772 {G : GT} {b L : Nat} {xs : Nat → Int32} {qo k n : Nat} {x4 : Int} {M : Mem} {f : Nat → Int64} (hC : Cx G md_law) (hz : Lz G b L xs) (hk : k + 40 ≤ 601024 ∧ n + 400 ≤ 7293034) (kk : T_law_1772 G b L xs qo k n x4 M f) : L_law_1772 G b qo k n x4 M f := by
  unfold T_law_1772 at kk
  unfold L_law_1772
  refine V_aload_n hC 1 rfl dL_law_1772 ?_
  refine V_aload_n hC 0 rfl dL_law_1773 ?_
  refine V_iload hC 4 rfl dL_law_1774 ?_
  refine V_iconst hC dL_law_1776 ?_
  refine V_iadd hC dL_law_1777 ?_
  obtain ⟨hi, kk⟩ := kk
  refine V_sld hC hz hi dL_law_1778 (fun z => ?_)
  replace kk := kk z
  refine V_aload_n hC 0 rfl dL_law_1779 ?_
  refine V_iload hC 4 rfl dL_law_1780 ?_
  refine V_iconst hC dL_law_1782 ?_
  refine V_iadd hC dL_law_1783 ?_
  obtain ⟨hi, kk⟩ := kk
  refine V_sld hC hz hi dL_law_1784 (fun z => ?_)
  replace kk := kk z
  refine V_aload_n hC 0 rfl dL_law_1785 ?_
  refine V_iload hC 4 rfl dL_law_1786 ?_
  refine V_iconst hC dL_law_1788 ?_
  refine V_iadd hC dL_law_1789 ?_
  obtain ⟨hi, kk⟩ := kk
  refine V_sld hC hz hi dL_law_1790 (fun z => ?_)
  replace kk := kk z
  refine V_aload_n hC 3 rfl dL_law_1791 ?_
  refine V_cW hC (As := [_, _, _, _, _]) lw_273 dL_law_1792 (d0 := 60) (by decide) (Rm_law hz) rfl (Nat.le_of_ble_eq_true rfl) (kl hz (by omega) (by omega)) kk (fun r9 M9 f9 z kk => ?_)
  replace kk := kk z
  refine V_istore hC (lv' := [(5, _), (0, _), (1, _), (2, _), (3, _), (4, _)]) (Nat.le_of_ble_eq_true rfl) rfl dL_law_1795 ?_
  refine V_aload_n hC 3 rfl dL_law_1797 ?_
  refine V_aload_n hC 1 rfl dL_law_1798 ?_
  refine V_iload hC 5 rfl dL_law_1799 ?_
  refine V_iconst hC dL_law_1801 ?_
  refine V_iadd hC dL_law_1802 ?_
  obtain ⟨hi, kk⟩ := kk
  refine V_sld hC hz hi dL_law_1803 (fun z => ?_)
  replace kk := kk z
  refine V_aload_n hC 1 rfl dL_law_1804 ?_
  refine V_iload hC 5 rfl dL_law_1805 ?_
  refine V_iconst hC dL_law_1807 ?_
  refine V_iadd hC dL_law_1808 ?_
  obtain ⟨hi, kk⟩ := kk
  refine V_sld hC hz hi dL_law_1809 (fun z => ?_)
  replace kk := kk z
  refine V_aload_n hC 1 rfl dL_law_1810 ?_
  refine V_iload hC 5 rfl dL_law_1811 ?_
  refine V_iconst hC dL_law_1813 ?_
  refine V_iadd hC dL_law_1814 ?_
  obtain ⟨hi, kk⟩ := kk
  refine V_sld hC hz hi dL_law_1815 (fun z => ?_)
  replace kk := kk z
  refine V_cVi hC (As := [_, _, _]) lv_L_275 dL_law_1816 (d0 := 60) (by decide) (Rm_law hz) rv_72 rfl (Nat.le_of_ble_eq_true rfl) (kl hz (by omega) (by omega)) kk (fun r9 M9 z kk => ?_)
  replace kk := kk z
  refine V_istore hC (lv' := [(6, _), (5, _), (0, _), (1, _), (2, _), (3, _), (4, _)]) (Nat.le_of_ble_eq_true rfl) rfl dL_law_1819 ?_
  refine V_aload_n hC 4 rfl dL_law_1821 ?_
  refine V_cVi hC (As := []) lv_L_212 dL_law_1822 (d0 := 60) (by decide) (Rm_law hz) rv_72 rfl (Nat.le_of_ble_eq_true rfl) (kl hz (by omega) (by omega)) kk (fun r9 M9 z kk => ?_)
  replace kk := kk z
  refine V_iload hC 1 rfl dL_law_1825 ?_
  obtain ⟨ha, hb, k1, k2⟩ := kk
  refine V_icmp_eq hC 1832 rfl dL_law_1827 ⟨ha, hb, fun z => ?_, fun z => ?_⟩
  · replace kk := k1 z; clear k1 k2
    refine V_iload hC 1 rfl dL_law_1832 ?_
    obtain ⟨ha, k1, k2⟩ := kk
    refine V_if_ne hC 1849 rfl dL_law_1834 ⟨ha, fun z => ?_, fun z => ?_⟩
    · replace kk := k1 z; clear k1 k2
      refine V_goto hC 4661 rfl dL_law_1849 ?_
      refine V_iinc hC (lv' := [(4, _), (6, _), (5, _), (0, _), (1, _), (2, _), (3, _)]) 6 rfl (Nat.le_of_ble_eq_true rfl) rfl dL_law_4661 ?_
      refine V_goto hC 23 rfl dL_law_4664 ?_
      exact V_sub [3, 4, 5, 6, 0] rfl kk
    · replace kk := k2 z; clear k1 k2
      refine V_aload_n hC 5 rfl dL_law_1837 ?_
      refine V_iconst hC dL_law_1838 ?_
      refine V_laldW hC dL_law_1839 ?_
      refine V_iload hC 0 rfl dL_law_1840 ?_
      refine V_i2l hC dL_law_1842 ?_
      refine V_lcmp hC dL_law_1843 (fun z1 z2 z3 => ?_)
      replace kk := kk z1 z2 z3
      obtain ⟨ha, k1, k2⟩ := kk
      refine V_if_eq hC 1849 rfl dL_law_1844 ⟨ha, fun z => ?_, fun z => ?_⟩
      · replace kk := k1 z; clear k1 k2
        refine V_goto hC 4661 rfl dL_law_1849 ?_
        refine V_iinc hC (lv' := [(4, _), (6, _), (5, _), (0, _), (1, _), (2, _), (3, _)]) 6 rfl (Nat.le_of_ble_eq_true rfl) rfl dL_law_4661 ?_
        refine V_goto hC 23 rfl dL_law_4664 ?_
        exact V_sub [3, 4, 5, 6, 0] rfl kk
      · replace kk := k2 z; clear k1 k2
        refine V_iconst hC dL_law_1847 ?_
        exact kk.elim
  · replace kk := k2 z; clear k1 k2
    refine V_iconst hC dL_law_1830 ?_
    exact kk.elim
def L_law_1852 (G : GT) (b qo : Nat) (k n : Nat) (x4 : Int) (M : Mem) (f : Nat → Int64) : Prop := V G md_law k n (Xo (gB G) qo f) M 1852 [(0, .ref b), (1, .ref (ad (gB G) 0)), (2, .ref (ad (gB G) 72)), (3, .ref qo), (4, .int (I x4))] []
def T_law_1852 (G : GT) (b L : Nat) (xs : Nat → Int32) (qo : Nat) (k n : Nat) (x4 : Int) (M : Mem) (f : Nat → Int64) : Prop := ((0 ≤ (x4 + (1 : Int)) ∧ (x4 + (1 : Int)) < (L : Int)) ∧ (inR ((xs (x4 + (1 : Int)).toNat).toInt) → ((0 ≤ (x4 + (2 : Int)) ∧ (x4 + (2 : Int)) < (L : Int)) ∧ (inR ((xs (x4 + (2 : Int)).toNat).toInt) → OkW (gB G) (gl G) md_L_read hh_L_read [.ref (ad (gB G) 0), .int (I ((xs (x4 + (1 : Int)).toNat).toInt)), .int (I ((xs (x4 + (2 : Int)).toNat).toInt)), .ref qo] qo f M (fun r1866 M1 f1 => inR r1866 → ((0 ≤ (x4 + (1 : Int)) ∧ (x4 + (1 : Int)) < (L : Int)) ∧ (inR ((xs (x4 + (1 : Int)).toNat).toInt) → ((0 ≤ (x4 + (2 : Int)) ∧ (x4 + (2 : Int)) < (L : Int)) ∧ (inR ((xs (x4 + (2 : Int)).toNat).toInt) → OkI (gB G) (gl G) md_X13_read_ 0 0 [.ref (ad (gB G) 72), .int (I ((xs (x4 + (1 : Int)).toNat).toInt)), .int (I ((xs (x4 + (2 : Int)).toNat).toInt))] (Xo (gB G) qo f1) M1 (fun r1884 M2 => inR r1884 → OkI (gB G) (gl G) md_X13_thrown 0 0 [.ref (ad (gB G) 72)] (Xo (gB G) qo f1) M2 (fun r1890 M3 => inR r1890 → (inR r1890 ∧ inR r1866 ∧ (r1890 = r1866 → (inR r1866 ∧ (r1866 ≠ 0 → L_law_23 G b qo (k + 1) (n + 6) (x4 + 5) M3 f1) ∧ (r1866 = 0 → (∀ z1911 : Int, inR z1911 → (z1911 = 0 ↔ (f1 0) = (I r1884).toInt64) → (inR z1911 ∧ (z1911 = 0 → L_law_23 G b qo (k + 1) (n + 6) (x4 + 5) M3 f1) ∧ (z1911 ≠ 0 → False)))))) ∧ (r1890 ≠ r1866 → False))) NoX) NoX)))))))))
set_option maxRecDepth 100000 in
set_option maxHeartbeats 4000000 in
theorem go_law_1852 {G : GT} {b L : Nat} {xs : Nat → Int32} {qo k n : Nat} {x4 : Int} {M : Mem} {f : Nat → Int64} (hC : Cx G md_law) (hz : Lz G b L xs) (hk : k + 40 ≤ 601024 ∧ n + 400 ≤ 7293034) (kk : T_law_1852 G b L xs qo k n x4 M f) : L_law_1852 G b qo k n x4 M f := by
  unfold T_law_1852 at kk
  unfold L_law_1852
  refine V_aload_n hC 1 rfl dL_law_1852 ?_
  refine V_aload_n hC 0 rfl dL_law_1853 ?_
  refine V_iload hC 4 rfl dL_law_1854 ?_
  refine V_iconst hC dL_law_1856 ?_
  refine V_iadd hC dL_law_1857 ?_
  obtain ⟨hi, kk⟩ := kk
  refine V_sld hC hz hi dL_law_1858 (fun z => ?_)
  replace kk := kk z
  refine V_aload_n hC 0 rfl dL_law_1859 ?_
  refine V_iload hC 4 rfl dL_law_1860 ?_
  refine V_iconst hC dL_law_1862 ?_
  refine V_iadd hC dL_law_1863 ?_
  obtain ⟨hi, kk⟩ := kk
  refine V_sld hC hz hi dL_law_1864 (fun z => ?_)
  replace kk := kk z
  refine V_aload_n hC 3 rfl dL_law_1865 ?_
  refine V_cW hC (As := [_, _, _, _]) lw_276 dL_law_1866 (d0 := 60) (by decide) (Rm_law hz) rfl (Nat.le_of_ble_eq_true rfl) (kl hz (by omega) (by omega)) kk (fun r9 M9 f9 z kk => ?_)
  replace kk := kk z
  refine V_istore hC (lv' := [(5, _), (0, _), (1, _), (2, _), (3, _), (4, _)]) (Nat.le_of_ble_eq_true rfl) rfl dL_law_1869 ?_
  refine V_aload_n hC 3 rfl dL_law_1871 ?_
  refine V_aload_n hC 1 rfl dL_law_1872 ?_
  refine V_iload hC 5 rfl dL_law_1873 ?_
  refine V_iconst hC dL_law_1875 ?_
  refine V_iadd hC dL_law_1876 ?_
  obtain ⟨hi, kk⟩ := kk
  refine V_sld hC hz hi dL_law_1877 (fun z => ?_)
  replace kk := kk z
  refine V_aload_n hC 1 rfl dL_law_1878 ?_
  refine V_iload hC 5 rfl dL_law_1879 ?_
  refine V_iconst hC dL_law_1881 ?_
  refine V_iadd hC dL_law_1882 ?_
  obtain ⟨hi, kk⟩ := kk
  refine V_sld hC hz hi dL_law_1883 (fun z => ?_)
  replace kk := kk z
  refine V_cVi hC (As := [_, _]) lv_L_278 dL_law_1884 (d0 := 60) (by decide) (Rm_law hz) rv_72 rfl (Nat.le_of_ble_eq_true rfl) (kl hz (by omega) (by omega)) kk (fun r9 M9 z kk => ?_)
  replace kk := kk z
  refine V_istore hC (lv' := [(6, _), (5, _), (0, _), (1, _), (2, _), (3, _), (4, _)]) (Nat.le_of_ble_eq_true rfl) rfl dL_law_1887 ?_
  refine V_aload_n hC 4 rfl dL_law_1889 ?_
  refine V_cVi hC (As := []) lv_L_212 dL_law_1890 (d0 := 60) (by decide) (Rm_law hz) rv_72 rfl (Nat.le_of_ble_eq_true rfl) (kl hz (by omega) (by omega)) kk (fun r9 M9 z kk => ?_)
  replace kk := kk z
  refine V_iload hC 1 rfl dL_law_1893 ?_
  obtain ⟨ha, hb, k1, k2⟩ := kk
  refine V_icmp_eq hC 1900 rfl dL_law_1895 ⟨ha, hb, fun z => ?_, fun z => ?_⟩
  · replace kk := k1 z; clear k1 k2
    refine V_iload hC 1 rfl dL_law_1900 ?_
    obtain ⟨ha, k1, k2⟩ := kk
    refine V_if_ne hC 1917 rfl dL_law_1902 ⟨ha, fun z => ?_, fun z => ?_⟩
    · replace kk := k1 z; clear k1 k2
      refine V_goto hC 4661 rfl dL_law_1917 ?_
      refine V_iinc hC (lv' := [(4, _), (6, _), (5, _), (0, _), (1, _), (2, _), (3, _)]) 6 rfl (Nat.le_of_ble_eq_true rfl) rfl dL_law_4661 ?_
      refine V_goto hC 23 rfl dL_law_4664 ?_
      exact V_sub [3, 4, 5, 6, 0] rfl kk
    · replace kk := k2 z; clear k1 k2
      refine V_aload_n hC 5 rfl dL_law_1905 ?_
      refine V_iconst hC dL_law_1906 ?_
      refine V_laldW hC dL_law_1907 ?_
      refine V_iload hC 0 rfl dL_law_1908 ?_
      refine V_i2l hC dL_law_1910 ?_
      refine V_lcmp hC dL_law_1911 (fun z1 z2 z3 => ?_)
      replace kk := kk z1 z2 z3
      obtain ⟨ha, k1, k2⟩ := kk
      refine V_if_eq hC 1917 rfl dL_law_1912 ⟨ha, fun z => ?_, fun z => ?_⟩
      · replace kk := k1 z; clear k1 k2
        refine V_goto hC 4661 rfl dL_law_1917 ?_
        refine V_iinc hC (lv' := [(4, _), (6, _), (5, _), (0, _), (1, _), (2, _), (3, _)]) 6 rfl (Nat.le_of_ble_eq_true rfl) rfl dL_law_4661 ?_
        refine V_goto hC 23 rfl dL_law_4664 ?_
        exact V_sub [3, 4, 5, 6, 0] rfl kk
      · replace kk := k2 z; clear k1 k2
        refine V_iconst hC dL_law_1915 ?_
        exact kk.elim
  · replace kk := k2 z; clear k1 k2
    refine V_iconst hC dL_law_1898 ?_
    exact kk.elim
def L_law_1920 (G : GT) (b qo : Nat) (k n : Nat) (x4 : Int) (M : Mem) (f : Nat → Int64) : Prop := V G md_law k n (Xo (gB G) qo f) M 1920 [(0, .ref b), (1, .ref (ad (gB G) 0)), (2, .ref (ad (gB G) 72)), (3, .ref qo), (4, .int (I x4))] []
def T_law_1920 (G : GT) (b L : Nat) (xs : Nat → Int32) (qo : Nat) (k n : Nat) (x4 : Int) (M : Mem) (f : Nat → Int64) : Prop := ((0 ≤ (x4 + (1 : Int)) ∧ (x4 + (1 : Int)) < (L : Int)) ∧ (inR ((xs (x4 + (1 : Int)).toNat).toInt) → ((0 ≤ (x4 + (2 : Int)) ∧ (x4 + (2 : Int)) < (L : Int)) ∧ (inR ((xs (x4 + (2 : Int)).toNat).toInt) → OkW (gB G) (gl G) md_L_refersTo hh_L_refersTo [.ref (ad (gB G) 0), .int (I ((xs (x4 + (1 : Int)).toNat).toInt)), .int (I ((xs (x4 + (2 : Int)).toNat).toInt)), .ref qo] qo f M (fun r1934 M1 f1 => inR r1934 → ((0 ≤ (x4 + (1 : Int)) ∧ (x4 + (1 : Int)) < (L : Int)) ∧ (inR ((xs (x4 + (1 : Int)).toNat).toInt) → ((0 ≤ (x4 + (2 : Int)) ∧ (x4 + (2 : Int)) < (L : Int)) ∧ (inR ((xs (x4 + (2 : Int)).toNat).toInt) → OkI (gB G) (gl G) md_X13_refersTo 0 0 [.ref (ad (gB G) 72), .int (I ((xs (x4 + (1 : Int)).toNat).toInt)), .int (I ((xs (x4 + (2 : Int)).toNat).toInt))] (Xo (gB G) qo f1) M1 (fun r1952 M2 => inR r1952 → OkI (gB G) (gl G) md_X13_thrown 0 0 [.ref (ad (gB G) 72)] (Xo (gB G) qo f1) M2 (fun r1958 M3 => inR r1958 → (inR r1958 ∧ inR r1934 ∧ (r1958 = r1934 → (inR r1934 ∧ (r1934 ≠ 0 → L_law_23 G b qo (k + 1) (n + 6) (x4 + 5) M3 f1) ∧ (r1934 = 0 → (inR r1952 ∧ (r1952 = 0 → (∀ z1986 : Int, inR z1986 → (z1986 = 0 ↔ (f1 0) = (0 : Int64)) → (inR z1986 ∧ (z1986 = 0 → L_law_23 G b qo (k + 1) (n + 6) (x4 + 5) M3 f1) ∧ (z1986 ≠ 0 → False)))) ∧ (r1952 ≠ 0 → (∀ z1986 : Int, inR z1986 → (z1986 = 0 ↔ (f1 0) = (1 : Int64)) → (inR z1986 ∧ (z1986 = 0 → L_law_23 G b qo (k + 1) (n + 6) (x4 + 5) M3 f1) ∧ (z1986 ≠ 0 → False)))))))) ∧ (r1958 ≠ r1934 → False))) NoX) NoX)))))))))
set_option maxRecDepth 100000 in
set_option maxHeartbeats 4000000 in
theorem go_law_1920 {G : GT} {b L : Nat} {xs : Nat → Int32} {qo k n : Nat} {x4 : Int} {M : Mem} {f : Nat → Int64} (hC : Cx G md_law) (hz : Lz G b L xs) (hk : k + 40 ≤ 601024 ∧ n + 400 ≤ 7293034) (kk : T_law_1920 G b L xs qo k n x4 M f) : L_law_1920 G b qo k n x4 M f := by
  unfold T_law_1920 at kk
  unfold L_law_1920
  refine V_aload_n hC 1 rfl dL_law_1920 ?_
  refine V_aload_n hC 0 rfl dL_law_1921 ?_
  refine V_iload hC 4 rfl dL_law_1922 ?_
  refine V_iconst hC dL_law_1924 ?_
  refine V_iadd hC dL_law_1925 ?_
  obtain ⟨hi, kk⟩ := kk
  refine V_sld hC hz hi dL_law_1926 (fun z => ?_)
  replace kk := kk z
  refine V_aload_n hC 0 rfl dL_law_1927 ?_
  refine V_iload hC 4 rfl dL_law_1928 ?_
  refine V_iconst hC dL_law_1930 ?_
  refine V_iadd hC dL_law_1931 ?_
  obtain ⟨hi, kk⟩ := kk
  refine V_sld hC hz hi dL_law_1932 (fun z => ?_)
  replace kk := kk z
  refine V_aload_n hC 3 rfl dL_law_1933 ?_
  refine V_cW hC (As := [_, _, _, _]) lw_279 dL_law_1934 (d0 := 60) (by decide) (Rm_law hz) rfl (Nat.le_of_ble_eq_true rfl) (kl hz (by omega) (by omega)) kk (fun r9 M9 f9 z kk => ?_)
  replace kk := kk z
  refine V_istore hC (lv' := [(5, _), (0, _), (1, _), (2, _), (3, _), (4, _)]) (Nat.le_of_ble_eq_true rfl) rfl dL_law_1937 ?_
  refine V_aload_n hC 3 rfl dL_law_1939 ?_
  refine V_aload_n hC 1 rfl dL_law_1940 ?_
  refine V_iload hC 5 rfl dL_law_1941 ?_
  refine V_iconst hC dL_law_1943 ?_
  refine V_iadd hC dL_law_1944 ?_
  obtain ⟨hi, kk⟩ := kk
  refine V_sld hC hz hi dL_law_1945 (fun z => ?_)
  replace kk := kk z
  refine V_aload_n hC 1 rfl dL_law_1946 ?_
  refine V_iload hC 5 rfl dL_law_1947 ?_
  refine V_iconst hC dL_law_1949 ?_
  refine V_iadd hC dL_law_1950 ?_
  obtain ⟨hi, kk⟩ := kk
  refine V_sld hC hz hi dL_law_1951 (fun z => ?_)
  replace kk := kk z
  refine V_cVi hC (As := [_, _]) lv_L_281 dL_law_1952 (d0 := 60) (by decide) (Rm_law hz) rv_72 rfl (Nat.le_of_ble_eq_true rfl) (kl hz (by omega) (by omega)) kk (fun r9 M9 z kk => ?_)
  replace kk := kk z
  refine V_istore hC (lv' := [(6, _), (5, _), (0, _), (1, _), (2, _), (3, _), (4, _)]) (Nat.le_of_ble_eq_true rfl) rfl dL_law_1955 ?_
  refine V_aload_n hC 4 rfl dL_law_1957 ?_
  refine V_cVi hC (As := []) lv_L_212 dL_law_1958 (d0 := 60) (by decide) (Rm_law hz) rv_72 rfl (Nat.le_of_ble_eq_true rfl) (kl hz (by omega) (by omega)) kk (fun r9 M9 z kk => ?_)
  replace kk := kk z
  refine V_iload hC 1 rfl dL_law_1961 ?_
  obtain ⟨ha, hb, k1, k2⟩ := kk
  refine V_icmp_eq hC 1968 rfl dL_law_1963 ⟨ha, hb, fun z => ?_, fun z => ?_⟩
  · replace kk := k1 z; clear k1 k2
    refine V_iload hC 1 rfl dL_law_1968 ?_
    obtain ⟨ha, k1, k2⟩ := kk
    refine V_if_ne hC 1992 rfl dL_law_1970 ⟨ha, fun z => ?_, fun z => ?_⟩
    · replace kk := k1 z; clear k1 k2
      refine V_goto hC 4661 rfl dL_law_1992 ?_
      refine V_iinc hC (lv' := [(4, _), (6, _), (5, _), (0, _), (1, _), (2, _), (3, _)]) 6 rfl (Nat.le_of_ble_eq_true rfl) rfl dL_law_4661 ?_
      refine V_goto hC 23 rfl dL_law_4664 ?_
      exact V_sub [3, 4, 5, 6, 0] rfl kk
    · replace kk := k2 z; clear k1 k2
      refine V_aload_n hC 5 rfl dL_law_1973 ?_
      refine V_iconst hC dL_law_1974 ?_
      refine V_laldW hC dL_law_1975 ?_
      refine V_iload hC 0 rfl dL_law_1976 ?_
      obtain ⟨ha, k1, k2⟩ := kk
      refine V_if_eq hC 1985 rfl dL_law_1978 ⟨ha, fun z => ?_, fun z => ?_⟩
      · replace kk := k1 z; clear k1 k2
        refine V_lconst hC 0 rfl dL_law_1985 ?_
        refine V_lcmp hC dL_law_1986 (fun z1 z2 z3 => ?_)
        replace kk := kk z1 z2 z3
        obtain ⟨ha, k1, k2⟩ := kk
        refine V_if_eq hC 1992 rfl dL_law_1987 ⟨ha, fun z => ?_, fun z => ?_⟩
        · replace kk := k1 z; clear k1 k2
          refine V_goto hC 4661 rfl dL_law_1992 ?_
          refine V_iinc hC (lv' := [(4, _), (6, _), (5, _), (0, _), (1, _), (2, _), (3, _)]) 6 rfl (Nat.le_of_ble_eq_true rfl) rfl dL_law_4661 ?_
          refine V_goto hC 23 rfl dL_law_4664 ?_
          exact V_sub [3, 4, 5, 6, 0] rfl kk
        · replace kk := k2 z; clear k1 k2
          refine V_iconst hC dL_law_1990 ?_
          exact kk.elim
      · replace kk := k2 z; clear k1 k2
        refine V_lconst hC 1 rfl dL_law_1981 ?_
        refine V_goto hC 1986 rfl dL_law_1982 ?_
        refine V_lcmp hC dL_law_1986 (fun z1 z2 z3 => ?_)
        replace kk := kk z1 z2 z3
        obtain ⟨ha, k1, k2⟩ := kk
        refine V_if_eq hC 1992 rfl dL_law_1987 ⟨ha, fun z => ?_, fun z => ?_⟩
        · replace kk := k1 z; clear k1 k2
          refine V_goto hC 4661 rfl dL_law_1992 ?_
          refine V_iinc hC (lv' := [(4, _), (6, _), (5, _), (0, _), (1, _), (2, _), (3, _)]) 6 rfl (Nat.le_of_ble_eq_true rfl) rfl dL_law_4661 ?_
          refine V_goto hC 23 rfl dL_law_4664 ?_
          exact V_sub [3, 4, 5, 6, 0] rfl kk
        · replace kk := k2 z; clear k1 k2
          refine V_iconst hC dL_law_1990 ?_
          exact kk.elim
  · replace kk := k2 z; clear k1 k2
    refine V_iconst hC dL_law_1966 ?_
    exact kk.elim
def L_law_1995 (G : GT) (b qo : Nat) (k n : Nat) (x4 : Int) (M : Mem) (f : Nat → Int64) : Prop := V G md_law k n (Xo (gB G) qo f) M 1995 [(0, .ref b), (1, .ref (ad (gB G) 0)), (2, .ref (ad (gB G) 72)), (3, .ref qo), (4, .int (I x4))] []
def T_law_1995 (G : GT) (b L : Nat) (xs : Nat → Int32) (qo : Nat) (k n : Nat) (x4 : Int) (M : Mem) (f : Nat → Int64) : Prop := ((0 ≤ (x4 + (1 : Int)) ∧ (x4 + (1 : Int)) < (L : Int)) ∧ (inR ((xs (x4 + (1 : Int)).toNat).toInt) → OkW (gB G) (gl G) md_L_forget hh_L_forget [.ref (ad (gB G) 0), .int (I ((xs (x4 + (1 : Int)).toNat).toInt)), .ref qo] qo f M (fun r2003 M1 f1 => inR r2003 → ((0 ≤ (x4 + (1 : Int)) ∧ (x4 + (1 : Int)) < (L : Int)) ∧ (inR ((xs (x4 + (1 : Int)).toNat).toInt) → OkI (gB G) (gl G) md_X13_forget 0 0 [.ref (ad (gB G) 72), .int (I ((xs (x4 + (1 : Int)).toNat).toInt))] (Xo (gB G) qo f1) M1 (fun r2015 M2 => inR r2015 → OkI (gB G) (gl G) md_X13_thrown 0 0 [.ref (ad (gB G) 72)] (Xo (gB G) qo f1) M2 (fun r2021 M3 => inR r2021 → (inR r2021 ∧ inR r2003 ∧ (r2021 = r2003 → (inR r2003 ∧ (r2003 ≠ 0 → L_law_23 G b qo (k + 1) (n + 6) (x4 + 5) M3 f1) ∧ (r2003 = 0 → (inR r2015 ∧ (r2015 = 0 → (∀ z2049 : Int, inR z2049 → (z2049 = 0 ↔ (f1 0) = (0 : Int64)) → (inR z2049 ∧ (z2049 = 0 → L_law_23 G b qo (k + 1) (n + 6) (x4 + 5) M3 f1) ∧ (z2049 ≠ 0 → False)))) ∧ (r2015 ≠ 0 → (∀ z2049 : Int, inR z2049 → (z2049 = 0 ↔ (f1 0) = (1 : Int64)) → (inR z2049 ∧ (z2049 = 0 → L_law_23 G b qo (k + 1) (n + 6) (x4 + 5) M3 f1) ∧ (z2049 ≠ 0 → False)))))))) ∧ (r2021 ≠ r2003 → False))) NoX) NoX)))))
set_option maxRecDepth 100000 in
set_option maxHeartbeats 4000000 in
theorem go_law_1995 {G : GT} {b L : Nat} {xs : Nat → Int32} {qo k n : Nat} {x4 : Int} {M : Mem} {f : Nat → Int64} (hC : Cx G md_law) (hz : Lz G b L xs) (hk : k + 40 ≤ 601024 ∧ n + 400 ≤ 7293034) (kk : T_law_1995 G b L xs qo k n x4 M f) : L_law_1995 G b qo k n x4 M f := by
  unfold T_law_1995 at kk
  unfold L_law_1995
  refine V_aload_n hC 1 rfl dL_law_1995 ?_
  refine V_aload_n hC 0 rfl dL_law_1996 ?_
  refine V_iload hC 4 rfl dL_law_1997 ?_
  refine V_iconst hC dL_law_1999 ?_
  refine V_iadd hC dL_law_2000 ?_
  obtain ⟨hi, kk⟩ := kk
  refine V_sld hC hz hi dL_law_2001 (fun z => ?_)
  replace kk := kk z
  refine V_aload_n hC 3 rfl dL_law_2002 ?_
  refine V_cW hC (As := [_, _, _]) lw_282 dL_law_2003 (d0 := 60) (by decide) (Rm_law hz) rfl (Nat.le_of_ble_eq_true rfl) (kl hz (by omega) (by omega)) kk (fun r9 M9 f9 z kk => ?_)
  replace kk := kk z
  refine V_istore hC (lv' := [(5, _), (0, _), (1, _), (2, _), (3, _), (4, _)]) (Nat.le_of_ble_eq_true rfl) rfl dL_law_2006 ?_
  refine V_aload_n hC 3 rfl dL_law_2008 ?_
  refine V_aload_n hC 1 rfl dL_law_2009 ?_
  refine V_iload hC 5 rfl dL_law_2010 ?_
  refine V_iconst hC dL_law_2012 ?_
  refine V_iadd hC dL_law_2013 ?_
  obtain ⟨hi, kk⟩ := kk
  refine V_sld hC hz hi dL_law_2014 (fun z => ?_)
  replace kk := kk z
  refine V_cVi hC (As := [_]) lv_L_284 dL_law_2015 (d0 := 60) (by decide) (Rm_law hz) rv_72 rfl (Nat.le_of_ble_eq_true rfl) (kl hz (by omega) (by omega)) kk (fun r9 M9 z kk => ?_)
  replace kk := kk z
  refine V_istore hC (lv' := [(6, _), (5, _), (0, _), (1, _), (2, _), (3, _), (4, _)]) (Nat.le_of_ble_eq_true rfl) rfl dL_law_2018 ?_
  refine V_aload_n hC 4 rfl dL_law_2020 ?_
  refine V_cVi hC (As := []) lv_L_212 dL_law_2021 (d0 := 60) (by decide) (Rm_law hz) rv_72 rfl (Nat.le_of_ble_eq_true rfl) (kl hz (by omega) (by omega)) kk (fun r9 M9 z kk => ?_)
  replace kk := kk z
  refine V_iload hC 1 rfl dL_law_2024 ?_
  obtain ⟨ha, hb, k1, k2⟩ := kk
  refine V_icmp_eq hC 2031 rfl dL_law_2026 ⟨ha, hb, fun z => ?_, fun z => ?_⟩
  · replace kk := k1 z; clear k1 k2
    refine V_iload hC 1 rfl dL_law_2031 ?_
    obtain ⟨ha, k1, k2⟩ := kk
    refine V_if_ne hC 2055 rfl dL_law_2033 ⟨ha, fun z => ?_, fun z => ?_⟩
    · replace kk := k1 z; clear k1 k2
      refine V_goto hC 4661 rfl dL_law_2055 ?_
      refine V_iinc hC (lv' := [(4, _), (6, _), (5, _), (0, _), (1, _), (2, _), (3, _)]) 6 rfl (Nat.le_of_ble_eq_true rfl) rfl dL_law_4661 ?_
      refine V_goto hC 23 rfl dL_law_4664 ?_
      exact V_sub [3, 4, 5, 6, 0] rfl kk
    · replace kk := k2 z; clear k1 k2
      refine V_aload_n hC 5 rfl dL_law_2036 ?_
      refine V_iconst hC dL_law_2037 ?_
      refine V_laldW hC dL_law_2038 ?_
      refine V_iload hC 0 rfl dL_law_2039 ?_
      obtain ⟨ha, k1, k2⟩ := kk
      refine V_if_eq hC 2048 rfl dL_law_2041 ⟨ha, fun z => ?_, fun z => ?_⟩
      · replace kk := k1 z; clear k1 k2
        refine V_lconst hC 0 rfl dL_law_2048 ?_
        refine V_lcmp hC dL_law_2049 (fun z1 z2 z3 => ?_)
        replace kk := kk z1 z2 z3
        obtain ⟨ha, k1, k2⟩ := kk
        refine V_if_eq hC 2055 rfl dL_law_2050 ⟨ha, fun z => ?_, fun z => ?_⟩
        · replace kk := k1 z; clear k1 k2
          refine V_goto hC 4661 rfl dL_law_2055 ?_
          refine V_iinc hC (lv' := [(4, _), (6, _), (5, _), (0, _), (1, _), (2, _), (3, _)]) 6 rfl (Nat.le_of_ble_eq_true rfl) rfl dL_law_4661 ?_
          refine V_goto hC 23 rfl dL_law_4664 ?_
          exact V_sub [3, 4, 5, 6, 0] rfl kk
        · replace kk := k2 z; clear k1 k2
          refine V_iconst hC dL_law_2053 ?_
          exact kk.elim
      · replace kk := k2 z; clear k1 k2
        refine V_lconst hC 1 rfl dL_law_2044 ?_
        refine V_goto hC 2049 rfl dL_law_2045 ?_
        refine V_lcmp hC dL_law_2049 (fun z1 z2 z3 => ?_)
        replace kk := kk z1 z2 z3
        obtain ⟨ha, k1, k2⟩ := kk
        refine V_if_eq hC 2055 rfl dL_law_2050 ⟨ha, fun z => ?_, fun z => ?_⟩
        · replace kk := k1 z; clear k1 k2
          refine V_goto hC 4661 rfl dL_law_2055 ?_
          refine V_iinc hC (lv' := [(4, _), (6, _), (5, _), (0, _), (1, _), (2, _), (3, _)]) 6 rfl (Nat.le_of_ble_eq_true rfl) rfl dL_law_4661 ?_
          refine V_goto hC 23 rfl dL_law_4664 ?_
          exact V_sub [3, 4, 5, 6, 0] rfl kk
        · replace kk := k2 z; clear k1 k2
          refine V_iconst hC dL_law_2053 ?_
          exact kk.elim
  · replace kk := k2 z; clear k1 k2
    refine V_iconst hC dL_law_2029 ?_
    exact kk.elim
def L_law_2058 (G : GT) (b qo : Nat) (k n : Nat) (x4 : Int) (M : Mem) (f : Nat → Int64) : Prop := V G md_law k n (Xo (gB G) qo f) M 2058 [(0, .ref b), (1, .ref (ad (gB G) 0)), (2, .ref (ad (gB G) 72)), (3, .ref qo), (4, .int (I x4))] []
def T_law_2058 (G : GT) (b L : Nat) (xs : Nat → Int32) (qo : Nat) (k n : Nat) (x4 : Int) (M : Mem) (f : Nat → Int64) : Prop := ((0 ≤ (x4 + (1 : Int)) ∧ (x4 + (1 : Int)) < (L : Int)) ∧ (inR ((xs (x4 + (1 : Int)).toNat).toInt) → OkW (gB G) (gl G) md_L_poll hh_L_poll [.ref (ad (gB G) 0), .int (I ((xs (x4 + (1 : Int)).toNat).toInt)), .ref qo] qo f M (fun r2066 M1 f1 => inR r2066 → ((0 ≤ (x4 + (1 : Int)) ∧ (x4 + (1 : Int)) < (L : Int)) ∧ (inR ((xs (x4 + (1 : Int)).toNat).toInt) → OkI (gB G) (gl G) md_X13_poll 0 0 [.ref (ad (gB G) 72), .int (I ((xs (x4 + (1 : Int)).toNat).toInt))] (Xo (gB G) qo f1) M1 (fun r2078 M2 => inR r2078 → OkI (gB G) (gl G) md_X13_thrown 0 0 [.ref (ad (gB G) 72)] (Xo (gB G) qo f1) M2 (fun r2084 M3 => inR r2084 → (inR r2084 ∧ inR r2066 ∧ (r2084 = r2066 → (inR r2066 ∧ (r2066 ≠ 0 → L_law_23 G b qo (k + 1) (n + 6) (x4 + 5) M3 f1) ∧ (r2066 = 0 → (∀ z2105 : Int, inR z2105 → (z2105 = 0 ↔ (f1 0) = (I r2078).toInt64) → (inR z2105 ∧ (z2105 = 0 → L_law_23 G b qo (k + 1) (n + 6) (x4 + 5) M3 f1) ∧ (z2105 ≠ 0 → False)))))) ∧ (r2084 ≠ r2066 → False))) NoX) NoX)))))
set_option maxRecDepth 100000 in
set_option maxHeartbeats 4000000 in
theorem go_law_2058 {G : GT} {b L : Nat} {xs : Nat → Int32} {qo k n : Nat} {x4 : Int} {M : Mem} {f : Nat → Int64} (hC : Cx G md_law) (hz : Lz G b L xs) (hk : k + 40 ≤ 601024 ∧ n + 400 ≤ 7293034) (kk : T_law_2058 G b L xs qo k n x4 M f) : L_law_2058 G b qo k n x4 M f := by
  unfold T_law_2058 at kk
  unfold L_law_2058
  refine V_aload_n hC 1 rfl dL_law_2058 ?_
  refine V_aload_n hC 0 rfl dL_law_2059 ?_
  refine V_iload hC 4 rfl dL_law_2060 ?_
  refine V_iconst hC dL_law_2062 ?_
  refine V_iadd hC dL_law_2063 ?_
  obtain ⟨hi, kk⟩ := kk
  refine V_sld hC hz hi dL_law_2064 (fun z => ?_)
  replace kk := kk z
  refine V_aload_n hC 3 rfl dL_law_2065 ?_
  refine V_cW hC (As := [_, _, _]) lw_285 dL_law_2066 (d0 := 60) (by decide) (Rm_law hz) rfl (Nat.le_of_ble_eq_true rfl) (kl hz (by omega) (by omega)) kk (fun r9 M9 f9 z kk => ?_)
  replace kk := kk z
  refine V_istore hC (lv' := [(5, _), (0, _), (1, _), (2, _), (3, _), (4, _)]) (Nat.le_of_ble_eq_true rfl) rfl dL_law_2069 ?_
  refine V_aload_n hC 3 rfl dL_law_2071 ?_
  refine V_aload_n hC 1 rfl dL_law_2072 ?_
  refine V_iload hC 5 rfl dL_law_2073 ?_
  refine V_iconst hC dL_law_2075 ?_
  refine V_iadd hC dL_law_2076 ?_
  obtain ⟨hi, kk⟩ := kk
  refine V_sld hC hz hi dL_law_2077 (fun z => ?_)
  replace kk := kk z
  refine V_cVi hC (As := [_]) lv_L_287 dL_law_2078 (d0 := 60) (by decide) (Rm_law hz) rv_72 rfl (Nat.le_of_ble_eq_true rfl) (kl hz (by omega) (by omega)) kk (fun r9 M9 z kk => ?_)
  replace kk := kk z
  refine V_istore hC (lv' := [(6, _), (5, _), (0, _), (1, _), (2, _), (3, _), (4, _)]) (Nat.le_of_ble_eq_true rfl) rfl dL_law_2081 ?_
  refine V_aload_n hC 4 rfl dL_law_2083 ?_
  refine V_cVi hC (As := []) lv_L_212 dL_law_2084 (d0 := 60) (by decide) (Rm_law hz) rv_72 rfl (Nat.le_of_ble_eq_true rfl) (kl hz (by omega) (by omega)) kk (fun r9 M9 z kk => ?_)
  replace kk := kk z
  refine V_iload hC 1 rfl dL_law_2087 ?_
  obtain ⟨ha, hb, k1, k2⟩ := kk
  refine V_icmp_eq hC 2094 rfl dL_law_2089 ⟨ha, hb, fun z => ?_, fun z => ?_⟩
  · replace kk := k1 z; clear k1 k2
    refine V_iload hC 1 rfl dL_law_2094 ?_
    obtain ⟨ha, k1, k2⟩ := kk
    refine V_if_ne hC 2111 rfl dL_law_2096 ⟨ha, fun z => ?_, fun z => ?_⟩
    · replace kk := k1 z; clear k1 k2
      refine V_goto hC 4661 rfl dL_law_2111 ?_
      refine V_iinc hC (lv' := [(4, _), (6, _), (5, _), (0, _), (1, _), (2, _), (3, _)]) 6 rfl (Nat.le_of_ble_eq_true rfl) rfl dL_law_4661 ?_
      refine V_goto hC 23 rfl dL_law_4664 ?_
      exact V_sub [3, 4, 5, 6, 0] rfl kk
    · replace kk := k2 z; clear k1 k2
      refine V_aload_n hC 5 rfl dL_law_2099 ?_
      refine V_iconst hC dL_law_2100 ?_
      refine V_laldW hC dL_law_2101 ?_
      refine V_iload hC 0 rfl dL_law_2102 ?_
      refine V_i2l hC dL_law_2104 ?_
      refine V_lcmp hC dL_law_2105 (fun z1 z2 z3 => ?_)
      replace kk := kk z1 z2 z3
      obtain ⟨ha, k1, k2⟩ := kk
      refine V_if_eq hC 2111 rfl dL_law_2106 ⟨ha, fun z => ?_, fun z => ?_⟩
      · replace kk := k1 z; clear k1 k2
        refine V_goto hC 4661 rfl dL_law_2111 ?_
        refine V_iinc hC (lv' := [(4, _), (6, _), (5, _), (0, _), (1, _), (2, _), (3, _)]) 6 rfl (Nat.le_of_ble_eq_true rfl) rfl dL_law_4661 ?_
        refine V_goto hC 23 rfl dL_law_4664 ?_
        exact V_sub [3, 4, 5, 6, 0] rfl kk
      · replace kk := k2 z; clear k1 k2
        refine V_iconst hC dL_law_2109 ?_
        exact kk.elim
  · replace kk := k2 z; clear k1 k2
    refine V_iconst hC dL_law_2092 ?_
    exact kk.elim
def L_law_2114 (G : GT) (b qo : Nat) (k n : Nat) (x4 : Int) (M : Mem) (f : Nat → Int64) : Prop := V G md_law k n (Xo (gB G) qo f) M 2114 [(0, .ref b), (1, .ref (ad (gB G) 0)), (2, .ref (ad (gB G) 72)), (3, .ref qo), (4, .int (I x4))] []
def T_law_2114 (G : GT) (b L : Nat) (xs : Nat → Int32) (qo : Nat) (k n : Nat) (x4 : Int) (M : Mem) (f : Nat → Int64) : Prop := ((0 ≤ (x4 + (1 : Int)) ∧ (x4 + (1 : Int)) < (L : Int)) ∧ (inR ((xs (x4 + (1 : Int)).toNat).toInt) → OkW (gB G) (gl G) md_L_takeLast hh_L_takeLast [.ref (ad (gB G) 0), .int (I ((xs (x4 + (1 : Int)).toNat).toInt)), .ref qo] qo f M (fun r2122 M1 f1 => inR r2122 → ((0 ≤ (x4 + (1 : Int)) ∧ (x4 + (1 : Int)) < (L : Int)) ∧ (inR ((xs (x4 + (1 : Int)).toNat).toInt) → OkI (gB G) (gl G) md_X13_takeLast 0 0 [.ref (ad (gB G) 72), .int (I ((xs (x4 + (1 : Int)).toNat).toInt))] (Xo (gB G) qo f1) M1 (fun r2134 M2 => inR r2134 → OkI (gB G) (gl G) md_X13_thrown 0 0 [.ref (ad (gB G) 72)] (Xo (gB G) qo f1) M2 (fun r2140 M3 => inR r2140 → (inR r2140 ∧ inR r2122 ∧ (r2140 = r2122 → (inR r2122 ∧ (r2122 ≠ 0 → L_law_23 G b qo (k + 1) (n + 6) (x4 + 5) M3 f1) ∧ (r2122 = 0 → (∀ z2161 : Int, inR z2161 → (z2161 = 0 ↔ (f1 0) = (I r2134).toInt64) → (inR z2161 ∧ (z2161 = 0 → L_law_23 G b qo (k + 1) (n + 6) (x4 + 5) M3 f1) ∧ (z2161 ≠ 0 → False)))))) ∧ (r2140 ≠ r2122 → False))) NoX) NoX)))))
set_option maxRecDepth 100000 in
set_option maxHeartbeats 4000000 in
theorem go_law_2114 {G : GT} {b L : Nat} {xs : Nat → Int32} {qo k n : Nat} {x4 : Int} {M : Mem} {f : Nat → Int64} (hC : Cx G md_law) (hz : Lz G b L xs) (hk : k + 40 ≤ 601024 ∧ n + 400 ≤ 7293034) (kk : T_law_2114 G b L xs qo k n x4 M f) : L_law_2114 G b qo k n x4 M f := by
  unfold T_law_2114 at kk
  unfold L_law_2114
  refine V_aload_n hC 1 rfl dL_law_2114 ?_
  refine V_aload_n hC 0 rfl dL_law_2115 ?_
  refine V_iload hC 4 rfl dL_law_2116 ?_
  refine V_iconst hC dL_law_2118 ?_
  refine V_iadd hC dL_law_2119 ?_
  obtain ⟨hi, kk⟩ := kk
  refine V_sld hC hz hi dL_law_2120 (fun z => ?_)
  replace kk := kk z
  refine V_aload_n hC 3 rfl dL_law_2121 ?_
  refine V_cW hC (As := [_, _, _]) lw_288 dL_law_2122 (d0 := 60) (by decide) (Rm_law hz) rfl (Nat.le_of_ble_eq_true rfl) (kl hz (by omega) (by omega)) kk (fun r9 M9 f9 z kk => ?_)
  replace kk := kk z
  refine V_istore hC (lv' := [(5, _), (0, _), (1, _), (2, _), (3, _), (4, _)]) (Nat.le_of_ble_eq_true rfl) rfl dL_law_2125 ?_
  refine V_aload_n hC 3 rfl dL_law_2127 ?_
  refine V_aload_n hC 1 rfl dL_law_2128 ?_
  refine V_iload hC 5 rfl dL_law_2129 ?_
  refine V_iconst hC dL_law_2131 ?_
  refine V_iadd hC dL_law_2132 ?_
  obtain ⟨hi, kk⟩ := kk
  refine V_sld hC hz hi dL_law_2133 (fun z => ?_)
  replace kk := kk z
  refine V_cVi hC (As := [_]) lv_L_290 dL_law_2134 (d0 := 60) (by decide) (Rm_law hz) rv_72 rfl (Nat.le_of_ble_eq_true rfl) (kl hz (by omega) (by omega)) kk (fun r9 M9 z kk => ?_)
  replace kk := kk z
  refine V_istore hC (lv' := [(6, _), (5, _), (0, _), (1, _), (2, _), (3, _), (4, _)]) (Nat.le_of_ble_eq_true rfl) rfl dL_law_2137 ?_
  refine V_aload_n hC 4 rfl dL_law_2139 ?_
  refine V_cVi hC (As := []) lv_L_212 dL_law_2140 (d0 := 60) (by decide) (Rm_law hz) rv_72 rfl (Nat.le_of_ble_eq_true rfl) (kl hz (by omega) (by omega)) kk (fun r9 M9 z kk => ?_)
  replace kk := kk z
  refine V_iload hC 1 rfl dL_law_2143 ?_
  obtain ⟨ha, hb, k1, k2⟩ := kk
  refine V_icmp_eq hC 2150 rfl dL_law_2145 ⟨ha, hb, fun z => ?_, fun z => ?_⟩
  · replace kk := k1 z; clear k1 k2
    refine V_iload hC 1 rfl dL_law_2150 ?_
    obtain ⟨ha, k1, k2⟩ := kk
    refine V_if_ne hC 2167 rfl dL_law_2152 ⟨ha, fun z => ?_, fun z => ?_⟩
    · replace kk := k1 z; clear k1 k2
      refine V_goto hC 4661 rfl dL_law_2167 ?_
      refine V_iinc hC (lv' := [(4, _), (6, _), (5, _), (0, _), (1, _), (2, _), (3, _)]) 6 rfl (Nat.le_of_ble_eq_true rfl) rfl dL_law_4661 ?_
      refine V_goto hC 23 rfl dL_law_4664 ?_
      exact V_sub [3, 4, 5, 6, 0] rfl kk
    · replace kk := k2 z; clear k1 k2
      refine V_aload_n hC 5 rfl dL_law_2155 ?_
      refine V_iconst hC dL_law_2156 ?_
      refine V_laldW hC dL_law_2157 ?_
      refine V_iload hC 0 rfl dL_law_2158 ?_
      refine V_i2l hC dL_law_2160 ?_
      refine V_lcmp hC dL_law_2161 (fun z1 z2 z3 => ?_)
      replace kk := kk z1 z2 z3
      obtain ⟨ha, k1, k2⟩ := kk
      refine V_if_eq hC 2167 rfl dL_law_2162 ⟨ha, fun z => ?_, fun z => ?_⟩
      · replace kk := k1 z; clear k1 k2
        refine V_goto hC 4661 rfl dL_law_2167 ?_
        refine V_iinc hC (lv' := [(4, _), (6, _), (5, _), (0, _), (1, _), (2, _), (3, _)]) 6 rfl (Nat.le_of_ble_eq_true rfl) rfl dL_law_4661 ?_
        refine V_goto hC 23 rfl dL_law_4664 ?_
        exact V_sub [3, 4, 5, 6, 0] rfl kk
      · replace kk := k2 z; clear k1 k2
        refine V_iconst hC dL_law_2165 ?_
        exact kk.elim
  · replace kk := k2 z; clear k1 k2
    refine V_iconst hC dL_law_2148 ?_
    exact kk.elim
def L_law_2170 (G : GT) (b qo : Nat) (k n : Nat) (x4 : Int) (M : Mem) (f : Nat → Int64) : Prop := V G md_law k n (Xo (gB G) qo f) M 2170 [(0, .ref b), (1, .ref (ad (gB G) 0)), (2, .ref (ad (gB G) 72)), (3, .ref qo), (4, .int (I x4))] []
def T_law_2170 (G : GT) (b L : Nat) (xs : Nat → Int32) (qo : Nat) (k n : Nat) (x4 : Int) (M : Mem) (f : Nat → Int64) : Prop := ((0 ≤ (x4 + (1 : Int)) ∧ (x4 + (1 : Int)) < (L : Int)) ∧ (inR ((xs (x4 + (1 : Int)).toNat).toInt) → ((0 ≤ (x4 + (2 : Int)) ∧ (x4 + (2 : Int)) < (L : Int)) ∧ (inR ((xs (x4 + (2 : Int)).toNat).toInt) → ((0 ≤ (x4 + (3 : Int)) ∧ (x4 + (3 : Int)) < (L : Int)) ∧ (inR ((xs (x4 + (3 : Int)).toNat).toInt) → OkW (gB G) (gl G) md_L_put hh_L_put [.ref (ad (gB G) 0), .int (I ((xs (x4 + (1 : Int)).toNat).toInt)), .int (I ((xs (x4 + (2 : Int)).toNat).toInt)), .int (I ((xs (x4 + (3 : Int)).toNat).toInt)), .ref qo] qo f M (fun r2190 M1 f1 => inR r2190 → ((0 ≤ (x4 + (1 : Int)) ∧ (x4 + (1 : Int)) < (L : Int)) ∧ (inR ((xs (x4 + (1 : Int)).toNat).toInt) → ((0 ≤ (x4 + (2 : Int)) ∧ (x4 + (2 : Int)) < (L : Int)) ∧ (inR ((xs (x4 + (2 : Int)).toNat).toInt) → ((0 ≤ (x4 + (3 : Int)) ∧ (x4 + (3 : Int)) < (L : Int)) ∧ (inR ((xs (x4 + (3 : Int)).toNat).toInt) → OkI (gB G) (gl G) md_X13_put 0 0 [.ref (ad (gB G) 72), .int (I ((xs (x4 + (1 : Int)).toNat).toInt)), .int (I ((xs (x4 + (2 : Int)).toNat).toInt)), .int (I ((xs (x4 + (3 : Int)).toNat).toInt))] (Xo (gB G) qo f1) M1 (fun r2214 M2 => inR r2214 → OkI (gB G) (gl G) md_X13_thrown 0 0 [.ref (ad (gB G) 72)] (Xo (gB G) qo f1) M2 (fun r2220 M3 => inR r2220 → (inR r2220 ∧ inR r2190 ∧ (r2220 = r2190 → (inR r2190 ∧ (r2190 ≠ 0 → L_law_23 G b qo (k + 1) (n + 6) (x4 + 5) M3 f1) ∧ (r2190 = 0 → (inR r2214 ∧ (r2214 = 0 → (∀ z2248 : Int, inR z2248 → (z2248 = 0 ↔ (f1 0) = (0 : Int64)) → (inR z2248 ∧ (z2248 = 0 → L_law_23 G b qo (k + 1) (n + 6) (x4 + 5) M3 f1) ∧ (z2248 ≠ 0 → False)))) ∧ (r2214 ≠ 0 → (∀ z2248 : Int, inR z2248 → (z2248 = 0 ↔ (f1 0) = (1 : Int64)) → (inR z2248 ∧ (z2248 = 0 → L_law_23 G b qo (k + 1) (n + 6) (x4 + 5) M3 f1) ∧ (z2248 ≠ 0 → False)))))))) ∧ (r2220 ≠ r2190 → False))) NoX) NoX)))))))))))))
set_option maxRecDepth 100000 in
set_option maxHeartbeats 4000000 in
theorem go_law_2170 {G : GT} {b L : Nat} {xs : Nat → Int32} {qo k n : Nat} {x4 : Int} {M : Mem} {f : Nat → Int64} (hC : Cx G md_law) (hz : Lz G b L xs) (hk : k + 40 ≤ 601024 ∧ n + 400 ≤ 7293034) (kk : T_law_2170 G b L xs qo k n x4 M f) : L_law_2170 G b qo k n x4 M f := by
  unfold T_law_2170 at kk
  unfold L_law_2170
  refine V_aload_n hC 1 rfl dL_law_2170 ?_
  refine V_aload_n hC 0 rfl dL_law_2171 ?_
  refine V_iload hC 4 rfl dL_law_2172 ?_
  refine V_iconst hC dL_law_2174 ?_
  refine V_iadd hC dL_law_2175 ?_
  obtain ⟨hi, kk⟩ := kk
  refine V_sld hC hz hi dL_law_2176 (fun z => ?_)
  replace kk := kk z
  refine V_aload_n hC 0 rfl dL_law_2177 ?_
  refine V_iload hC 4 rfl dL_law_2178 ?_
  refine V_iconst hC dL_law_2180 ?_
  refine V_iadd hC dL_law_2181 ?_
  obtain ⟨hi, kk⟩ := kk
  refine V_sld hC hz hi dL_law_2182 (fun z => ?_)
  replace kk := kk z
  refine V_aload_n hC 0 rfl dL_law_2183 ?_
  refine V_iload hC 4 rfl dL_law_2184 ?_
  refine V_iconst hC dL_law_2186 ?_
  refine V_iadd hC dL_law_2187 ?_
  obtain ⟨hi, kk⟩ := kk
  refine V_sld hC hz hi dL_law_2188 (fun z => ?_)
  replace kk := kk z
  refine V_aload_n hC 3 rfl dL_law_2189 ?_
  refine V_cW hC (As := [_, _, _, _, _]) lw_291 dL_law_2190 (d0 := 60) (by decide) (Rm_law hz) rfl (Nat.le_of_ble_eq_true rfl) (kl hz (by omega) (by omega)) kk (fun r9 M9 f9 z kk => ?_)
  replace kk := kk z
  refine V_istore hC (lv' := [(5, _), (0, _), (1, _), (2, _), (3, _), (4, _)]) (Nat.le_of_ble_eq_true rfl) rfl dL_law_2193 ?_
  refine V_aload_n hC 3 rfl dL_law_2195 ?_
  refine V_aload_n hC 1 rfl dL_law_2196 ?_
  refine V_iload hC 5 rfl dL_law_2197 ?_
  refine V_iconst hC dL_law_2199 ?_
  refine V_iadd hC dL_law_2200 ?_
  obtain ⟨hi, kk⟩ := kk
  refine V_sld hC hz hi dL_law_2201 (fun z => ?_)
  replace kk := kk z
  refine V_aload_n hC 1 rfl dL_law_2202 ?_
  refine V_iload hC 5 rfl dL_law_2203 ?_
  refine V_iconst hC dL_law_2205 ?_
  refine V_iadd hC dL_law_2206 ?_
  obtain ⟨hi, kk⟩ := kk
  refine V_sld hC hz hi dL_law_2207 (fun z => ?_)
  replace kk := kk z
  refine V_aload_n hC 1 rfl dL_law_2208 ?_
  refine V_iload hC 5 rfl dL_law_2209 ?_
  refine V_iconst hC dL_law_2211 ?_
  refine V_iadd hC dL_law_2212 ?_
  obtain ⟨hi, kk⟩ := kk
  refine V_sld hC hz hi dL_law_2213 (fun z => ?_)
  replace kk := kk z
  refine V_cVi hC (As := [_, _, _]) lv_L_293 dL_law_2214 (d0 := 60) (by decide) (Rm_law hz) rv_72 rfl (Nat.le_of_ble_eq_true rfl) (kl hz (by omega) (by omega)) kk (fun r9 M9 z kk => ?_)
  replace kk := kk z
  refine V_istore hC (lv' := [(6, _), (5, _), (0, _), (1, _), (2, _), (3, _), (4, _)]) (Nat.le_of_ble_eq_true rfl) rfl dL_law_2217 ?_
  refine V_aload_n hC 4 rfl dL_law_2219 ?_
  refine V_cVi hC (As := []) lv_L_212 dL_law_2220 (d0 := 60) (by decide) (Rm_law hz) rv_72 rfl (Nat.le_of_ble_eq_true rfl) (kl hz (by omega) (by omega)) kk (fun r9 M9 z kk => ?_)
  replace kk := kk z
  refine V_iload hC 1 rfl dL_law_2223 ?_
  obtain ⟨ha, hb, k1, k2⟩ := kk
  refine V_icmp_eq hC 2230 rfl dL_law_2225 ⟨ha, hb, fun z => ?_, fun z => ?_⟩
  · replace kk := k1 z; clear k1 k2
    refine V_iload hC 1 rfl dL_law_2230 ?_
    obtain ⟨ha, k1, k2⟩ := kk
    refine V_if_ne hC 2254 rfl dL_law_2232 ⟨ha, fun z => ?_, fun z => ?_⟩
    · replace kk := k1 z; clear k1 k2
      refine V_goto hC 4661 rfl dL_law_2254 ?_
      refine V_iinc hC (lv' := [(4, _), (6, _), (5, _), (0, _), (1, _), (2, _), (3, _)]) 6 rfl (Nat.le_of_ble_eq_true rfl) rfl dL_law_4661 ?_
      refine V_goto hC 23 rfl dL_law_4664 ?_
      exact V_sub [3, 4, 5, 6, 0] rfl kk
    · replace kk := k2 z; clear k1 k2
      refine V_aload_n hC 5 rfl dL_law_2235 ?_
      refine V_iconst hC dL_law_2236 ?_
      refine V_laldW hC dL_law_2237 ?_
      refine V_iload hC 0 rfl dL_law_2238 ?_
      obtain ⟨ha, k1, k2⟩ := kk
      refine V_if_eq hC 2247 rfl dL_law_2240 ⟨ha, fun z => ?_, fun z => ?_⟩
      · replace kk := k1 z; clear k1 k2
        refine V_lconst hC 0 rfl dL_law_2247 ?_
        refine V_lcmp hC dL_law_2248 (fun z1 z2 z3 => ?_)
        replace kk := kk z1 z2 z3
        obtain ⟨ha, k1, k2⟩ := kk
        refine V_if_eq hC 2254 rfl dL_law_2249 ⟨ha, fun z => ?_, fun z => ?_⟩
        · replace kk := k1 z; clear k1 k2
          refine V_goto hC 4661 rfl dL_law_2254 ?_
          refine V_iinc hC (lv' := [(4, _), (6, _), (5, _), (0, _), (1, _), (2, _), (3, _)]) 6 rfl (Nat.le_of_ble_eq_true rfl) rfl dL_law_4661 ?_
          refine V_goto hC 23 rfl dL_law_4664 ?_
          exact V_sub [3, 4, 5, 6, 0] rfl kk
        · replace kk := k2 z; clear k1 k2
          refine V_iconst hC dL_law_2252 ?_
          exact kk.elim
      · replace kk := k2 z; clear k1 k2
        refine V_lconst hC 1 rfl dL_law_2243 ?_
        refine V_goto hC 2248 rfl dL_law_2244 ?_
        refine V_lcmp hC dL_law_2248 (fun z1 z2 z3 => ?_)
        replace kk := kk z1 z2 z3
        obtain ⟨ha, k1, k2⟩ := kk
        refine V_if_eq hC 2254 rfl dL_law_2249 ⟨ha, fun z => ?_, fun z => ?_⟩
        · replace kk := k1 z; clear k1 k2
          refine V_goto hC 4661 rfl dL_law_2254 ?_
          refine V_iinc hC (lv' := [(4, _), (6, _), (5, _), (0, _), (1, _), (2, _), (3, _)]) 6 rfl (Nat.le_of_ble_eq_true rfl) rfl dL_law_4661 ?_
          refine V_goto hC 23 rfl dL_law_4664 ?_
          exact V_sub [3, 4, 5, 6, 0] rfl kk
        · replace kk := k2 z; clear k1 k2
          refine V_iconst hC dL_law_2252 ?_
          exact kk.elim
  · replace kk := k2 z; clear k1 k2
    refine V_iconst hC dL_law_2228 ?_
    exact kk.elim
def L_law_2257 (G : GT) (b qo : Nat) (k n : Nat) (x4 : Int) (M : Mem) (f : Nat → Int64) : Prop := V G md_law k n (Xo (gB G) qo f) M 2257 [(0, .ref b), (1, .ref (ad (gB G) 0)), (2, .ref (ad (gB G) 72)), (3, .ref qo), (4, .int (I x4))] []
def T_law_2257 (G : GT) (b L : Nat) (xs : Nat → Int32) (qo : Nat) (k n : Nat) (x4 : Int) (M : Mem) (f : Nat → Int64) : Prop := ((0 ≤ (x4 + (1 : Int)) ∧ (x4 + (1 : Int)) < (L : Int)) ∧ (inR ((xs (x4 + (1 : Int)).toNat).toInt) → ((0 ≤ (x4 + (2 : Int)) ∧ (x4 + (2 : Int)) < (L : Int)) ∧ (inR ((xs (x4 + (2 : Int)).toNat).toInt) → ((0 ≤ (x4 + (3 : Int)) ∧ (x4 + (3 : Int)) < (L : Int)) ∧ (inR ((xs (x4 + (3 : Int)).toNat).toInt) → OkW (gB G) (gl G) md_L_get hh_L_get [.ref (ad (gB G) 0), .int (I ((xs (x4 + (1 : Int)).toNat).toInt)), .int (I ((xs (x4 + (2 : Int)).toNat).toInt)), .int (I ((xs (x4 + (3 : Int)).toNat).toInt)), .ref qo] qo f M (fun r2277 M1 f1 => inR r2277 → ((0 ≤ (x4 + (1 : Int)) ∧ (x4 + (1 : Int)) < (L : Int)) ∧ (inR ((xs (x4 + (1 : Int)).toNat).toInt) → ((0 ≤ (x4 + (2 : Int)) ∧ (x4 + (2 : Int)) < (L : Int)) ∧ (inR ((xs (x4 + (2 : Int)).toNat).toInt) → ((0 ≤ (x4 + (3 : Int)) ∧ (x4 + (3 : Int)) < (L : Int)) ∧ (inR ((xs (x4 + (3 : Int)).toNat).toInt) → OkI (gB G) (gl G) md_X13_get 0 0 [.ref (ad (gB G) 72), .int (I ((xs (x4 + (1 : Int)).toNat).toInt)), .int (I ((xs (x4 + (2 : Int)).toNat).toInt)), .int (I ((xs (x4 + (3 : Int)).toNat).toInt))] (Xo (gB G) qo f1) M1 (fun r2301 M2 => inR r2301 → OkI (gB G) (gl G) md_X13_thrown 0 0 [.ref (ad (gB G) 72)] (Xo (gB G) qo f1) M2 (fun r2307 M3 => inR r2307 → (inR r2307 ∧ inR r2277 ∧ (r2307 = r2277 → (inR r2277 ∧ (r2277 ≠ 0 → L_law_23 G b qo (k + 1) (n + 6) (x4 + 5) M3 f1) ∧ (r2277 = 0 → (∀ z2328 : Int, inR z2328 → (z2328 = 0 ↔ (f1 0) = (I r2301).toInt64) → (inR z2328 ∧ (z2328 = 0 → L_law_23 G b qo (k + 1) (n + 6) (x4 + 5) M3 f1) ∧ (z2328 ≠ 0 → False)))))) ∧ (r2307 ≠ r2277 → False))) NoX) NoX)))))))))))))
set_option maxRecDepth 100000 in
set_option maxHeartbeats 4000000 in
theorem go_law_2257 {G : GT} {b L : Nat} {xs : Nat → Int32} {qo k n : Nat} {x4 : Int} {M : Mem} {f : Nat → Int64} (hC : Cx G md_law) (hz : Lz G b L xs) (hk : k + 40 ≤ 601024 ∧ n + 400 ≤ 7293034) (kk : T_law_2257 G b L xs qo k n x4 M f) : L_law_2257 G b qo k n x4 M f := by
  unfold T_law_2257 at kk
  unfold L_law_2257
  refine V_aload_n hC 1 rfl dL_law_2257 ?_
  refine V_aload_n hC 0 rfl dL_law_2258 ?_
  refine V_iload hC 4 rfl dL_law_2259 ?_
  refine V_iconst hC dL_law_2261 ?_
  refine V_iadd hC dL_law_2262 ?_
  obtain ⟨hi, kk⟩ := kk
  refine V_sld hC hz hi dL_law_2263 (fun z => ?_)
  replace kk := kk z
  refine V_aload_n hC 0 rfl dL_law_2264 ?_
  refine V_iload hC 4 rfl dL_law_2265 ?_
  refine V_iconst hC dL_law_2267 ?_
  refine V_iadd hC dL_law_2268 ?_
  obtain ⟨hi, kk⟩ := kk
  refine V_sld hC hz hi dL_law_2269 (fun z => ?_)
  replace kk := kk z
  refine V_aload_n hC 0 rfl dL_law_2270 ?_
  refine V_iload hC 4 rfl dL_law_2271 ?_
  refine V_iconst hC dL_law_2273 ?_
  refine V_iadd hC dL_law_2274 ?_
  obtain ⟨hi, kk⟩ := kk
  refine V_sld hC hz hi dL_law_2275 (fun z => ?_)
  replace kk := kk z
  refine V_aload_n hC 3 rfl dL_law_2276 ?_
  refine V_cW hC (As := [_, _, _, _, _]) lw_294 dL_law_2277 (d0 := 60) (by decide) (Rm_law hz) rfl (Nat.le_of_ble_eq_true rfl) (kl hz (by omega) (by omega)) kk (fun r9 M9 f9 z kk => ?_)
  replace kk := kk z
  refine V_istore hC (lv' := [(5, _), (0, _), (1, _), (2, _), (3, _), (4, _)]) (Nat.le_of_ble_eq_true rfl) rfl dL_law_2280 ?_
  refine V_aload_n hC 3 rfl dL_law_2282 ?_
  refine V_aload_n hC 1 rfl dL_law_2283 ?_
  refine V_iload hC 5 rfl dL_law_2284 ?_
  refine V_iconst hC dL_law_2286 ?_
  refine V_iadd hC dL_law_2287 ?_
  obtain ⟨hi, kk⟩ := kk
  refine V_sld hC hz hi dL_law_2288 (fun z => ?_)
  replace kk := kk z
  refine V_aload_n hC 1 rfl dL_law_2289 ?_
  refine V_iload hC 5 rfl dL_law_2290 ?_
  refine V_iconst hC dL_law_2292 ?_
  refine V_iadd hC dL_law_2293 ?_
  obtain ⟨hi, kk⟩ := kk
  refine V_sld hC hz hi dL_law_2294 (fun z => ?_)
  replace kk := kk z
  refine V_aload_n hC 1 rfl dL_law_2295 ?_
  refine V_iload hC 5 rfl dL_law_2296 ?_
  refine V_iconst hC dL_law_2298 ?_
  refine V_iadd hC dL_law_2299 ?_
  obtain ⟨hi, kk⟩ := kk
  refine V_sld hC hz hi dL_law_2300 (fun z => ?_)
  replace kk := kk z
  refine V_cVi hC (As := [_, _, _]) lv_L_296 dL_law_2301 (d0 := 60) (by decide) (Rm_law hz) rv_72 rfl (Nat.le_of_ble_eq_true rfl) (kl hz (by omega) (by omega)) kk (fun r9 M9 z kk => ?_)
  replace kk := kk z
  refine V_istore hC (lv' := [(6, _), (5, _), (0, _), (1, _), (2, _), (3, _), (4, _)]) (Nat.le_of_ble_eq_true rfl) rfl dL_law_2304 ?_
  refine V_aload_n hC 4 rfl dL_law_2306 ?_
  refine V_cVi hC (As := []) lv_L_212 dL_law_2307 (d0 := 60) (by decide) (Rm_law hz) rv_72 rfl (Nat.le_of_ble_eq_true rfl) (kl hz (by omega) (by omega)) kk (fun r9 M9 z kk => ?_)
  replace kk := kk z
  refine V_iload hC 1 rfl dL_law_2310 ?_
  obtain ⟨ha, hb, k1, k2⟩ := kk
  refine V_icmp_eq hC 2317 rfl dL_law_2312 ⟨ha, hb, fun z => ?_, fun z => ?_⟩
  · replace kk := k1 z; clear k1 k2
    refine V_iload hC 1 rfl dL_law_2317 ?_
    obtain ⟨ha, k1, k2⟩ := kk
    refine V_if_ne hC 2334 rfl dL_law_2319 ⟨ha, fun z => ?_, fun z => ?_⟩
    · replace kk := k1 z; clear k1 k2
      refine V_goto hC 4661 rfl dL_law_2334 ?_
      refine V_iinc hC (lv' := [(4, _), (6, _), (5, _), (0, _), (1, _), (2, _), (3, _)]) 6 rfl (Nat.le_of_ble_eq_true rfl) rfl dL_law_4661 ?_
      refine V_goto hC 23 rfl dL_law_4664 ?_
      exact V_sub [3, 4, 5, 6, 0] rfl kk
    · replace kk := k2 z; clear k1 k2
      refine V_aload_n hC 5 rfl dL_law_2322 ?_
      refine V_iconst hC dL_law_2323 ?_
      refine V_laldW hC dL_law_2324 ?_
      refine V_iload hC 0 rfl dL_law_2325 ?_
      refine V_i2l hC dL_law_2327 ?_
      refine V_lcmp hC dL_law_2328 (fun z1 z2 z3 => ?_)
      replace kk := kk z1 z2 z3
      obtain ⟨ha, k1, k2⟩ := kk
      refine V_if_eq hC 2334 rfl dL_law_2329 ⟨ha, fun z => ?_, fun z => ?_⟩
      · replace kk := k1 z; clear k1 k2
        refine V_goto hC 4661 rfl dL_law_2334 ?_
        refine V_iinc hC (lv' := [(4, _), (6, _), (5, _), (0, _), (1, _), (2, _), (3, _)]) 6 rfl (Nat.le_of_ble_eq_true rfl) rfl dL_law_4661 ?_
        refine V_goto hC 23 rfl dL_law_4664 ?_
        exact V_sub [3, 4, 5, 6, 0] rfl kk
      · replace kk := k2 z; clear k1 k2
        refine V_iconst hC dL_law_2332 ?_
        exact kk.elim
  · replace kk := k2 z; clear k1 k2
    refine V_iconst hC dL_law_2315 ?_
    exact kk.elim
def L_law_2337 (G : GT) (b qo : Nat) (k n : Nat) (x4 : Int) (M : Mem) (f : Nat → Int64) : Prop := V G md_law k n (Xo (gB G) qo f) M 2337 [(0, .ref b), (1, .ref (ad (gB G) 0)), (2, .ref (ad (gB G) 72)), (3, .ref qo), (4, .int (I x4))] []
def T_law_2337 (G : GT) (b L : Nat) (xs : Nat → Int32) (qo : Nat) (k n : Nat) (x4 : Int) (M : Mem) (f : Nat → Int64) : Prop := ((0 ≤ (x4 + (1 : Int)) ∧ (x4 + (1 : Int)) < (L : Int)) ∧ (inR ((xs (x4 + (1 : Int)).toNat).toInt) → ((0 ≤ (x4 + (2 : Int)) ∧ (x4 + (2 : Int)) < (L : Int)) ∧ (inR ((xs (x4 + (2 : Int)).toNat).toInt) → OkW (gB G) (gl G) md_L_remove hh_L_remove [.ref (ad (gB G) 0), .int (I ((xs (x4 + (1 : Int)).toNat).toInt)), .int (I ((xs (x4 + (2 : Int)).toNat).toInt)), .ref qo] qo f M (fun r2351 M1 f1 => inR r2351 → ((0 ≤ (x4 + (1 : Int)) ∧ (x4 + (1 : Int)) < (L : Int)) ∧ (inR ((xs (x4 + (1 : Int)).toNat).toInt) → ((0 ≤ (x4 + (2 : Int)) ∧ (x4 + (2 : Int)) < (L : Int)) ∧ (inR ((xs (x4 + (2 : Int)).toNat).toInt) → OkI (gB G) (gl G) md_X13_remove 0 0 [.ref (ad (gB G) 72), .int (I ((xs (x4 + (1 : Int)).toNat).toInt)), .int (I ((xs (x4 + (2 : Int)).toNat).toInt))] (Xo (gB G) qo f1) M1 (fun r2369 M2 => inR r2369 → OkI (gB G) (gl G) md_X13_thrown 0 0 [.ref (ad (gB G) 72)] (Xo (gB G) qo f1) M2 (fun r2375 M3 => inR r2375 → (inR r2375 ∧ inR r2351 ∧ (r2375 = r2351 → (inR r2351 ∧ (r2351 ≠ 0 → L_law_23 G b qo (k + 1) (n + 6) (x4 + 5) M3 f1) ∧ (r2351 = 0 → (inR r2369 ∧ (r2369 = 0 → (∀ z2403 : Int, inR z2403 → (z2403 = 0 ↔ (f1 0) = (0 : Int64)) → (inR z2403 ∧ (z2403 = 0 → L_law_23 G b qo (k + 1) (n + 6) (x4 + 5) M3 f1) ∧ (z2403 ≠ 0 → False)))) ∧ (r2369 ≠ 0 → (∀ z2403 : Int, inR z2403 → (z2403 = 0 ↔ (f1 0) = (1 : Int64)) → (inR z2403 ∧ (z2403 = 0 → L_law_23 G b qo (k + 1) (n + 6) (x4 + 5) M3 f1) ∧ (z2403 ≠ 0 → False)))))))) ∧ (r2375 ≠ r2351 → False))) NoX) NoX)))))))))
set_option maxRecDepth 100000 in
set_option maxHeartbeats 4000000 in
theorem go_law_2337 {G : GT} {b L : Nat} {xs : Nat → Int32} {qo k n : Nat} {x4 : Int} {M : Mem} {f : Nat → Int64} (hC : Cx G md_law) (hz : Lz G b L xs) (hk : k + 40 ≤ 601024 ∧ n + 400 ≤ 7293034) (kk : T_law_2337 G b L xs qo k n x4 M f) : L_law_2337 G b qo k n x4 M f := by
  unfold T_law_2337 at kk
  unfold L_law_2337
  refine V_aload_n hC 1 rfl dL_law_2337 ?_
  refine V_aload_n hC 0 rfl dL_law_2338 ?_
  refine V_iload hC 4 rfl dL_law_2339 ?_
  refine V_iconst hC dL_law_2341 ?_
  refine V_iadd hC dL_law_2342 ?_
  obtain ⟨hi, kk⟩ := kk
  refine V_sld hC hz hi dL_law_2343 (fun z => ?_)
  replace kk := kk z
  refine V_aload_n hC 0 rfl dL_law_2344 ?_
  refine V_iload hC 4 rfl dL_law_2345 ?_
  refine V_iconst hC dL_law_2347 ?_
  refine V_iadd hC dL_law_2348 ?_
  obtain ⟨hi, kk⟩ := kk
  refine V_sld hC hz hi dL_law_2349 (fun z => ?_)
  replace kk := kk z
  refine V_aload_n hC 3 rfl dL_law_2350 ?_
  refine V_cW hC (As := [_, _, _, _]) lw_297 dL_law_2351 (d0 := 60) (by decide) (Rm_law hz) rfl (Nat.le_of_ble_eq_true rfl) (kl hz (by omega) (by omega)) kk (fun r9 M9 f9 z kk => ?_)
  replace kk := kk z
  refine V_istore hC (lv' := [(5, _), (0, _), (1, _), (2, _), (3, _), (4, _)]) (Nat.le_of_ble_eq_true rfl) rfl dL_law_2354 ?_
  refine V_aload_n hC 3 rfl dL_law_2356 ?_
  refine V_aload_n hC 1 rfl dL_law_2357 ?_
  refine V_iload hC 5 rfl dL_law_2358 ?_
  refine V_iconst hC dL_law_2360 ?_
  refine V_iadd hC dL_law_2361 ?_
  obtain ⟨hi, kk⟩ := kk
  refine V_sld hC hz hi dL_law_2362 (fun z => ?_)
  replace kk := kk z
  refine V_aload_n hC 1 rfl dL_law_2363 ?_
  refine V_iload hC 5 rfl dL_law_2364 ?_
  refine V_iconst hC dL_law_2366 ?_
  refine V_iadd hC dL_law_2367 ?_
  obtain ⟨hi, kk⟩ := kk
  refine V_sld hC hz hi dL_law_2368 (fun z => ?_)
  replace kk := kk z
  refine V_cVi hC (As := [_, _]) lv_L_299 dL_law_2369 (d0 := 60) (by decide) (Rm_law hz) rv_72 rfl (Nat.le_of_ble_eq_true rfl) (kl hz (by omega) (by omega)) kk (fun r9 M9 z kk => ?_)
  replace kk := kk z
  refine V_istore hC (lv' := [(6, _), (5, _), (0, _), (1, _), (2, _), (3, _), (4, _)]) (Nat.le_of_ble_eq_true rfl) rfl dL_law_2372 ?_
  refine V_aload_n hC 4 rfl dL_law_2374 ?_
  refine V_cVi hC (As := []) lv_L_212 dL_law_2375 (d0 := 60) (by decide) (Rm_law hz) rv_72 rfl (Nat.le_of_ble_eq_true rfl) (kl hz (by omega) (by omega)) kk (fun r9 M9 z kk => ?_)
  replace kk := kk z
  refine V_iload hC 1 rfl dL_law_2378 ?_
  obtain ⟨ha, hb, k1, k2⟩ := kk
  refine V_icmp_eq hC 2385 rfl dL_law_2380 ⟨ha, hb, fun z => ?_, fun z => ?_⟩
  · replace kk := k1 z; clear k1 k2
    refine V_iload hC 1 rfl dL_law_2385 ?_
    obtain ⟨ha, k1, k2⟩ := kk
    refine V_if_ne hC 2409 rfl dL_law_2387 ⟨ha, fun z => ?_, fun z => ?_⟩
    · replace kk := k1 z; clear k1 k2
      refine V_goto hC 4661 rfl dL_law_2409 ?_
      refine V_iinc hC (lv' := [(4, _), (6, _), (5, _), (0, _), (1, _), (2, _), (3, _)]) 6 rfl (Nat.le_of_ble_eq_true rfl) rfl dL_law_4661 ?_
      refine V_goto hC 23 rfl dL_law_4664 ?_
      exact V_sub [3, 4, 5, 6, 0] rfl kk
    · replace kk := k2 z; clear k1 k2
      refine V_aload_n hC 5 rfl dL_law_2390 ?_
      refine V_iconst hC dL_law_2391 ?_
      refine V_laldW hC dL_law_2392 ?_
      refine V_iload hC 0 rfl dL_law_2393 ?_
      obtain ⟨ha, k1, k2⟩ := kk
      refine V_if_eq hC 2402 rfl dL_law_2395 ⟨ha, fun z => ?_, fun z => ?_⟩
      · replace kk := k1 z; clear k1 k2
        refine V_lconst hC 0 rfl dL_law_2402 ?_
        refine V_lcmp hC dL_law_2403 (fun z1 z2 z3 => ?_)
        replace kk := kk z1 z2 z3
        obtain ⟨ha, k1, k2⟩ := kk
        refine V_if_eq hC 2409 rfl dL_law_2404 ⟨ha, fun z => ?_, fun z => ?_⟩
        · replace kk := k1 z; clear k1 k2
          refine V_goto hC 4661 rfl dL_law_2409 ?_
          refine V_iinc hC (lv' := [(4, _), (6, _), (5, _), (0, _), (1, _), (2, _), (3, _)]) 6 rfl (Nat.le_of_ble_eq_true rfl) rfl dL_law_4661 ?_
          refine V_goto hC 23 rfl dL_law_4664 ?_
          exact V_sub [3, 4, 5, 6, 0] rfl kk
        · replace kk := k2 z; clear k1 k2
          refine V_iconst hC dL_law_2407 ?_
          exact kk.elim
      · replace kk := k2 z; clear k1 k2
        refine V_lconst hC 1 rfl dL_law_2398 ?_
        refine V_goto hC 2403 rfl dL_law_2399 ?_
        refine V_lcmp hC dL_law_2403 (fun z1 z2 z3 => ?_)
        replace kk := kk z1 z2 z3
        obtain ⟨ha, k1, k2⟩ := kk
        refine V_if_eq hC 2409 rfl dL_law_2404 ⟨ha, fun z => ?_, fun z => ?_⟩
        · replace kk := k1 z; clear k1 k2
          refine V_goto hC 4661 rfl dL_law_2409 ?_
          refine V_iinc hC (lv' := [(4, _), (6, _), (5, _), (0, _), (1, _), (2, _), (3, _)]) 6 rfl (Nat.le_of_ble_eq_true rfl) rfl dL_law_4661 ?_
          refine V_goto hC 23 rfl dL_law_4664 ?_
          exact V_sub [3, 4, 5, 6, 0] rfl kk
        · replace kk := k2 z; clear k1 k2
          refine V_iconst hC dL_law_2407 ?_
          exact kk.elim
  · replace kk := k2 z; clear k1 k2
    refine V_iconst hC dL_law_2383 ?_
    exact kk.elim
def L_law_2412 (G : GT) (b qo : Nat) (k n : Nat) (x4 : Int) (M : Mem) (f : Nat → Int64) : Prop := V G md_law k n (Xo (gB G) qo f) M 2412 [(0, .ref b), (1, .ref (ad (gB G) 0)), (2, .ref (ad (gB G) 72)), (3, .ref qo), (4, .int (I x4))] []
def T_law_2412 (G : GT) (b L : Nat) (xs : Nat → Int32) (qo : Nat) (k n : Nat) (x4 : Int) (M : Mem) (f : Nat → Int64) : Prop := ((0 ≤ (x4 + (1 : Int)) ∧ (x4 + (1 : Int)) < (L : Int)) ∧ (inR ((xs (x4 + (1 : Int)).toNat).toInt) → ((0 ≤ (x4 + (2 : Int)) ∧ (x4 + (2 : Int)) < (L : Int)) ∧ (inR ((xs (x4 + (2 : Int)).toNat).toInt) → OkW (gB G) (gl G) md_L_intern hh_L_intern [.ref (ad (gB G) 0), .int (I ((xs (x4 + (1 : Int)).toNat).toInt)), .int (I ((xs (x4 + (2 : Int)).toNat).toInt)), .ref qo] qo f M (fun r2426 M1 f1 => inR r2426 → ((0 ≤ (x4 + (1 : Int)) ∧ (x4 + (1 : Int)) < (L : Int)) ∧ (inR ((xs (x4 + (1 : Int)).toNat).toInt) → ((0 ≤ (x4 + (2 : Int)) ∧ (x4 + (2 : Int)) < (L : Int)) ∧ (inR ((xs (x4 + (2 : Int)).toNat).toInt) → OkI (gB G) (gl G) md_X13_intern 0 0 [.ref (ad (gB G) 72), .int (I ((xs (x4 + (1 : Int)).toNat).toInt)), .int (I ((xs (x4 + (2 : Int)).toNat).toInt))] (Xo (gB G) qo f1) M1 (fun r2444 M2 => inR r2444 → OkI (gB G) (gl G) md_X13_thrown 0 0 [.ref (ad (gB G) 72)] (Xo (gB G) qo f1) M2 (fun r2450 M3 => inR r2450 → (inR r2450 ∧ inR r2426 ∧ (r2450 = r2426 → (inR r2426 ∧ (r2426 ≠ 0 → L_law_23 G b qo (k + 1) (n + 6) (x4 + 5) M3 f1) ∧ (r2426 = 0 → (∀ z2471 : Int, inR z2471 → (z2471 = 0 ↔ (f1 0) = (I r2444).toInt64) → (inR z2471 ∧ (z2471 = 0 → L_law_23 G b qo (k + 1) (n + 6) (x4 + 5) M3 f1) ∧ (z2471 ≠ 0 → False)))))) ∧ (r2450 ≠ r2426 → False))) NoX) NoX)))))))))
set_option maxRecDepth 100000 in
set_option maxHeartbeats 4000000 in
theorem go_law_2412 {G : GT} {b L : Nat} {xs : Nat → Int32} {qo k n : Nat} {x4 : Int} {M : Mem} {f : Nat → Int64} (hC : Cx G md_law) (hz : Lz G b L xs) (hk : k + 40 ≤ 601024 ∧ n + 400 ≤ 7293034) (kk : T_law_2412 G b L xs qo k n x4 M f) : L_law_2412 G b qo k n x4 M f := by
  unfold T_law_2412 at kk
  unfold L_law_2412
  refine V_aload_n hC 1 rfl dL_law_2412 ?_
  refine V_aload_n hC 0 rfl dL_law_2413 ?_
  refine V_iload hC 4 rfl dL_law_2414 ?_
  refine V_iconst hC dL_law_2416 ?_
  refine V_iadd hC dL_law_2417 ?_
  obtain ⟨hi, kk⟩ := kk
  refine V_sld hC hz hi dL_law_2418 (fun z => ?_)
  replace kk := kk z
  refine V_aload_n hC 0 rfl dL_law_2419 ?_
  refine V_iload hC 4 rfl dL_law_2420 ?_
  refine V_iconst hC dL_law_2422 ?_
  refine V_iadd hC dL_law_2423 ?_
  obtain ⟨hi, kk⟩ := kk
  refine V_sld hC hz hi dL_law_2424 (fun z => ?_)
  replace kk := kk z
  refine V_aload_n hC 3 rfl dL_law_2425 ?_
  refine V_cW hC (As := [_, _, _, _]) lw_300 dL_law_2426 (d0 := 60) (by decide) (Rm_law hz) rfl (Nat.le_of_ble_eq_true rfl) (kl hz (by omega) (by omega)) kk (fun r9 M9 f9 z kk => ?_)
  replace kk := kk z
  refine V_istore hC (lv' := [(5, _), (0, _), (1, _), (2, _), (3, _), (4, _)]) (Nat.le_of_ble_eq_true rfl) rfl dL_law_2429 ?_
  refine V_aload_n hC 3 rfl dL_law_2431 ?_
  refine V_aload_n hC 1 rfl dL_law_2432 ?_
  refine V_iload hC 5 rfl dL_law_2433 ?_
  refine V_iconst hC dL_law_2435 ?_
  refine V_iadd hC dL_law_2436 ?_
  obtain ⟨hi, kk⟩ := kk
  refine V_sld hC hz hi dL_law_2437 (fun z => ?_)
  replace kk := kk z
  refine V_aload_n hC 1 rfl dL_law_2438 ?_
  refine V_iload hC 5 rfl dL_law_2439 ?_
  refine V_iconst hC dL_law_2441 ?_
  refine V_iadd hC dL_law_2442 ?_
  obtain ⟨hi, kk⟩ := kk
  refine V_sld hC hz hi dL_law_2443 (fun z => ?_)
  replace kk := kk z
  refine V_cVi hC (As := [_, _]) lv_L_302 dL_law_2444 (d0 := 60) (by decide) (Rm_law hz) rv_72 rfl (Nat.le_of_ble_eq_true rfl) (kl hz (by omega) (by omega)) kk (fun r9 M9 z kk => ?_)
  replace kk := kk z
  refine V_istore hC (lv' := [(6, _), (5, _), (0, _), (1, _), (2, _), (3, _), (4, _)]) (Nat.le_of_ble_eq_true rfl) rfl dL_law_2447 ?_
  refine V_aload_n hC 4 rfl dL_law_2449 ?_
  refine V_cVi hC (As := []) lv_L_212 dL_law_2450 (d0 := 60) (by decide) (Rm_law hz) rv_72 rfl (Nat.le_of_ble_eq_true rfl) (kl hz (by omega) (by omega)) kk (fun r9 M9 z kk => ?_)
  replace kk := kk z
  refine V_iload hC 1 rfl dL_law_2453 ?_
  obtain ⟨ha, hb, k1, k2⟩ := kk
  refine V_icmp_eq hC 2460 rfl dL_law_2455 ⟨ha, hb, fun z => ?_, fun z => ?_⟩
  · replace kk := k1 z; clear k1 k2
    refine V_iload hC 1 rfl dL_law_2460 ?_
    obtain ⟨ha, k1, k2⟩ := kk
    refine V_if_ne hC 2477 rfl dL_law_2462 ⟨ha, fun z => ?_, fun z => ?_⟩
    · replace kk := k1 z; clear k1 k2
      refine V_goto hC 4661 rfl dL_law_2477 ?_
      refine V_iinc hC (lv' := [(4, _), (6, _), (5, _), (0, _), (1, _), (2, _), (3, _)]) 6 rfl (Nat.le_of_ble_eq_true rfl) rfl dL_law_4661 ?_
      refine V_goto hC 23 rfl dL_law_4664 ?_
      exact V_sub [3, 4, 5, 6, 0] rfl kk
    · replace kk := k2 z; clear k1 k2
      refine V_aload_n hC 5 rfl dL_law_2465 ?_
      refine V_iconst hC dL_law_2466 ?_
      refine V_laldW hC dL_law_2467 ?_
      refine V_iload hC 0 rfl dL_law_2468 ?_
      refine V_i2l hC dL_law_2470 ?_
      refine V_lcmp hC dL_law_2471 (fun z1 z2 z3 => ?_)
      replace kk := kk z1 z2 z3
      obtain ⟨ha, k1, k2⟩ := kk
      refine V_if_eq hC 2477 rfl dL_law_2472 ⟨ha, fun z => ?_, fun z => ?_⟩
      · replace kk := k1 z; clear k1 k2
        refine V_goto hC 4661 rfl dL_law_2477 ?_
        refine V_iinc hC (lv' := [(4, _), (6, _), (5, _), (0, _), (1, _), (2, _), (3, _)]) 6 rfl (Nat.le_of_ble_eq_true rfl) rfl dL_law_4661 ?_
        refine V_goto hC 23 rfl dL_law_4664 ?_
        exact V_sub [3, 4, 5, 6, 0] rfl kk
      · replace kk := k2 z; clear k1 k2
        refine V_iconst hC dL_law_2475 ?_
        exact kk.elim
  · replace kk := k2 z; clear k1 k2
    refine V_iconst hC dL_law_2458 ?_
    exact kk.elim
def L_law_2480 (G : GT) (b qo : Nat) (k n : Nat) (x4 : Int) (M : Mem) (f : Nat → Int64) : Prop := V G md_law k n (Xo (gB G) qo f) M 2480 [(0, .ref b), (1, .ref (ad (gB G) 0)), (2, .ref (ad (gB G) 72)), (3, .ref qo), (4, .int (I x4))] []
def T_law_2480 (G : GT) (b L : Nat) (xs : Nat → Int32) (qo : Nat) (k n : Nat) (x4 : Int) (M : Mem) (f : Nat → Int64) : Prop := ((0 ≤ (x4 + (1 : Int)) ∧ (x4 + (1 : Int)) < (L : Int)) ∧ (inR ((xs (x4 + (1 : Int)).toNat).toInt) → ((0 ≤ (x4 + (2 : Int)) ∧ (x4 + (2 : Int)) < (L : Int)) ∧ (inR ((xs (x4 + (2 : Int)).toNat).toInt) → OkW (gB G) (gl G) md_L_deepCopy hh_L_deepCopy [.ref (ad (gB G) 0), .int (I ((xs (x4 + (1 : Int)).toNat).toInt)), .int (I ((xs (x4 + (2 : Int)).toNat).toInt)), .ref qo] qo f M (fun r2494 M1 f1 => inR r2494 → ((0 ≤ (x4 + (1 : Int)) ∧ (x4 + (1 : Int)) < (L : Int)) ∧ (inR ((xs (x4 + (1 : Int)).toNat).toInt) → ((0 ≤ (x4 + (2 : Int)) ∧ (x4 + (2 : Int)) < (L : Int)) ∧ (inR ((xs (x4 + (2 : Int)).toNat).toInt) → OkI (gB G) (gl G) md_X13_deepCopy 0 0 [.ref (ad (gB G) 72), .int (I ((xs (x4 + (1 : Int)).toNat).toInt)), .int (I ((xs (x4 + (2 : Int)).toNat).toInt))] (Xo (gB G) qo f1) M1 (fun r2512 M2 => inR r2512 → OkI (gB G) (gl G) md_X13_thrown 0 0 [.ref (ad (gB G) 72)] (Xo (gB G) qo f1) M2 (fun r2518 M3 => inR r2518 → (inR r2518 ∧ inR r2494 ∧ (r2518 = r2494 → (inR r2494 ∧ (r2494 ≠ 0 → L_law_23 G b qo (k + 1) (n + 6) (x4 + 5) M3 f1) ∧ (r2494 = 0 → (∀ z2539 : Int, inR z2539 → (z2539 = 0 ↔ (f1 0) = (I r2512).toInt64) → (inR z2539 ∧ (z2539 = 0 → L_law_23 G b qo (k + 1) (n + 6) (x4 + 5) M3 f1) ∧ (z2539 ≠ 0 → False)))))) ∧ (r2518 ≠ r2494 → False))) NoX) NoX)))))))))
set_option maxRecDepth 100000 in
set_option maxHeartbeats 4000000 in
theorem go_law_2480 {G : GT} {b L : Nat} {xs : Nat → Int32} {qo k n : Nat} {x4 : Int} {M : Mem} {f : Nat → Int64} (hC : Cx G md_law) (hz : Lz G b L xs) (hk : k + 40 ≤ 601024 ∧ n + 400 ≤ 7293034) (kk : T_law_2480 G b L xs qo k n x4 M f) : L_law_2480 G b qo k n x4 M f := by
  unfold T_law_2480 at kk
  unfold L_law_2480
  refine V_aload_n hC 1 rfl dL_law_2480 ?_
  refine V_aload_n hC 0 rfl dL_law_2481 ?_
  refine V_iload hC 4 rfl dL_law_2482 ?_
  refine V_iconst hC dL_law_2484 ?_
  refine V_iadd hC dL_law_2485 ?_
  obtain ⟨hi, kk⟩ := kk
  refine V_sld hC hz hi dL_law_2486 (fun z => ?_)
  replace kk := kk z
  refine V_aload_n hC 0 rfl dL_law_2487 ?_
  refine V_iload hC 4 rfl dL_law_2488 ?_
  refine V_iconst hC dL_law_2490 ?_
  refine V_iadd hC dL_law_2491 ?_
  obtain ⟨hi, kk⟩ := kk
  refine V_sld hC hz hi dL_law_2492 (fun z => ?_)
  replace kk := kk z
  refine V_aload_n hC 3 rfl dL_law_2493 ?_
  refine V_cW hC (As := [_, _, _, _]) lw_303 dL_law_2494 (d0 := 60) (by decide) (Rm_law hz) rfl (Nat.le_of_ble_eq_true rfl) (kl hz (by omega) (by omega)) kk (fun r9 M9 f9 z kk => ?_)
  replace kk := kk z
  refine V_istore hC (lv' := [(5, _), (0, _), (1, _), (2, _), (3, _), (4, _)]) (Nat.le_of_ble_eq_true rfl) rfl dL_law_2497 ?_
  refine V_aload_n hC 3 rfl dL_law_2499 ?_
  refine V_aload_n hC 1 rfl dL_law_2500 ?_
  refine V_iload hC 5 rfl dL_law_2501 ?_
  refine V_iconst hC dL_law_2503 ?_
  refine V_iadd hC dL_law_2504 ?_
  obtain ⟨hi, kk⟩ := kk
  refine V_sld hC hz hi dL_law_2505 (fun z => ?_)
  replace kk := kk z
  refine V_aload_n hC 1 rfl dL_law_2506 ?_
  refine V_iload hC 5 rfl dL_law_2507 ?_
  refine V_iconst hC dL_law_2509 ?_
  refine V_iadd hC dL_law_2510 ?_
  obtain ⟨hi, kk⟩ := kk
  refine V_sld hC hz hi dL_law_2511 (fun z => ?_)
  replace kk := kk z
  refine V_cVi hC (As := [_, _]) lv_L_305 dL_law_2512 (d0 := 60) (by decide) (Rm_law hz) rv_72 rfl (Nat.le_of_ble_eq_true rfl) (kl hz (by omega) (by omega)) kk (fun r9 M9 z kk => ?_)
  replace kk := kk z
  refine V_istore hC (lv' := [(6, _), (5, _), (0, _), (1, _), (2, _), (3, _), (4, _)]) (Nat.le_of_ble_eq_true rfl) rfl dL_law_2515 ?_
  refine V_aload_n hC 4 rfl dL_law_2517 ?_
  refine V_cVi hC (As := []) lv_L_212 dL_law_2518 (d0 := 60) (by decide) (Rm_law hz) rv_72 rfl (Nat.le_of_ble_eq_true rfl) (kl hz (by omega) (by omega)) kk (fun r9 M9 z kk => ?_)
  replace kk := kk z
  refine V_iload hC 1 rfl dL_law_2521 ?_
  obtain ⟨ha, hb, k1, k2⟩ := kk
  refine V_icmp_eq hC 2528 rfl dL_law_2523 ⟨ha, hb, fun z => ?_, fun z => ?_⟩
  · replace kk := k1 z; clear k1 k2
    refine V_iload hC 1 rfl dL_law_2528 ?_
    obtain ⟨ha, k1, k2⟩ := kk
    refine V_if_ne hC 2545 rfl dL_law_2530 ⟨ha, fun z => ?_, fun z => ?_⟩
    · replace kk := k1 z; clear k1 k2
      refine V_goto hC 4661 rfl dL_law_2545 ?_
      refine V_iinc hC (lv' := [(4, _), (6, _), (5, _), (0, _), (1, _), (2, _), (3, _)]) 6 rfl (Nat.le_of_ble_eq_true rfl) rfl dL_law_4661 ?_
      refine V_goto hC 23 rfl dL_law_4664 ?_
      exact V_sub [3, 4, 5, 6, 0] rfl kk
    · replace kk := k2 z; clear k1 k2
      refine V_aload_n hC 5 rfl dL_law_2533 ?_
      refine V_iconst hC dL_law_2534 ?_
      refine V_laldW hC dL_law_2535 ?_
      refine V_iload hC 0 rfl dL_law_2536 ?_
      refine V_i2l hC dL_law_2538 ?_
      refine V_lcmp hC dL_law_2539 (fun z1 z2 z3 => ?_)
      replace kk := kk z1 z2 z3
      obtain ⟨ha, k1, k2⟩ := kk
      refine V_if_eq hC 2545 rfl dL_law_2540 ⟨ha, fun z => ?_, fun z => ?_⟩
      · replace kk := k1 z; clear k1 k2
        refine V_goto hC 4661 rfl dL_law_2545 ?_
        refine V_iinc hC (lv' := [(4, _), (6, _), (5, _), (0, _), (1, _), (2, _), (3, _)]) 6 rfl (Nat.le_of_ble_eq_true rfl) rfl dL_law_4661 ?_
        refine V_goto hC 23 rfl dL_law_4664 ?_
        exact V_sub [3, 4, 5, 6, 0] rfl kk
      · replace kk := k2 z; clear k1 k2
        refine V_iconst hC dL_law_2543 ?_
        exact kk.elim
  · replace kk := k2 z; clear k1 k2
    refine V_iconst hC dL_law_2526 ?_
    exact kk.elim
def L_law_2548 (G : GT) (b qo : Nat) (k n : Nat) (x4 : Int) (M : Mem) (f : Nat → Int64) : Prop := V G md_law k n (Xo (gB G) qo f) M 2548 [(0, .ref b), (1, .ref (ad (gB G) 0)), (2, .ref (ad (gB G) 72)), (3, .ref qo), (4, .int (I x4))] []
def T_law_2548 (G : GT) (b L : Nat) (xs : Nat → Int32) (qo : Nat) (k n : Nat) (x4 : Int) (M : Mem) (f : Nat → Int64) : Prop := ((0 ≤ (x4 + (1 : Int)) ∧ (x4 + (1 : Int)) < (L : Int)) ∧ (inR ((xs (x4 + (1 : Int)).toNat).toInt) → OkW (gB G) (gl G) md_L_writeImage hh_L_writeImage [.ref (ad (gB G) 0), .int (I ((xs (x4 + (1 : Int)).toNat).toInt)), .ref qo] qo f M (fun r2556 M1 f1 => inR r2556 → ((0 ≤ (x4 + (1 : Int)) ∧ (x4 + (1 : Int)) < (L : Int)) ∧ (inR ((xs (x4 + (1 : Int)).toNat).toInt) → OkI (gB G) (gl G) md_X13_writeImage 0 0 [.ref (ad (gB G) 72), .int (I ((xs (x4 + (1 : Int)).toNat).toInt))] (Xo (gB G) qo f1) M1 (fun r2568 M2 => inR r2568 → OkI (gB G) (gl G) md_X13_thrown 0 0 [.ref (ad (gB G) 72)] (Xo (gB G) qo f1) M2 (fun r2574 M3 => inR r2574 → (inR r2574 ∧ inR r2556 ∧ (r2574 = r2556 → (inR r2556 ∧ (r2556 ≠ 0 → L_law_23 G b qo (k + 1) (n + 6) (x4 + 5) M3 f1) ∧ (r2556 = 0 → (∀ z2595 : Int, inR z2595 → (z2595 = 0 ↔ (f1 0) = (I r2568).toInt64) → (inR z2595 ∧ (z2595 = 0 → L_law_23 G b qo (k + 1) (n + 6) (x4 + 5) M3 f1) ∧ (z2595 ≠ 0 → False)))))) ∧ (r2574 ≠ r2556 → False))) NoX) NoX)))))
set_option maxRecDepth 100000 in
set_option maxHeartbeats 4000000 in
theorem go_law_2548 {G : GT} {b L : Nat} {xs : Nat → Int32} {qo k n : Nat} {x4 : Int} {M : Mem} {f : Nat → Int64} (hC : Cx G md_law) (hz : Lz G b L xs) (hk : k + 40 ≤ 601024 ∧ n + 400 ≤ 7293034) (kk : T_law_2548 G b L xs qo k n x4 M f) : L_law_2548 G b qo k n x4 M f := by
  unfold T_law_2548 at kk
  unfold L_law_2548
  refine V_aload_n hC 1 rfl dL_law_2548 ?_
  refine V_aload_n hC 0 rfl dL_law_2549 ?_
  refine V_iload hC 4 rfl dL_law_2550 ?_
  refine V_iconst hC dL_law_2552 ?_
  refine V_iadd hC dL_law_2553 ?_
  obtain ⟨hi, kk⟩ := kk
  refine V_sld hC hz hi dL_law_2554 (fun z => ?_)
  replace kk := kk z
  refine V_aload_n hC 3 rfl dL_law_2555 ?_
  refine V_cW hC (As := [_, _, _]) lw_306 dL_law_2556 (d0 := 60) (by decide) (Rm_law hz) rfl (Nat.le_of_ble_eq_true rfl) (kl hz (by omega) (by omega)) kk (fun r9 M9 f9 z kk => ?_)
  replace kk := kk z
  refine V_istore hC (lv' := [(5, _), (0, _), (1, _), (2, _), (3, _), (4, _)]) (Nat.le_of_ble_eq_true rfl) rfl dL_law_2559 ?_
  refine V_aload_n hC 3 rfl dL_law_2561 ?_
  refine V_aload_n hC 1 rfl dL_law_2562 ?_
  refine V_iload hC 5 rfl dL_law_2563 ?_
  refine V_iconst hC dL_law_2565 ?_
  refine V_iadd hC dL_law_2566 ?_
  obtain ⟨hi, kk⟩ := kk
  refine V_sld hC hz hi dL_law_2567 (fun z => ?_)
  replace kk := kk z
  refine V_cVi hC (As := [_]) lv_L_308 dL_law_2568 (d0 := 60) (by decide) (Rm_law hz) rv_72 rfl (Nat.le_of_ble_eq_true rfl) (kl hz (by omega) (by omega)) kk (fun r9 M9 z kk => ?_)
  replace kk := kk z
  refine V_istore hC (lv' := [(6, _), (5, _), (0, _), (1, _), (2, _), (3, _), (4, _)]) (Nat.le_of_ble_eq_true rfl) rfl dL_law_2571 ?_
  refine V_aload_n hC 4 rfl dL_law_2573 ?_
  refine V_cVi hC (As := []) lv_L_212 dL_law_2574 (d0 := 60) (by decide) (Rm_law hz) rv_72 rfl (Nat.le_of_ble_eq_true rfl) (kl hz (by omega) (by omega)) kk (fun r9 M9 z kk => ?_)
  replace kk := kk z
  refine V_iload hC 1 rfl dL_law_2577 ?_
  obtain ⟨ha, hb, k1, k2⟩ := kk
  refine V_icmp_eq hC 2584 rfl dL_law_2579 ⟨ha, hb, fun z => ?_, fun z => ?_⟩
  · replace kk := k1 z; clear k1 k2
    refine V_iload hC 1 rfl dL_law_2584 ?_
    obtain ⟨ha, k1, k2⟩ := kk
    refine V_if_ne hC 2601 rfl dL_law_2586 ⟨ha, fun z => ?_, fun z => ?_⟩
    · replace kk := k1 z; clear k1 k2
      refine V_goto hC 4661 rfl dL_law_2601 ?_
      refine V_iinc hC (lv' := [(4, _), (6, _), (5, _), (0, _), (1, _), (2, _), (3, _)]) 6 rfl (Nat.le_of_ble_eq_true rfl) rfl dL_law_4661 ?_
      refine V_goto hC 23 rfl dL_law_4664 ?_
      exact V_sub [3, 4, 5, 6, 0] rfl kk
    · replace kk := k2 z; clear k1 k2
      refine V_aload_n hC 5 rfl dL_law_2589 ?_
      refine V_iconst hC dL_law_2590 ?_
      refine V_laldW hC dL_law_2591 ?_
      refine V_iload hC 0 rfl dL_law_2592 ?_
      refine V_i2l hC dL_law_2594 ?_
      refine V_lcmp hC dL_law_2595 (fun z1 z2 z3 => ?_)
      replace kk := kk z1 z2 z3
      obtain ⟨ha, k1, k2⟩ := kk
      refine V_if_eq hC 2601 rfl dL_law_2596 ⟨ha, fun z => ?_, fun z => ?_⟩
      · replace kk := k1 z; clear k1 k2
        refine V_goto hC 4661 rfl dL_law_2601 ?_
        refine V_iinc hC (lv' := [(4, _), (6, _), (5, _), (0, _), (1, _), (2, _), (3, _)]) 6 rfl (Nat.le_of_ble_eq_true rfl) rfl dL_law_4661 ?_
        refine V_goto hC 23 rfl dL_law_4664 ?_
        exact V_sub [3, 4, 5, 6, 0] rfl kk
      · replace kk := k2 z; clear k1 k2
        refine V_iconst hC dL_law_2599 ?_
        exact kk.elim
  · replace kk := k2 z; clear k1 k2
    refine V_iconst hC dL_law_2582 ?_
    exact kk.elim
def L_law_2604 (G : GT) (b qo : Nat) (k n : Nat) (x4 : Int) (M : Mem) (f : Nat → Int64) : Prop := V G md_law k n (Xo (gB G) qo f) M 2604 [(0, .ref b), (1, .ref (ad (gB G) 0)), (2, .ref (ad (gB G) 72)), (3, .ref qo), (4, .int (I x4))] []
def T_law_2604 (G : GT) (b L : Nat) (xs : Nat → Int32) (qo : Nat) (k n : Nat) (x4 : Int) (M : Mem) (f : Nat → Int64) : Prop := ((0 ≤ (x4 + (1 : Int)) ∧ (x4 + (1 : Int)) < (L : Int)) ∧ (inR ((xs (x4 + (1 : Int)).toNat).toInt) → ((0 ≤ (x4 + (2 : Int)) ∧ (x4 + (2 : Int)) < (L : Int)) ∧ (inR ((xs (x4 + (2 : Int)).toNat).toInt) → OkW (gB G) (gl G) md_L_setImage hh_L_setImage [.ref (ad (gB G) 0), .int (I ((xs (x4 + (1 : Int)).toNat).toInt)), .int (I ((xs (x4 + (2 : Int)).toNat).toInt)), .ref qo] qo f M (fun r2618 M1 f1 => inR r2618 → ((0 ≤ (x4 + (1 : Int)) ∧ (x4 + (1 : Int)) < (L : Int)) ∧ (inR ((xs (x4 + (1 : Int)).toNat).toInt) → ((0 ≤ (x4 + (2 : Int)) ∧ (x4 + (2 : Int)) < (L : Int)) ∧ (inR ((xs (x4 + (2 : Int)).toNat).toInt) → OkI (gB G) (gl G) md_X13_setImage 0 0 [.ref (ad (gB G) 72), .int (I ((xs (x4 + (1 : Int)).toNat).toInt)), .int (I ((xs (x4 + (2 : Int)).toNat).toInt))] (Xo (gB G) qo f1) M1 (fun r2636 M2 => inR r2636 → OkI (gB G) (gl G) md_X13_thrown 0 0 [.ref (ad (gB G) 72)] (Xo (gB G) qo f1) M2 (fun r2642 M3 => inR r2642 → (inR r2642 ∧ inR r2618 ∧ (r2642 = r2618 → (inR r2618 ∧ (r2618 ≠ 0 → L_law_23 G b qo (k + 1) (n + 6) (x4 + 5) M3 f1) ∧ (r2618 = 0 → (∀ z2663 : Int, inR z2663 → (z2663 = 0 ↔ (f1 0) = (I r2636).toInt64) → (inR z2663 ∧ (z2663 = 0 → L_law_23 G b qo (k + 1) (n + 6) (x4 + 5) M3 f1) ∧ (z2663 ≠ 0 → False)))))) ∧ (r2642 ≠ r2618 → False))) NoX) NoX)))))))))
set_option maxRecDepth 100000 in
set_option maxHeartbeats 4000000 in
theorem go_law_2604 {G : GT} {b L : Nat} {xs : Nat → Int32} {qo k n : Nat} {x4 : Int} {M : Mem} {f : Nat → Int64} (hC : Cx G md_law) (hz : Lz G b L xs) (hk : k + 40 ≤ 601024 ∧ n + 400 ≤ 7293034) (kk : T_law_2604 G b L xs qo k n x4 M f) : L_law_2604 G b qo k n x4 M f := by
  unfold T_law_2604 at kk
  unfold L_law_2604
  refine V_aload_n hC 1 rfl dL_law_2604 ?_
  refine V_aload_n hC 0 rfl dL_law_2605 ?_
  refine V_iload hC 4 rfl dL_law_2606 ?_
  refine V_iconst hC dL_law_2608 ?_
  refine V_iadd hC dL_law_2609 ?_
  obtain ⟨hi, kk⟩ := kk
  refine V_sld hC hz hi dL_law_2610 (fun z => ?_)
  replace kk := kk z
  refine V_aload_n hC 0 rfl dL_law_2611 ?_
  refine V_iload hC 4 rfl dL_law_2612 ?_
  refine V_iconst hC dL_law_2614 ?_
  refine V_iadd hC dL_law_2615 ?_
  obtain ⟨hi, kk⟩ := kk
  refine V_sld hC hz hi dL_law_2616 (fun z => ?_)
  replace kk := kk z
  refine V_aload_n hC 3 rfl dL_law_2617 ?_
  refine V_cW hC (As := [_, _, _, _]) lw_309 dL_law_2618 (d0 := 60) (by decide) (Rm_law hz) rfl (Nat.le_of_ble_eq_true rfl) (kl hz (by omega) (by omega)) kk (fun r9 M9 f9 z kk => ?_)
  replace kk := kk z
  refine V_istore hC (lv' := [(5, _), (0, _), (1, _), (2, _), (3, _), (4, _)]) (Nat.le_of_ble_eq_true rfl) rfl dL_law_2621 ?_
  refine V_aload_n hC 3 rfl dL_law_2623 ?_
  refine V_aload_n hC 1 rfl dL_law_2624 ?_
  refine V_iload hC 5 rfl dL_law_2625 ?_
  refine V_iconst hC dL_law_2627 ?_
  refine V_iadd hC dL_law_2628 ?_
  obtain ⟨hi, kk⟩ := kk
  refine V_sld hC hz hi dL_law_2629 (fun z => ?_)
  replace kk := kk z
  refine V_aload_n hC 1 rfl dL_law_2630 ?_
  refine V_iload hC 5 rfl dL_law_2631 ?_
  refine V_iconst hC dL_law_2633 ?_
  refine V_iadd hC dL_law_2634 ?_
  obtain ⟨hi, kk⟩ := kk
  refine V_sld hC hz hi dL_law_2635 (fun z => ?_)
  replace kk := kk z
  refine V_cVi hC (As := [_, _]) lv_L_311 dL_law_2636 (d0 := 60) (by decide) (Rm_law hz) rv_72 rfl (Nat.le_of_ble_eq_true rfl) (kl hz (by omega) (by omega)) kk (fun r9 M9 z kk => ?_)
  replace kk := kk z
  refine V_istore hC (lv' := [(6, _), (5, _), (0, _), (1, _), (2, _), (3, _), (4, _)]) (Nat.le_of_ble_eq_true rfl) rfl dL_law_2639 ?_
  refine V_aload_n hC 4 rfl dL_law_2641 ?_
  refine V_cVi hC (As := []) lv_L_212 dL_law_2642 (d0 := 60) (by decide) (Rm_law hz) rv_72 rfl (Nat.le_of_ble_eq_true rfl) (kl hz (by omega) (by omega)) kk (fun r9 M9 z kk => ?_)
  replace kk := kk z
  refine V_iload hC 1 rfl dL_law_2645 ?_
  obtain ⟨ha, hb, k1, k2⟩ := kk
  refine V_icmp_eq hC 2652 rfl dL_law_2647 ⟨ha, hb, fun z => ?_, fun z => ?_⟩
  · replace kk := k1 z; clear k1 k2
    refine V_iload hC 1 rfl dL_law_2652 ?_
    obtain ⟨ha, k1, k2⟩ := kk
    refine V_if_ne hC 2669 rfl dL_law_2654 ⟨ha, fun z => ?_, fun z => ?_⟩
    · replace kk := k1 z; clear k1 k2
      refine V_goto hC 4661 rfl dL_law_2669 ?_
      refine V_iinc hC (lv' := [(4, _), (6, _), (5, _), (0, _), (1, _), (2, _), (3, _)]) 6 rfl (Nat.le_of_ble_eq_true rfl) rfl dL_law_4661 ?_
      refine V_goto hC 23 rfl dL_law_4664 ?_
      exact V_sub [3, 4, 5, 6, 0] rfl kk
    · replace kk := k2 z; clear k1 k2
      refine V_aload_n hC 5 rfl dL_law_2657 ?_
      refine V_iconst hC dL_law_2658 ?_
      refine V_laldW hC dL_law_2659 ?_
      refine V_iload hC 0 rfl dL_law_2660 ?_
      refine V_i2l hC dL_law_2662 ?_
      refine V_lcmp hC dL_law_2663 (fun z1 z2 z3 => ?_)
      replace kk := kk z1 z2 z3
      obtain ⟨ha, k1, k2⟩ := kk
      refine V_if_eq hC 2669 rfl dL_law_2664 ⟨ha, fun z => ?_, fun z => ?_⟩
      · replace kk := k1 z; clear k1 k2
        refine V_goto hC 4661 rfl dL_law_2669 ?_
        refine V_iinc hC (lv' := [(4, _), (6, _), (5, _), (0, _), (1, _), (2, _), (3, _)]) 6 rfl (Nat.le_of_ble_eq_true rfl) rfl dL_law_4661 ?_
        refine V_goto hC 23 rfl dL_law_4664 ?_
        exact V_sub [3, 4, 5, 6, 0] rfl kk
      · replace kk := k2 z; clear k1 k2
        refine V_iconst hC dL_law_2667 ?_
        exact kk.elim
  · replace kk := k2 z; clear k1 k2
    refine V_iconst hC dL_law_2650 ?_
    exact kk.elim
def L_law_2672 (G : GT) (b qo : Nat) (k n : Nat) (x4 : Int) (M : Mem) (f : Nat → Int64) : Prop := V G md_law k n (Xo (gB G) qo f) M 2672 [(0, .ref b), (1, .ref (ad (gB G) 0)), (2, .ref (ad (gB G) 72)), (3, .ref qo), (4, .int (I x4))] []
def T_law_2672 (G : GT) (b L : Nat) (xs : Nat → Int32) (qo : Nat) (k n : Nat) (x4 : Int) (M : Mem) (f : Nat → Int64) : Prop := ((0 ≤ (x4 + (1 : Int)) ∧ (x4 + (1 : Int)) < (L : Int)) ∧ (inR ((xs (x4 + (1 : Int)).toNat).toInt) → OkW (gB G) (gl G) md_L_readImage hh_L_readImage [.ref (ad (gB G) 0), .int (I ((xs (x4 + (1 : Int)).toNat).toInt)), .ref qo] qo f M (fun r2680 M1 f1 => inR r2680 → ((0 ≤ (x4 + (1 : Int)) ∧ (x4 + (1 : Int)) < (L : Int)) ∧ (inR ((xs (x4 + (1 : Int)).toNat).toInt) → OkI (gB G) (gl G) md_X13_readImage 0 0 [.ref (ad (gB G) 72), .int (I ((xs (x4 + (1 : Int)).toNat).toInt))] (Xo (gB G) qo f1) M1 (fun r2692 M2 => inR r2692 → OkI (gB G) (gl G) md_X13_thrown 0 0 [.ref (ad (gB G) 72)] (Xo (gB G) qo f1) M2 (fun r2698 M3 => inR r2698 → (inR r2698 ∧ inR r2680 ∧ (r2698 = r2680 → (inR r2680 ∧ (r2680 ≠ 0 → L_law_23 G b qo (k + 1) (n + 6) (x4 + 5) M3 f1) ∧ (r2680 = 0 → (∀ z2719 : Int, inR z2719 → (z2719 = 0 ↔ (f1 0) = (I r2692).toInt64) → (inR z2719 ∧ (z2719 = 0 → L_law_23 G b qo (k + 1) (n + 6) (x4 + 5) M3 f1) ∧ (z2719 ≠ 0 → False)))))) ∧ (r2698 ≠ r2680 → False))) NoX) NoX)))))
set_option maxRecDepth 100000 in
set_option maxHeartbeats 4000000 in
theorem go_law_2672 {G : GT} {b L : Nat} {xs : Nat → Int32} {qo k n : Nat} {x4 : Int} {M : Mem} {f : Nat → Int64} (hC : Cx G md_law) (hz : Lz G b L xs) (hk : k + 40 ≤ 601024 ∧ n + 400 ≤ 7293034) (kk : T_law_2672 G b L xs qo k n x4 M f) : L_law_2672 G b qo k n x4 M f := by
  unfold T_law_2672 at kk
  unfold L_law_2672
  refine V_aload_n hC 1 rfl dL_law_2672 ?_
  refine V_aload_n hC 0 rfl dL_law_2673 ?_
  refine V_iload hC 4 rfl dL_law_2674 ?_
  refine V_iconst hC dL_law_2676 ?_
  refine V_iadd hC dL_law_2677 ?_
  obtain ⟨hi, kk⟩ := kk
  refine V_sld hC hz hi dL_law_2678 (fun z => ?_)
  replace kk := kk z
  refine V_aload_n hC 3 rfl dL_law_2679 ?_
  refine V_cW hC (As := [_, _, _]) lw_312 dL_law_2680 (d0 := 60) (by decide) (Rm_law hz) rfl (Nat.le_of_ble_eq_true rfl) (kl hz (by omega) (by omega)) kk (fun r9 M9 f9 z kk => ?_)
  replace kk := kk z
  refine V_istore hC (lv' := [(5, _), (0, _), (1, _), (2, _), (3, _), (4, _)]) (Nat.le_of_ble_eq_true rfl) rfl dL_law_2683 ?_
  refine V_aload_n hC 3 rfl dL_law_2685 ?_
  refine V_aload_n hC 1 rfl dL_law_2686 ?_
  refine V_iload hC 5 rfl dL_law_2687 ?_
  refine V_iconst hC dL_law_2689 ?_
  refine V_iadd hC dL_law_2690 ?_
  obtain ⟨hi, kk⟩ := kk
  refine V_sld hC hz hi dL_law_2691 (fun z => ?_)
  replace kk := kk z
  refine V_cVi hC (As := [_]) lv_L_314 dL_law_2692 (d0 := 60) (by decide) (Rm_law hz) rv_72 rfl (Nat.le_of_ble_eq_true rfl) (kl hz (by omega) (by omega)) kk (fun r9 M9 z kk => ?_)
  replace kk := kk z
  refine V_istore hC (lv' := [(6, _), (5, _), (0, _), (1, _), (2, _), (3, _), (4, _)]) (Nat.le_of_ble_eq_true rfl) rfl dL_law_2695 ?_
  refine V_aload_n hC 4 rfl dL_law_2697 ?_
  refine V_cVi hC (As := []) lv_L_212 dL_law_2698 (d0 := 60) (by decide) (Rm_law hz) rv_72 rfl (Nat.le_of_ble_eq_true rfl) (kl hz (by omega) (by omega)) kk (fun r9 M9 z kk => ?_)
  replace kk := kk z
  refine V_iload hC 1 rfl dL_law_2701 ?_
  obtain ⟨ha, hb, k1, k2⟩ := kk
  refine V_icmp_eq hC 2708 rfl dL_law_2703 ⟨ha, hb, fun z => ?_, fun z => ?_⟩
  · replace kk := k1 z; clear k1 k2
    refine V_iload hC 1 rfl dL_law_2708 ?_
    obtain ⟨ha, k1, k2⟩ := kk
    refine V_if_ne hC 2725 rfl dL_law_2710 ⟨ha, fun z => ?_, fun z => ?_⟩
    · replace kk := k1 z; clear k1 k2
      refine V_goto hC 4661 rfl dL_law_2725 ?_
      refine V_iinc hC (lv' := [(4, _), (6, _), (5, _), (0, _), (1, _), (2, _), (3, _)]) 6 rfl (Nat.le_of_ble_eq_true rfl) rfl dL_law_4661 ?_
      refine V_goto hC 23 rfl dL_law_4664 ?_
      exact V_sub [3, 4, 5, 6, 0] rfl kk
    · replace kk := k2 z; clear k1 k2
      refine V_aload_n hC 5 rfl dL_law_2713 ?_
      refine V_iconst hC dL_law_2714 ?_
      refine V_laldW hC dL_law_2715 ?_
      refine V_iload hC 0 rfl dL_law_2716 ?_
      refine V_i2l hC dL_law_2718 ?_
      refine V_lcmp hC dL_law_2719 (fun z1 z2 z3 => ?_)
      replace kk := kk z1 z2 z3
      obtain ⟨ha, k1, k2⟩ := kk
      refine V_if_eq hC 2725 rfl dL_law_2720 ⟨ha, fun z => ?_, fun z => ?_⟩
      · replace kk := k1 z; clear k1 k2
        refine V_goto hC 4661 rfl dL_law_2725 ?_
        refine V_iinc hC (lv' := [(4, _), (6, _), (5, _), (0, _), (1, _), (2, _), (3, _)]) 6 rfl (Nat.le_of_ble_eq_true rfl) rfl dL_law_4661 ?_
        refine V_goto hC 23 rfl dL_law_4664 ?_
        exact V_sub [3, 4, 5, 6, 0] rfl kk
      · replace kk := k2 z; clear k1 k2
        refine V_iconst hC dL_law_2723 ?_
        exact kk.elim
  · replace kk := k2 z; clear k1 k2
    refine V_iconst hC dL_law_2706 ?_
    exact kk.elim
def L_law_2728 (G : GT) (b qo : Nat) (k n : Nat) (x4 : Int) (M : Mem) (f : Nat → Int64) : Prop := V G md_law k n (Xo (gB G) qo f) M 2728 [(0, .ref b), (1, .ref (ad (gB G) 0)), (2, .ref (ad (gB G) 72)), (3, .ref qo), (4, .int (I x4))] []
def T_law_2728 (G : GT) (b L : Nat) (xs : Nat → Int32) (qo : Nat) (k n : Nat) (x4 : Int) (M : Mem) (f : Nat → Int64) : Prop := ((0 ≤ (x4 + (1 : Int)) ∧ (x4 + (1 : Int)) < (L : Int)) ∧ (inR ((xs (x4 + (1 : Int)).toNat).toInt) → OkW (gB G) (gl G) md_L_setTenure hh_L_setTenure [.ref (ad (gB G) 0), .int (I ((xs (x4 + (1 : Int)).toNat).toInt)), .ref qo] qo f M (fun r2736 M1 f1 => inR r2736 → ((0 ≤ (x4 + (1 : Int)) ∧ (x4 + (1 : Int)) < (L : Int)) ∧ (inR ((xs (x4 + (1 : Int)).toNat).toInt) → OkI (gB G) (gl G) md_X13_setTenure 0 0 [.ref (ad (gB G) 72), .int (I ((xs (x4 + (1 : Int)).toNat).toInt))] (Xo (gB G) qo f1) M1 (fun r2748 M2 => inR r2748 → OkI (gB G) (gl G) md_X13_thrown 0 0 [.ref (ad (gB G) 72)] (Xo (gB G) qo f1) M2 (fun r2754 M3 => inR r2754 → (inR r2754 ∧ inR r2736 ∧ (r2754 = r2736 → (inR r2736 ∧ (r2736 ≠ 0 → L_law_23 G b qo (k + 1) (n + 6) (x4 + 5) M3 f1) ∧ (r2736 = 0 → (∀ z2775 : Int, inR z2775 → (z2775 = 0 ↔ (f1 0) = (I r2748).toInt64) → (inR z2775 ∧ (z2775 = 0 → L_law_23 G b qo (k + 1) (n + 6) (x4 + 5) M3 f1) ∧ (z2775 ≠ 0 → False)))))) ∧ (r2754 ≠ r2736 → False))) NoX) NoX)))))
set_option maxRecDepth 100000 in
set_option maxHeartbeats 4000000 in
theorem go_law_2728 {G : GT} {b L : Nat} {xs : Nat → Int32} {qo k n : Nat} {x4 : Int} {M : Mem} {f : Nat → Int64} (hC : Cx G md_law) (hz : Lz G b L xs) (hk : k + 40 ≤ 601024 ∧ n + 400 ≤ 7293034) (kk : T_law_2728 G b L xs qo k n x4 M f) : L_law_2728 G b qo k n x4 M f := by
  unfold T_law_2728 at kk
  unfold L_law_2728
  refine V_aload_n hC 1 rfl dL_law_2728 ?_
  refine V_aload_n hC 0 rfl dL_law_2729 ?_
  refine V_iload hC 4 rfl dL_law_2730 ?_
  refine V_iconst hC dL_law_2732 ?_
  refine V_iadd hC dL_law_2733 ?_
  obtain ⟨hi, kk⟩ := kk
  refine V_sld hC hz hi dL_law_2734 (fun z => ?_)
  replace kk := kk z
  refine V_aload_n hC 3 rfl dL_law_2735 ?_
  refine V_cW hC (As := [_, _, _]) lw_315 dL_law_2736 (d0 := 60) (by decide) (Rm_law hz) rfl (Nat.le_of_ble_eq_true rfl) (kl hz (by omega) (by omega)) kk (fun r9 M9 f9 z kk => ?_)
  replace kk := kk z
  refine V_istore hC (lv' := [(5, _), (0, _), (1, _), (2, _), (3, _), (4, _)]) (Nat.le_of_ble_eq_true rfl) rfl dL_law_2739 ?_
  refine V_aload_n hC 3 rfl dL_law_2741 ?_
  refine V_aload_n hC 1 rfl dL_law_2742 ?_
  refine V_iload hC 5 rfl dL_law_2743 ?_
  refine V_iconst hC dL_law_2745 ?_
  refine V_iadd hC dL_law_2746 ?_
  obtain ⟨hi, kk⟩ := kk
  refine V_sld hC hz hi dL_law_2747 (fun z => ?_)
  replace kk := kk z
  refine V_cVi hC (As := [_]) lv_L_317 dL_law_2748 (d0 := 60) (by decide) (Rm_law hz) rv_72 rfl (Nat.le_of_ble_eq_true rfl) (kl hz (by omega) (by omega)) kk (fun r9 M9 z kk => ?_)
  replace kk := kk z
  refine V_istore hC (lv' := [(6, _), (5, _), (0, _), (1, _), (2, _), (3, _), (4, _)]) (Nat.le_of_ble_eq_true rfl) rfl dL_law_2751 ?_
  refine V_aload_n hC 4 rfl dL_law_2753 ?_
  refine V_cVi hC (As := []) lv_L_212 dL_law_2754 (d0 := 60) (by decide) (Rm_law hz) rv_72 rfl (Nat.le_of_ble_eq_true rfl) (kl hz (by omega) (by omega)) kk (fun r9 M9 z kk => ?_)
  replace kk := kk z
  refine V_iload hC 1 rfl dL_law_2757 ?_
  obtain ⟨ha, hb, k1, k2⟩ := kk
  refine V_icmp_eq hC 2764 rfl dL_law_2759 ⟨ha, hb, fun z => ?_, fun z => ?_⟩
  · replace kk := k1 z; clear k1 k2
    refine V_iload hC 1 rfl dL_law_2764 ?_
    obtain ⟨ha, k1, k2⟩ := kk
    refine V_if_ne hC 2781 rfl dL_law_2766 ⟨ha, fun z => ?_, fun z => ?_⟩
    · replace kk := k1 z; clear k1 k2
      refine V_goto hC 4661 rfl dL_law_2781 ?_
      refine V_iinc hC (lv' := [(4, _), (6, _), (5, _), (0, _), (1, _), (2, _), (3, _)]) 6 rfl (Nat.le_of_ble_eq_true rfl) rfl dL_law_4661 ?_
      refine V_goto hC 23 rfl dL_law_4664 ?_
      exact V_sub [3, 4, 5, 6, 0] rfl kk
    · replace kk := k2 z; clear k1 k2
      refine V_aload_n hC 5 rfl dL_law_2769 ?_
      refine V_iconst hC dL_law_2770 ?_
      refine V_laldW hC dL_law_2771 ?_
      refine V_iload hC 0 rfl dL_law_2772 ?_
      refine V_i2l hC dL_law_2774 ?_
      refine V_lcmp hC dL_law_2775 (fun z1 z2 z3 => ?_)
      replace kk := kk z1 z2 z3
      obtain ⟨ha, k1, k2⟩ := kk
      refine V_if_eq hC 2781 rfl dL_law_2776 ⟨ha, fun z => ?_, fun z => ?_⟩
      · replace kk := k1 z; clear k1 k2
        refine V_goto hC 4661 rfl dL_law_2781 ?_
        refine V_iinc hC (lv' := [(4, _), (6, _), (5, _), (0, _), (1, _), (2, _), (3, _)]) 6 rfl (Nat.le_of_ble_eq_true rfl) rfl dL_law_4661 ?_
        refine V_goto hC 23 rfl dL_law_4664 ?_
        exact V_sub [3, 4, 5, 6, 0] rfl kk
      · replace kk := k2 z; clear k1 k2
        refine V_iconst hC dL_law_2779 ?_
        exact kk.elim
  · replace kk := k2 z; clear k1 k2
    refine V_iconst hC dL_law_2762 ?_
    exact kk.elim
def L_law_2784 (G : GT) (b qo : Nat) (k n : Nat) (x4 : Int) (M : Mem) (f : Nat → Int64) : Prop := V G md_law k n (Xo (gB G) qo f) M 2784 [(0, .ref b), (1, .ref (ad (gB G) 0)), (2, .ref (ad (gB G) 72)), (3, .ref qo), (4, .int (I x4))] []
def T_law_2784 (G : GT) (b L : Nat) (xs : Nat → Int32) (qo : Nat) (k n : Nat) (x4 : Int) (M : Mem) (f : Nat → Int64) : Prop := OkW (gB G) (gl G) md_L_collectYoung hh_L_collectYoung [.ref (ad (gB G) 0), .ref qo] qo f M (fun r2786 M1 f1 => inR r2786 → OkI (gB G) (gl G) md_X13_collectYoung 0 0 [.ref (ad (gB G) 72)] (Xo (gB G) qo f1) M1 (fun r2792 M2 => inR r2792 → OkI (gB G) (gl G) md_X13_thrown 0 0 [.ref (ad (gB G) 72)] (Xo (gB G) qo f1) M2 (fun r2798 M3 => inR r2798 → (inR r2798 ∧ inR r2786 ∧ (r2798 = r2786 → (inR r2786 ∧ (r2786 ≠ 0 → L_law_23 G b qo (k + 1) (n + 6) (x4 + 5) M3 f1) ∧ (r2786 = 0 → (∀ z2819 : Int, inR z2819 → (z2819 = 0 ↔ (f1 0) = (I r2792).toInt64) → (inR z2819 ∧ (z2819 = 0 → L_law_23 G b qo (k + 1) (n + 6) (x4 + 5) M3 f1) ∧ (z2819 ≠ 0 → False)))))) ∧ (r2798 ≠ r2786 → False))) NoX) NoX)
set_option maxRecDepth 100000 in
set_option maxHeartbeats 4000000 in
theorem go_law_2784 {G : GT} {b L : Nat} {xs : Nat → Int32} {qo k n : Nat} {x4 : Int} {M : Mem} {f : Nat → Int64} (hC : Cx G md_law) (hz : Lz G b L xs) (hk : k + 40 ≤ 601024 ∧ n + 400 ≤ 7293034) (kk : T_law_2784 G b L xs qo k n x4 M f) : L_law_2784 G b qo k n x4 M f := by
  unfold T_law_2784 at kk
  unfold L_law_2784
  refine V_aload_n hC 1 rfl dL_law_2784 ?_
  refine V_aload_n hC 3 rfl dL_law_2785 ?_
  refine V_cW hC (As := [_, _]) lw_318 dL_law_2786 (d0 := 60) (by decide) (Rm_law hz) rfl (Nat.le_of_ble_eq_true rfl) (kl hz (by omega) (by omega)) kk (fun r9 M9 f9 z kk => ?_)
  replace kk := kk z
  refine V_istore hC (lv' := [(5, _), (0, _), (1, _), (2, _), (3, _), (4, _)]) (Nat.le_of_ble_eq_true rfl) rfl dL_law_2789 ?_
  refine V_aload_n hC 3 rfl dL_law_2791 ?_
  refine V_cVi hC (As := []) lv_L_321 dL_law_2792 (d0 := 60) (by decide) (Rm_law hz) rv_72 rfl (Nat.le_of_ble_eq_true rfl) (kl hz (by omega) (by omega)) kk (fun r9 M9 z kk => ?_)
  replace kk := kk z
  refine V_istore hC (lv' := [(6, _), (5, _), (0, _), (1, _), (2, _), (3, _), (4, _)]) (Nat.le_of_ble_eq_true rfl) rfl dL_law_2795 ?_
  refine V_aload_n hC 4 rfl dL_law_2797 ?_
  refine V_cVi hC (As := []) lv_L_212 dL_law_2798 (d0 := 60) (by decide) (Rm_law hz) rv_72 rfl (Nat.le_of_ble_eq_true rfl) (kl hz (by omega) (by omega)) kk (fun r9 M9 z kk => ?_)
  replace kk := kk z
  refine V_iload hC 1 rfl dL_law_2801 ?_
  obtain ⟨ha, hb, k1, k2⟩ := kk
  refine V_icmp_eq hC 2808 rfl dL_law_2803 ⟨ha, hb, fun z => ?_, fun z => ?_⟩
  · replace kk := k1 z; clear k1 k2
    refine V_iload hC 1 rfl dL_law_2808 ?_
    obtain ⟨ha, k1, k2⟩ := kk
    refine V_if_ne hC 2825 rfl dL_law_2810 ⟨ha, fun z => ?_, fun z => ?_⟩
    · replace kk := k1 z; clear k1 k2
      refine V_goto hC 4661 rfl dL_law_2825 ?_
      refine V_iinc hC (lv' := [(4, _), (6, _), (5, _), (0, _), (1, _), (2, _), (3, _)]) 6 rfl (Nat.le_of_ble_eq_true rfl) rfl dL_law_4661 ?_
      refine V_goto hC 23 rfl dL_law_4664 ?_
      exact V_sub [3, 4, 5, 6, 0] rfl kk
    · replace kk := k2 z; clear k1 k2
      refine V_aload_n hC 5 rfl dL_law_2813 ?_
      refine V_iconst hC dL_law_2814 ?_
      refine V_laldW hC dL_law_2815 ?_
      refine V_iload hC 0 rfl dL_law_2816 ?_
      refine V_i2l hC dL_law_2818 ?_
      refine V_lcmp hC dL_law_2819 (fun z1 z2 z3 => ?_)
      replace kk := kk z1 z2 z3
      obtain ⟨ha, k1, k2⟩ := kk
      refine V_if_eq hC 2825 rfl dL_law_2820 ⟨ha, fun z => ?_, fun z => ?_⟩
      · replace kk := k1 z; clear k1 k2
        refine V_goto hC 4661 rfl dL_law_2825 ?_
        refine V_iinc hC (lv' := [(4, _), (6, _), (5, _), (0, _), (1, _), (2, _), (3, _)]) 6 rfl (Nat.le_of_ble_eq_true rfl) rfl dL_law_4661 ?_
        refine V_goto hC 23 rfl dL_law_4664 ?_
        exact V_sub [3, 4, 5, 6, 0] rfl kk
      · replace kk := k2 z; clear k1 k2
        refine V_iconst hC dL_law_2823 ?_
        exact kk.elim
  · replace kk := k2 z; clear k1 k2
    refine V_iconst hC dL_law_2806 ?_
    exact kk.elim
