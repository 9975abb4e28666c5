theorem wAll_tbl {w : Cond} (h : w ∈ wAll) : w ∈ lw_tbl := (List.mem_filter.mp h).1
theorem nestW_tbl {w : Cond} (h : w ∈ nestW) : w ∈ lw_tbl := (List.mem_filter.mp h).1
theorem ka_start {s : State} {args : Array Value} {ty : FieldType} (h : (Cond.arrayClass ty).before args s = true) (hne : ∀ C, ty ≠ .object C) : ∃ c, ArrOfT s c ty ∧ va_RA s c ty := by
  obtain ⟨c, k, comp, h1, h2, h3⟩ := Cond.arrayClass_spec h
  refine ⟨c, fun n z => ⟨fun k h => (by cases h), k, h2, comp, h3⟩, ?_⟩
  unfold va_RA
  split
  · exact absurd rfl (hne _)
  · exact h1
theorem ko_start {s : State} {args : Array Value} {C : String} (h : (Cond.arrayOver (.object C)).before args s = true) : ∃ c, ArrOfT s c (.object C) ∧ va_RA s c (.object C) := by
  obtain ⟨comp, c, k, h1, h2, h3, h4, h5⟩ := Cond.arrayOver_spec h
  exact ⟨c, fun n z => ⟨fun k h => (by cases h), k, h3, comp, h4⟩, k, comp, h3, h4, h1, h5⟩
theorem kr_start {s : State} {args : Array Value} {t : FieldType} (h : (Cond.arrayOver (.array t)).before args s = true) : ∃ c, ArrOfT s c (.array t) ∧ va_RA s c (.array t) := by
  obtain ⟨comp, c, k, h1, h2, h3, h4, h5⟩ := arrayOverA_spec h
  exact ⟨c, fun n z => ⟨fun k h => (by cases h), k, h3, comp, h4⟩, h5⟩
set_option maxRecDepth 20000 in
set_option maxHeartbeats 4000000 in
theorem kn_start {s : State} {b : Nat} (hts : ∀ w ∈ lw_tbl, w.before #[Value.ref b] s = true) (hg : (Jvm.Cond.and given_1 narrow_1).before #[Value.ref b] s = true) : ∃ (D : va_G) (cI cZ c2 c3 c4 : ClassId), ∀ f : Nat → Nat, Kn (D, cI, cZ, (c2, c3, c4), f, s.heap.size) s := by
  have hA : ∀ w ∈ wAll, w.before #[Value.ref b] s = true := fun w hw => hts w (wAll_tbl hw)
  have hs := flat_of_before _ hg
  obtain ⟨c0x, i0, k0⟩ := u_known (C := RX0) (T := TX0) (N := 4) (n := 4) hA cw_X0 (hA (.instantiable RX0 4) (wa_2 24 rfl rfl))
  obtain ⟨c1x, i1, k1⟩ := u_known (C := RX1) (T := TX1) (N := 9) (n := 9) hA cw_X1 (hA (.instantiable RX1 9) (wa_2 83 rfl rfl))
  obtain ⟨c2x, i2, k2⟩ := u_known (C := RX2) (T := TX2) (N := 5) (n := 5) hA cw_X2 (hA (.instantiable RX2 5) (wa_2 122 rfl rfl))
  obtain ⟨c3x, i3, k3⟩ := u_known (C := RX3) (T := TX3) (N := 9) (n := 9) hA cw_X3 (hA (.instantiable RX3 9) (wa_2 146 rfl rfl))
  obtain ⟨c4x, i4, k4⟩ := u_known (C := RX4) (T := TX4) (N := 5) (n := 5) hA cw_X4 (hA (.instantiable RX4 5) (wa_1 32 rfl rfl))
  obtain ⟨c5x, i5, k5⟩ := u_known (C := RX5) (T := TX5) (N := 2) (n := 2) hA cw_X5 (hA (.instantiable RX5 2) (wa_1 195 rfl rfl))
  obtain ⟨c6x, i6, k6⟩ := u_known (C := RX6) (T := TX6) (N := 8) (n := 8) hA cw_X6 (hA (.instantiable RX6 8) (wa_2 18 rfl rfl))
  obtain ⟨c7x, i7, k7⟩ := u_known (C := RX7) (T := TX7) (N := 2) (n := 2) hA cw_X7 (hA (.instantiable RX7 2) (wa_2 4 rfl rfl))
  obtain ⟨c8x, i8, k8⟩ := u_known (C := RX8) (T := TX8) (N := 6) (n := 6) hA cw_X8 (hA (.instantiable RX8 6) (wa_1 189 rfl rfl))
  obtain ⟨c9x, i9, k9⟩ := u_known (C := RX9) (T := TX9) (N := 8) (n := 8) hA cw_X9 (hA (.instantiable RX9 8) (wa_2 184 rfl rfl))
  obtain ⟨c10x, i10, k10⟩ := u_known (C := RX10) (T := TX10) (N := 20) (n := 20) hA cw_X10 (hA (.instantiable RX10 20) (wa_1 61 rfl rfl))
  obtain ⟨c11x, i11, k11⟩ := u_known (C := RX11) (T := TX11) (N := 9) (n := 9) hA cw_X11 (hA (.instantiable RX11 9) (wa_1 24 rfl rfl))
  obtain ⟨c12x, i12, k12⟩ := u_known (C := RX12) (T := TX12) (N := 21) (n := 21) hA cw_X12 (hA (.instantiable RX12 21) (wa_4 123 rfl rfl))
  obtain ⟨c13x, i13, k13⟩ := u_known (C := RX13) (T := TX13) (N := 24) (n := 24) hA cw_X13 (hA (.instantiable RX13 24) (wa_7 22 rfl rfl))
  have w1 := hts (.arrayOver (.object "RuntimeHeapLaw$Thing")) (tb_7 (List.mem_of_getElem? (i := 5) rfl))
  have w2 := hts (.arrayOver (.array (.object "RuntimeHeapLaw$Thing"))) (tb_8 (List.mem_of_getElem? (i := 12) rfl))
  have w3 := hts (.arrayOver (.array .int)) (tb_8 (List.mem_of_getElem? (i := 10) rfl))
  obtain ⟨cI, aI, rI⟩ := ka_start (hA (.arrayClass .int) (wa_1 58 rfl rfl)) (fun C h => by cases h)
  obtain ⟨cZ, aZ, rZ⟩ := ka_start (hA (.arrayClass .boolean) (wa_1 59 rfl rfl)) (fun C h => by cases h)
  obtain ⟨cT, aT, rT⟩ := ko_start w1
  obtain ⟨cU, aU, rU⟩ := kr_start w2
  obtain ⟨cJ, aJ, rJ⟩ := kr_start w3
  refine ⟨(fun k => match k with | 0 => c0x | 1 => c1x | 2 => c2x | 3 => c3x | 4 => c4x | 5 => c5x | 6 => c6x | 7 => c7x | 8 => c8x | 9 => c9x | 10 => c10x | 11 => c11x | 12 => c12x | _ => c13x, fun k => match k with | 0 => i0 | 1 => i1 | 2 => i2 | 3 => i3 | 4 => i4 | 5 => i5 | 6 => i6 | 7 => i7 | 8 => i8 | 9 => i9 | 10 => i10 | 11 => i11 | 12 => i12 | _ => i13), cI, cZ, cT, cU, cJ, fun f => ⟨⟨?_, ?_⟩, fun w hw => va_Nw.of (nest_tab hw) (hts w (nestW_tbl hw)), ?_, ?_, fun own tx k hk => ?_, ?_, ?_, ?_, va_AO.of w1, w2, w3⟩⟩
  · intro k q hq
    match k, hq with
    | 0, hq => cases hq; exact k0
    | 1, hq => cases hq; exact k1
    | 2, hq => cases hq; exact k2
    | 3, hq => cases hq; exact k3
    | 4, hq => cases hq; exact k4
    | 5, hq => cases hq; exact k5
    | 6, hq => cases hq; exact k6
    | 7, hq => cases hq; exact k7
    | 8, hq => cases hq; exact k8
    | 9, hq => cases hq; exact k9
    | 10, hq => cases hq; exact k10
    | 11, hq => cases hq; exact k11
    | 12, hq => cases hq; exact k12
    | 13, hq => cases hq; exact k13
    | k + 14, hq => exact absurd (List.getElem?_eq_some_iff.mp hq).1 (by show ¬ k + 14 < 14; omega)
  · intro k q hq
    match k, hq with
    | 0, hq => cases hq; exact ⟨aI, rI⟩
    | 1, hq => cases hq; exact ⟨aZ, rZ⟩
    | 2, hq => cases hq; exact ⟨aT, rT⟩
    | 3, hq => cases hq; exact ⟨aU, rU⟩
    | 4, hq => cases hq; exact ⟨aJ, rJ⟩
    | k + 5, hq => exact absurd (List.getElem?_eq_some_iff.mp hq).1 (by show ¬ k + 5 < 5; omega)
  · exact vx_Zqof (hts (.laysStatic "java/lang/Throwable" "UNASSIGNED_STACK" "[Ljava/lang/StackTraceElement;") (tb_3 (List.mem_of_getElem? (i := 185) rfl))) (hA (.initialized "java/lang/Throwable") (wa_1 14 rfl rfl)) (hs (.isRef (.static "java/lang/Throwable" "UNASSIGNED_STACK" "[Ljava/lang/StackTraceElement;")) (by decide +kernel)) (fun a ha => Nat.not_le.mpr ha)
  · exact vx_Zqof (hts (.laysStatic "java/lang/Throwable" "SUPPRESSED_SENTINEL" "Ljava/util/List;") (tb_3 (List.mem_of_getElem? (i := 187) rfl))) (hA (.initialized "java/lang/Throwable") (wa_1 14 rfl rfl)) (hs (.isRef (.static "java/lang/Throwable" "SUPPRESSED_SENTINEL" "Ljava/util/List;")) (by decide +kernel)) (fun a ha => Nat.not_le.mpr ha)
  · have h1 := hts _ hk
    have hcur : ∃ cur, s.vm.findClass own = some cur := by
      have h2 := h1
      simp only [Cond.before, Cond.holds, Cond.value] at h2
      cases hc : s.vm.findClass own with
      | none => simp [hc] at h2
      | some cur => exact ⟨cur, rfl⟩
    obtain ⟨cur, hcur⟩ := hcur
    obtain ⟨kk, cf, i, a, -, -, -, -, -, hev⟩ := Cond.stringRef_spec hcur h1
    exact ⟨a, vk_R.of h1 hev⟩
  · exact va_Nc.of (hs (.not (.castable "java/lang/IllegalArgumentException" "java/lang/IndexOutOfBoundsException")) (by decide +kernel))
  · exact va_Nc.of (hs (.not (.castable "java/lang/IllegalStateException" "java/lang/IndexOutOfBoundsException")) (by decide +kernel))
  · exact va_Nc.of (hs (.not (.castable "java/lang/IllegalStateException" "java/lang/IllegalArgumentException")) (by decide +kernel))
/-- the memory when both have been made -/
def M0 : Mem := fun o k => match o with
  | 19 => if k < 208 then (k : Int) else 0
  | 21 => if k = 5 then 1 else 0
  | 22 => if k < 8 then -1 else 0
  | 23 => if k < 1 then 8 else 0
  | 24 => if k < 8 then -1 else 0
  | 33 => if k = 3 then -1 else 0
  | 36 => if k = 3 then -1 else 0
  | 39 => if k = 6 then 2 else 0
  | 40 => if k = 3 then -1 else 0
  | 43 => if k = 3 then -1 else 0
  | 47 => if k = 3 then -1 else 0
  | 53 => if k = 3 then -1 else 0
  | 59 => if k = 3 then -1 else 0
  | 62 => if k = 3 then -1 else 0
  | 65 => if k = 3 then -1 else 0
  | 69 => if k = 3 then -1 else 0
  | 80 => if k = 5 then 2 else if k = 6 then 1 else if k = 26 then -1 else 0
  | 88 => if k < 1 then 8 else 0
  | 89 => if k < 72 then -1 else 0
  | 97 => if k = 5 then 2 else if k = 6 then 1 else if k = 26 then -1 else 0
  | 105 => if k < 1 then 8 else 0
  | 106 => if k < 72 then -1 else 0
  | 114 => if k = 5 then 2 else if k = 6 then 1 else if k = 26 then -1 else 0
  | 122 => if k < 1 then 8 else 0
  | 123 => if k < 72 then -1 else 0
  | _ => 0
theorem inR_m1 : inR (-1) := ⟨by decide, by decide⟩
theorem inR_n {a : Int} (h : 0 ≤ a) (h2 : a < 300) : inR a := ⟨by omega, by omega⟩
theorem M0_ok : MOK M0 := by
  intro o k _
  unfold M0
  split <;> (repeat' split) <;> first | exact ⟨by omega, by omega⟩ | exact ⟨by decide, by decide⟩
theorem iteI {c : Prop} [Decidable c] {a b : Int} : (if c then I a else I b) = I (if c then a else b) := by split <;> rfl

