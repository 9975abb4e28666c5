theorem nw_L_8 : Nw RL 8 14 [.null, .null, .null, .null, .null, .null, .null, .null, .null] := ⟨_, _, _, _, rfl, cw_X11, tyX11_ok, (wa_1 34 rfl rfl), (wa_1 35 rfl rfl), (wa_1 1 rfl rfl), rfl, by decide⟩
theorem nw_L_203 : Nw RL 203 16 [.int 0, .int 0, .null, .null, .null, .null, .null, .null, .null, .int 0, .int 0, .int 0, .null, .null, .null, .null, .null] := ⟨_, _, _, _, rfl, cw_X13, tyX13_ok, (wa_7 218 rfl rfl), (wa_7 219 rfl rfl), (wa_1 13 rfl rfl), rfl, by decide⟩
theorem li_L_202 : Li RL 202 md_X11_init 0 := ⟨mk_X11_init, Or.inl (wa_1 36 rfl rfl), (wa_1 37 rfl rfl), rfl, rfl⟩
theorem li_L_205 : Li RL 205 md_X13_init 0 := ⟨mk_X13_init, Or.inl (wa_7 220 rfl rfl), (wa_7 221 rfl rfl), rfl, rfl⟩
theorem ac_J : Cond.arrayClass .long ∈ wAll := (wa_12 136 rfl rfl)
theorem C_newJ {G : GT} {md : Md} {k n N : Nat} {ea : Nat → Nat} {ee : Nat → va_E} {pc : Nat} {lv : List (Nat × Value)} {st : List Value} (h : Cx G md) {x : Int} (L : Nat) (d : decode md.2.1 pc = .ok (.newarray .long, 2)) (hw : Cond.arrayClass .long ∈ wAll) (hx0 : x = L) (hL : L < 100000) (hk : k + 1 ≤ (gR G).cells ∧ n + L ≤ (gR G).slots) (kk : ∀ q, VC G md (k + 1) (n + L) (N + 1) (upf ea N q) (upf ee N (.inl ((gB G).2.2.2.1, L, .inr (.inl (fun _ => 0))))) (pc + 2) lv (.ref q :: st)) : VC G md k n N ea ee pc lv (.int (I x) :: st) := by
  obtain ⟨p, l, e, R, s, m, args, below, meth, c, B, A, Z⟩ := G
  obtain ⟨hx, hb, hml, hown, hts, hKn, hlk, hfl, hA1, hA2, hret⟩ := h
  subst hx0
  intro H locs ls hl hP hD hS
  have hc : (I (L : Int)).toNatClampNeg = L := by rw [I_cl (by omega) (by omega)]; rfl
  refine va_newaK (atype := .long) hx hb (hts _ hw) (g := F0 m pc ls (.int (I (L : Int)) :: st)) rfl d (rest := st) rfl (by rw [← I_zero, I_lt ⟨by omega, by omega⟩ ⟨by decide, by decide⟩]; omega) hc (by show L * 8 ≤ 536870912; omega) hk.1 hk.2 rfl (fun H1 cA e1 z1 o1 hAr hNm => ?_)
  have hcA : cA = B.2.2.2.1 := cy_same (ty := .long) (Or.inr (Or.inr rfl)) hKn hNm
  subst hcA
  have hP1 : va_P B.1 vwCl (wN N ea ee ++ [(H.size, .inl (B.2.2.2.1, L, .inr (.inl (fun _ => 0))))]) H1 := (hP.kept (fun k q hq => o1 q.1 ((hP k q hq).lt))).app (fun k q hq => by
    have hk0 : k < 1 := (List.getElem?_eq_some_iff.mp hq).1
    have : k = 0 := by omega
    subst this
    cases hq
    show H1[H.size]? = some (vp_cell _ _)
    rw [e1]; rfl)
  have hD1 := hD.push hP (a := H.size) (e := .inl (B.2.2.2.1, L, .inr (.inl (fun _ => 0)))) rfl (hA1 _ hS.1)
  rw [wN_push] at hP1 hD1
  exact kk H.size H1 locs ls hl hP1 hD1 ⟨Nat.le_trans hS.1 (by omega), fun x h1 h2 => (o1 x (Nat.lt_of_lt_of_le h1 hS.1)).trans (hS.2.1 x h1 h2), hS.2.2⟩
/-- the same walk, told with other places of the fixed objects -/
def sB (G : GT) (B : WB) : GT := match G with | (p, l, e, R, s, m, args, below, meth, c, _, A, Z) => (p, l, e, R, s, m, args, below, meth, c, B, A, Z)
theorem sB_B {G : GT} {B : WB} : gB (sB G B) = B := by obtain ⟨p, l, e, R, s, m, args, below, meth, c, B0, A, Z⟩ := G; rfl
theorem sB_l {G : GT} {B : WB} : gl (sB G B) = gl G := by obtain ⟨p, l, e, R, s, m, args, below, meth, c, B0, A, Z⟩ := G; rfl
theorem sB_Cx {G : GT} {md : Md} {f : Nat → Nat} (h : Cx G md) : Cx (sB G (Bs (gB G) f)) md := by
  obtain ⟨p, l, e, R, s, m, args, below, meth, c, B0, A, Z⟩ := G
  exact h
theorem sB_Lz {G : GT} {B : WB} {b L : Nat} {xs : Nat → Int32} (h : Lz G b L xs) : Lz (sB G B) b L xs := by
  obtain ⟨p, l, e, R, s, m, args, below, meth, c, B0, A, Z⟩ := G
  exact h
theorem wN_wl {B : WB} {ea : Nat → Nat} {ee : Nat → va_E} {M : Mem} {f : Nat → Int64} (h : ∀ o, o < 133 → ee o = ent (Bs B ea) M o) (hx : ee 133 = .inl (B.2.2.2.1, 1, .inr (.inl f))) : wN 134 ea ee = wl (Bs B ea) M ++ Xo (Bs B ea) (ea 133) f := by
  unfold wN wl Xo
  rw [show (134 : Nat) = 133 + 1 from rfl, List.range_succ, List.map_append]
  congr 1
  · apply List.map_congr_left
    intro o ho
    rw [h o (List.mem_range.mp ho)]
  · show [(ea 133, ee 133)] = _
    rw [hx]
theorem VC_V {G : GT} {md : Md} {k n : Nat} {ea : Nat → Nat} {ee : Nat → va_E} {M : Mem} {f : Nat → Int64} {pc : Nat} {lv : List (Nat × Value)} {st : List Value} (hM : MOK M) (h : ∀ o, o < 133 → ee o = ent (Bs (gB G) ea) M o) (hx : ee 133 = .inl ((gB G).2.2.2.1, 1, .inr (.inl f))) (kk : V (sB G (Bs (gB G) ea)) md k n (Xo (Bs (gB G) ea) (ea 133) f) M pc lv st) : VC G md k n 134 ea ee pc lv st := by
  obtain ⟨p, l, e, R, s, m, args, below, meth, c, B, A, Z⟩ := G
  intro H locs ls hl hP hD hS
  rw [wN_wl h hx] at hP hD
  exact kk hM H locs ls hl hP hD hS
theorem law_in {G : GT} {b L : Nat} {xs : Nat → Int32} (hC : Cx G md_law) (hfl : (gl G).stackTraces = false) (hz : Lz G b L xs) (loop : ∀ (G' : GT) (qo : Nat) (f : Nat → Int64), Cx G' md_law → Lz G' b L xs → gl G' = gl G → L_law_23 G' b qo 134 30723 0 M0 f) : VC G md_law 0 0 0 (fun _ => 0) (fun _ => .inr (0, [])) 0 [(0, .ref b)] [] := by
  refine D_new (N := 0) (k := 0) (n := 0) hC nw_L_8 dL_law_0 (kl hz (Nat.le_of_ble_eq_true rfl) (Nat.le_of_ble_eq_true rfl)) (fun q0 ea1 ee1 g1 ha0 he0 => ?_)
  refine C_dup hC rfl dL_law_3 ?_
  refine C_init (N := 1) (k := 1) (n := 9) (kc := 71) (nc := 12484) hC (As := []) li_L_202 dL_law_4 (d0 := 60) (by decide) (Rm_law hz) rfl (Nat.le_of_ble_eq_true rfl) (kl hz (Nat.le_of_ble_eq_true rfl) (Nat.le_of_ble_eq_true rfl)) (ct_X11 (o := 0) hfl ha0 he0) (fun N2 ea2 ee2 hq => ?_)
  obtain ⟨rfl, g2, g3, hb0⟩ := hq
  have ha0 := (g2 0 (by omega)).trans ha0
  refine C_astore_n hC (lv' := [(1, .ref q0), (0, .ref b)]) (Nat.le_of_ble_eq_true rfl) rfl dL_law_7 ?_
  refine D_new (N := 72) (k := 72) (n := 12493) hC nw_L_203 dL_law_8 (kl hz (Nat.le_of_ble_eq_true rfl) (Nat.le_of_ble_eq_true rfl)) (fun q72 ea3 ee3 g4 ha72 he72 => ?_)
  have ha0 := (g4 0 (by omega)).1.trans ha0
  have hb0 := Bm_X11 (fun i _ h2 => g4 i (by omega)) hb0
  refine C_dup hC rfl dL_law_11 ?_
  refine C_init (N := 73) (k := 73) (n := 12510) (kc := 60) (nc := 18212) hC (As := []) li_L_205 dL_law_12 (d0 := 60) (by decide) (Rm_law hz) rfl (Nat.le_of_ble_eq_true rfl) (kl hz (Nat.le_of_ble_eq_true rfl) (Nat.le_of_ble_eq_true rfl)) (ct_X13 (o := 72) hfl ha72 he72) (fun N4 ea4 ee4 hq => ?_)
  obtain ⟨rfl, g5, g6, hb72⟩ := hq
  have ha0 := (g5 0 (by omega)).trans ha0
  have ha72 := (g5 72 (by omega)).trans ha72
  have hb0 := Bm_X11 (fun i _ h2 => ⟨g5 i (by omega), g6 i (by omega)⟩) hb0
  refine C_astore_n hC (lv' := [(2, .ref q72), (1, .ref q0), (0, .ref b)]) (Nat.le_of_ble_eq_true rfl) rfl dL_law_15 ?_
  refine C_iconst hC dL_law_16 ?_
  refine C_newJ (N := 133) (k := 133) (n := 30722) hC 1 dL_law_17 ac_J rfl (by decide) (kl hz (Nat.le_of_ble_eq_true rfl) (Nat.le_of_ble_eq_true rfl)) (fun q133 => ?_)
  refine C_astore_n hC (lv' := [(3, .ref q133), (2, .ref q72), (1, .ref q0), (0, .ref b)]) (Nat.le_of_ble_eq_true rfl) rfl dL_law_19 ?_
  refine C_iconst hC dL_law_20 ?_
  refine C_istore hC (lv' := [(4, .int (I 0)), (3, .ref q133), (2, .ref q72), (1, .ref q0), (0, .ref b)]) (Nat.le_of_ble_eq_true rfl) rfl dL_law_21 ?_
  refine C_sub [4, 3, 2, 1, 0] rfl ?_
  have hea : ∀ i, i < 133 → upf ea4 133 q133 i = ea4 i := fun i hi => upf_n (by omega)
  have hee : ∀ i, i < 133 → upf ee4 133 (.inl ((gB G).2.2.2.1, 1, .inr (.inl (fun _ => 0)))) i = ee4 i := fun i hi => upf_n (by omega)
  have hb0 := Bm_X11 (fun i _ h2 => ⟨hea i (by omega), hee i (by omega)⟩) hb0
  have hb72 := Bm_X13 (fun i _ h2 => ⟨hea i (by omega), hee i (by omega)⟩) hb72
  have hp := pic_ok hb0 hb72
  refine VC_V M0_ok hp (upf_s _ _ _) ?_
  have h9 := loop (sB G (Bs (gB G) (upf ea4 133 q133))) q133 (fun _ => 0) (sB_Cx hC) (sB_Lz hz) sB_l
  unfold L_law_23 at h9
  rw [sB_B] at h9
  have k0 : ad (Bs (gB G) (upf ea4 133 q133)) 0 = q0 := (hea 0 (by omega)).trans ha0
  have k72 : ad (Bs (gB G) (upf ea4 133 q133)) 72 = q72 := (hea 72 (by omega)).trans ha72
  rw [k0, k72] at h9
  rw [upf_s]
  exact h9
theorem law_start {p : Program} {e : Env} {s : State} {m : MethodId} {below : List Frame} {meth : Method} {c : Code} (l : Launch) (hflags : l.flags = flags0) {b L : Nat} {xs : Nat → Int32} (hL : L ≤ 2560) (C0 : lw_At p s m meth c b L xs) (loop : ∀ (G' : GT) (qo : Nat) (f : Nat → Int64), Cx G' md_law → Lz G' b L xs → (gl G').stackTraces = false → L_law_23 G' b qo 134 30723 0 M0 f) : W p l e room_1 s m #[Value.ref b] below meth c s.heap [] 0 0 (lw_Z below #[Value.ref b] s) (entryFrame m ([Value.ref b] : List Value).toArray 9) := by
  obtain ⟨hx, hb, hr, hml, hown, hts, hX, hbl, hlocks, hgv⟩ := C0
  obtain ⟨D, cI, cZ, cJ, hKn⟩ := kn_start hts hgv
  have hfl : l.stackTraces = false := by
    unfold Launch.stackTraces
    rw [hflags]
    decide +kernel
  have hC : Cx (p, l, e, room_1, s, m, #[Value.ref b], below, meth, c, (D, cI, cZ, cJ, (fun _ => 0), s.heap.size), (fun q => s.heap.size ≤ q), lw_Z below #[Value.ref b] s) md_law :=
    ⟨hx, hb, hml, hown, fun w hw => hts w (wAll_tbl hw), hKn _, hlocks, hfl, fun q h => h, fun q h => h, hr⟩
  have hz : Lz (p, l, e, room_1, s, m, #[Value.ref b], below, meth, c, (D, cI, cZ, cJ, (fun _ => 0), s.heap.size), (fun q => s.heap.size ≤ q), lw_Z below #[Value.ref b] s) b L xs :=
    ⟨rfl, rfl, rfl, rfl, hr, hX, hbl, hL⟩
  have h1 := law_in hC hfl hz (fun G' qo f a1 a2 a3 => loop G' qo f a1 a2 (by rw [a3]; exact hfl))
  have h2 := h1 s.heap [] _ (lv_entry [Value.ref b] (n := 9) (Nat.le_of_ble_eq_true rfl)) (fun k q h => by simp [wN] at h) ⟨fun i j p q h => by simp [wN] at h, fun k q h => by simp [wN] at h⟩ va_S.rf
  rw [lg_entry_eq]
  exact h2

