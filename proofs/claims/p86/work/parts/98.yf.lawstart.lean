theorem inv_start : Inv 0 M0 := by
  refine ⟨⟨⟨⟨by decide, by decide⟩, rfl, fun f hf => ?_, fun f s hf hs => ?_, fun g hg => Or.inl ?_⟩, ⟨⟨rfl, by decide, by decide, fun k hk => ?_⟩, rfl, by decide, by decide, fun k hk => ?_⟩, ⟨rfl, ⟨by decide, by decide⟩, fun k hk => ?_⟩, ⟨⟨rfl, by decide, by decide⟩, ⟨rfl, rfl⟩, ⟨rfl, by decide, by decide⟩, fun p hp => ?_, fun p q hp hq h => ?_, fun p hp => ?_, fun p q _ hq => ?_, fun p hp => ?_, ⟨rfl, by decide⟩, ⟨rfl, by decide⟩⟩, ⟨rfl, ⟨by decide, by decide⟩, fun k hk => ?_⟩, ⟨⟨rfl, by decide, by decide⟩, ⟨rfl, by decide, by decide⟩, rfl, by decide, by decide⟩, ⟨rfl, Or.inl rfl⟩, ⟨fun j k _ hk => absurd (show (k : Int) < 0 from hk) (by omega), fun k hk => absurd (show (k : Int) < 0 from hk) (by omega), fun j k _ hk => absurd (show (k : Int) < 0 from hk) (by omega), fun k hk => absurd (show (k : Int) < 0 from hk) (by omega)⟩, ⟨fun p hp => absurd (show (p : Int) < 0 from hp) (by omega), fun p k hp => absurd (show (p : Int) < 0 from hp) (by omega), fun p hp => absurd (show (p : Int) < 0 from hp) (by omega)⟩, fun h => absurd (show (0 : Int) = 1 from h) (by decide)⟩, fun o ho => ?_, fun o ho => ?_⟩
  · have hf : (f : Int) < 1 := hf
    have : f = 0 := by omega
    subst this
    exact ⟨rfl, by decide, by decide⟩
  · have h1 : M0 89 (8 * f + s) = -1 := by show (if 8 * f + s < 72 then (-1 : Int) else 0) = -1; rw [if_pos (by omega)]
    split
    · rename_i h
      have h0 : (f : Int) < 1 := h.1
      have : f = 0 := by omega
      subst this
      refine Or.inl ⟨?_, h1⟩
      show (if 8 * 0 + s < 8 then (-1 : Int) else 0) = -1
      rw [if_pos (by omega)]
    · exact h1
  · exact ⟨by show (if g < 8 then (-1 : Int) else 0) = -1; rw [if_pos hg], by show (if 64 + g < 72 then (-1 : Int) else 0) = -1; rw [if_pos (by omega)]⟩
  · exact absurd (show (k : Int) < 0 from hk) (by omega)
  · exact absurd (show (k : Int) < 0 from hk) (by omega)
  · exact absurd (show (k : Int) < 0 from hk) (by omega)
  · show 0 ≤ (if p < 208 then (p : Int) else 0) ∧ (if p < 208 then (p : Int) else 0) < 208
    rw [if_pos hp]
    omega
  · have h9 : (if p < 208 then (p : Int) else 0) = (if q < 208 then (q : Int) else 0) := h
    rw [if_pos hp, if_pos hq] at h9
    omega
  · exact absurd (show (p : Int) < 0 from hp) (by omega)
  · exact absurd (show (q : Int) < 0 from hq) (by omega)
  · exact absurd (show (p : Int) < 0 from hp) (by omega)
  · exact absurd (show (k : Int) < 0 from hk) (by omega)
  · have hs : ∀ o, (M0 o 2 = 0) → (∀ c, M0 (o + 1) c = 0) → SetOk M0 o := fun o h1 h2 => ⟨⟨by omega, by omega⟩, fun k hk => absurd hk (by omega), fun j k _ hk => absurd hk (by omega), fun c _ => Or.inl (h2 c), fun c _ => ⟨fun h => absurd (h2 c) (by omega), fun ⟨k, hk, _⟩ => absurd hk (by omega)⟩⟩
    rcases ho with rfl | rfl | rfl | rfl | rfl | rfl | rfl | rfl | rfl | rfl <;> exact ⟨hs _ rfl (fun _ => rfl), Or.inr rfl⟩
  · rcases ho with rfl | rfl | rfl <;> exact ⟨rfl, rfl⟩
theorem stn_start : StN M0 := by
  refine ⟨⟨rfl, rfl, rfl, rfl, rfl, rfl⟩, ⟨rfl, rfl, rfl, rfl⟩, ⟨rfl, rfl, rfl⟩, fun k hk => ?_⟩
  show (if k < 72 then (-1 : Int) else 0) = -1
  rw [if_pos hk]
theorem nw_L_12 : Nw RL 12 11 [.null, .null, .null, .null, .null, .null, .null, .null, .null] := ⟨_, _, _, _, rfl, cw_X11, tyX11_ok, (wa_1 23 rfl rfl), (wa_1 24 rfl rfl), (wa_1 1 rfl rfl), rfl, by decide⟩
theorem li_L_327 : Li RL 327 md_X11_init 0 := ⟨mk_X11_init, Or.inl (wa_1 25 rfl rfl), (wa_1 26 rfl rfl), rfl, rfl⟩
theorem kl {G : GT} {b L : Nat} {xs : Nat → Int32} {k n : Nat} (hz : Lz G b L xs) (h1 : k ≤ 600104) (h2 : n ≤ 7301314) : k ≤ (gR G).cells ∧ n ≤ (gR G).slots := by
  obtain ⟨p, l, e, R, s, m, args, below, meth, c, B, A, Z⟩ := G
  obtain ⟨-, rfl, -⟩ := hz
  exact ⟨h1, h2⟩
theorem Rm_law {G : GT} {b L : Nat} {xs : Nat → Int32} (hz : Lz G b L xs) : Rm G 60 := by
  obtain ⟨p, l, e, R, s, m, args, below, meth, c, B, A, Z⟩ := G
  obtain ⟨-, rfl, -⟩ := hz
  show 60 + 8 ≤ room_1.frames ∧ 80 * 60 + 200 ≤ room_1.locals
  exact ⟨Nat.le_of_ble_eq_true rfl, Nat.le_of_ble_eq_true rfl⟩
/-- the same walk, told with other places of the fixed objects -/
def sB (G : GT) (B : WB) : GT := match G with | (p, l, e, R, s, m, args, below, meth, c, _, A, Z) => (p, l, e, R, s, m, args, below, meth, c, B, A, Z)
theorem sB_B {G : GT} {B : WB} : gB (sB G B) = B := by obtain ⟨p, l, e, R, s, m, args, below, meth, c, B0, A, Z⟩ := G; rfl
theorem sB_l {G : GT} {B : WB} : gl (sB G B) = gl G := by obtain ⟨p, l, e, R, s, m, args, below, meth, c, B0, A, Z⟩ := G; rfl
theorem sB_Cx {G : GT} {md : Md} {f : Nat → Nat} (h : Cx G md) : Cx (sB G (Bs (gB G) f)) md := by
  obtain ⟨p, l, e, R, s, m, args, below, meth, c, B0, A, Z⟩ := G
  exact h
theorem sB_Lz {G : GT} {B : WB} {b L : Nat} {xs : Nat → Int32} (h : Lz G b L xs) : Lz (sB G B) b L xs := by
  obtain ⟨p, l, e, R, s, m, args, below, meth, c, B0, A, Z⟩ := G
  exact h
theorem sB_Sx {G : GT} {f : Nat → Nat} {b L : Nat} {xs : Nat → Int32} (h : Sx G b L xs) : Sx (sB G (Bs (gB G) f)) b L xs := by
  obtain ⟨p, l, e, R, s, m, args, below, meth, c, B0, A, Z⟩ := G
  exact h
theorem wN_wl {B : WB} {ea : Nat → Nat} {ee : Nat → va_E} {M : Mem} (h : ∀ o, o < 72 → ee o = ent (Bs B ea) M o) : wN 72 ea ee = wl (Bs B ea) M ++ dl (Bs B ea) [] zD := by
  show wN 72 ea ee = wl (Bs B ea) M ++ []
  rw [List.append_nil]
  unfold wN wl
  apply List.map_congr_left
  intro o ho
  rw [h o (List.mem_range.mp ho)]
theorem VC_V {G : GT} {md : Md} {k n : Nat} {ea : Nat → Nat} {ee : Nat → va_E} {M : Mem} {pc : Nat} {lv : List (Nat × Value)} {st : List Value} (hM : MOK M) (h : ∀ o, o < 72 → ee o = ent (Bs (gB G) ea) M o) (kk : V (sB G (Bs (gB G) ea)) md k n (dl (Bs (gB G) ea) [] zD) M pc lv st) : VC G md k n 72 ea ee pc lv st := by
  obtain ⟨p, l, e, R, s, m, args, below, meth, c, B, A, Z⟩ := G
  intro H locs ls hl hP hD hS
  rw [wN_wl h] at hP hD
  exact kk hM H locs ls hl hP hD hS
theorem law_in {G : GT} {b L : Nat} {xs : Nat → Int32} (hC : Cx G md_law) (hfl : (gl G).stackTraces = false) (hz : Lz G b L xs) (hsx : Sx G b L xs) (loop : ∀ G' : GT, Cx G' md_law → Lz G' b L xs → Sx G' b L xs → gl G' = gl G → V G' md_law 72 12493 (dl (gB G') [] zD) M0 8 [(1, .ref (ad (gB G') 0)), (0, .ref b)] []) : VC G md_law 0 0 0 (fun _ => 0) (fun _ => .inr (0, [])) 0 [(0, .ref b)] [] := by
  refine D_new (N := 0) (k := 0) (n := 0) hC nw_L_12 dL_law_0 (kl hz (Nat.le_of_ble_eq_true rfl) (Nat.le_of_ble_eq_true rfl)) (fun q0 ea1 ee1 g1 ha0 he0 => ?_)
  refine C_dup hC rfl dL_law_3 ?_
  refine C_init (N := 1) (k := 1) (n := 9) (kc := 71) (nc := 12484) hC (As := []) li_L_327 dL_law_4 (d0 := 60) (by decide) (Rm_law hz) rfl (Nat.le_of_ble_eq_true rfl) (kl hz (Nat.le_of_ble_eq_true rfl) (Nat.le_of_ble_eq_true rfl)) (ct_X11 (o := 0) hfl ha0 he0) (fun N2 ea2 ee2 hq => ?_)
  obtain ⟨rfl, g2, g3, hb0⟩ := hq
  have ha0 := (g2 0 (by omega)).trans ha0
  refine C_astore_n hC (lv' := [(1, .ref q0), (0, .ref b)]) (Nat.le_of_ble_eq_true rfl) rfl dL_law_7 ?_
  have hp := pic_ok hb0
  refine VC_V M0_ok hp ?_
  have h9 := loop (sB G (Bs (gB G) ea2)) (sB_Cx hC) (sB_Lz hz) (sB_Sx hsx) sB_l
  rw [sB_B] at h9
  have k0 : ad (Bs (gB G) ea2) 0 = q0 := ha0
  rw [k0] at h9
  exact h9
theorem law_start {p : Program} {e : Env} {s : State} {m : MethodId} {below : List Frame} {meth : Method} {c : Code} (l : Launch) (hflags : l.flags = flags0) {b L : Nat} {xs : Nat → Int32} (hL : L ≤ 260) (C0 : lw_At p s m meth c b L xs) (loop : ∀ G' : GT, Cx G' md_law → Lz G' b L xs → Sx G' b L xs → (gl G').stackTraces = false → V G' md_law 72 12493 (dl (gB G') [] zD) M0 8 [(1, .ref (ad (gB G') 0)), (0, .ref b)] []) : W p l e room_1 s m #[Value.ref b] below meth c s.heap [] 0 0 (lw_Z below #[Value.ref b] s) (entryFrame m ([Value.ref b] : List Value).toArray 8) := by
  obtain ⟨hx, hb, hr, hml, hown, hts, hX, hbl, hlocks, hgv⟩ := C0
  obtain ⟨D, cI, cZ, c2, c3, c4, hKn⟩ := kn_start hts hgv
  have hfl : l.stackTraces = false := by
    unfold Launch.stackTraces
    rw [hflags]
    decide +kernel
  have hC : Cx (p, l, e, room_1, s, m, #[Value.ref b], below, meth, c, (D, cI, cZ, (c2, c3, c4), (fun _ => 0), s.heap.size), (fun q => s.heap.size ≤ q), lw_Z below #[Value.ref b] s) md_law :=
    ⟨hx, hb, hml, hown, fun w hw => hts w (wAll_tbl hw), hKn _, hlocks, hfl, fun q h => h, fun q h => h, hr⟩
  have hz : Lz (p, l, e, room_1, s, m, #[Value.ref b], below, meth, c, (D, cI, cZ, (c2, c3, c4), (fun _ => 0), s.heap.size), (fun q => s.heap.size ≤ q), lw_Z below #[Value.ref b] s) b L xs :=
    ⟨rfl, rfl, rfl, rfl, hr, hX, hbl, hL⟩
  have hsx : Sx (p, l, e, room_1, s, m, #[Value.ref b], below, meth, c, (D, cI, cZ, (c2, c3, c4), (fun _ => 0), s.heap.size), (fun q => s.heap.size ≤ q), lw_Z below #[Value.ref b] s) b L xs :=
    ⟨hX, hbl, Nat.not_le.mpr hbl, hbl, hL⟩
  have h1 := law_in hC hfl hz hsx (fun G' a1 a2 a4 a3 => loop G' a1 a2 a4 (by rw [a3]; exact hfl))
  have h2 := h1 s.heap [] _ (lv_entry [Value.ref b] (n := 8) (Nat.le_of_ble_eq_true rfl)) (fun k q h => by simp [wN] at h) ⟨fun i j p q h => by simp [wN] at h, fun k q h => by simp [wN] at h⟩ va_S.rf
  rw [lg_entry_eq]
  exact h2
