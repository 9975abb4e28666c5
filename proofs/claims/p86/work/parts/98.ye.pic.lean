abbrev Bs (B : WB) (ea : Nat → Nat) : WB := (B.1, B.2.1, B.2.2.1, B.2.2.2.1, ea, B.2.2.2.2.2)
set_option maxRecDepth 100000 in
set_option maxHeartbeats 8000000 in
theorem pic_ok {B : WB} {ea : Nat → Nat} {ee : Nat → va_E} (hb0 : Bl_X11 B ea ee 0) : ∀ o, o < 72 → ee o = ent (Bs B ea) M0 o := by
  unfold Bl_X11 at hb0
  obtain ⟨e0, hb1, hb6, hb21, hb29, hb31, hb39, hb46, hb51, hb58⟩ := hb0
  unfold Bl_X4 at hb1
  obtain ⟨e1, e2, e3, e4, e5⟩ := hb1
  unfold Bl_X10 at hb6
  obtain ⟨e6, e7, e8, e9, e10, e11, e12, e13, e14, e15, e16, e17, e18, e19, e20⟩ := hb6
  unfold Bl_X8 at hb21
  obtain ⟨e21, e22, e23, e24, hb25, hb27⟩ := hb21
  unfold Bl_X5 at hb25
  obtain ⟨e25, e26⟩ := hb25
  unfold Bl_X5 at hb27
  obtain ⟨e27, e28⟩ := hb27
  unfold Bl_X7 at hb29
  obtain ⟨e29, e30⟩ := hb29
  unfold Bl_X6 at hb31
  obtain ⟨e31, e32, hb33, hb36⟩ := hb31
  unfold Bl_X0 at hb33
  obtain ⟨e33, e34, e35⟩ := hb33
  unfold Bl_X0 at hb36
  obtain ⟨e36, e37, e38⟩ := hb36
  unfold Bl_X1 at hb39
  obtain ⟨e39, hb40, hb43⟩ := hb39
  unfold Bl_X0 at hb40
  obtain ⟨e40, e41, e42⟩ := hb40
  unfold Bl_X0 at hb43
  obtain ⟨e43, e44, e45⟩ := hb43
  unfold Bl_X2 at hb46
  obtain ⟨e46, hb47, e50⟩ := hb46
  unfold Bl_X0 at hb47
  obtain ⟨e47, e48, e49⟩ := hb47
  unfold Bl_X3 at hb51
  obtain ⟨e51, e52, hb53, e56, e57⟩ := hb51
  unfold Bl_X0 at hb53
  obtain ⟨e53, e54, e55⟩ := hb53
  unfold Bl_X9 at hb58
  obtain ⟨e58, hb59, hb62, hb65, e68, hb69⟩ := hb58
  unfold Bl_X0 at hb59
  obtain ⟨e59, e60, e61⟩ := hb59
  unfold Bl_X0 at hb62
  obtain ⟨e62, e63, e64⟩ := hb62
  unfold Bl_X0 at hb65
  obtain ⟨e65, e66, e67⟩ := hb65
  unfold Bl_X0 at hb69
  obtain ⟨e69, e70, e71⟩ := hb69
  have p0 : ee 0 = ent (Bs B ea) M0 0 := e0
  have p1 : ee 1 = ent (Bs B ea) M0 1 := e1
  have p2 : ee 2 = ent (Bs B ea) M0 2 := e2
  have p3 : ee 3 = ent (Bs B ea) M0 3 := e3
  have p4 : ee 4 = ent (Bs B ea) M0 4 := e4
  have p5 : ee 5 = ent (Bs B ea) M0 5 := e5
  have p6 : ee 6 = ent (Bs B ea) M0 6 := e6
  have p7 : ee 7 = ent (Bs B ea) M0 7 := e7
  have p8 : ee 8 = ent (Bs B ea) M0 8 := e8
  have p9 : ee 9 = ent (Bs B ea) M0 9 := e9
  have p10 : ee 10 = ent (Bs B ea) M0 10 := e10
  have p11 : ee 11 = ent (Bs B ea) M0 11 := e11
  have p12 : ee 12 = ent (Bs B ea) M0 12 := e12
  have p13 : ee 13 = ent (Bs B ea) M0 13 := e13
  have p14 : ee 14 = ent (Bs B ea) M0 14 := e14
  have p15 : ee 15 = ent (Bs B ea) M0 15 := e15
  have p16 : ee 16 = ent (Bs B ea) M0 16 := e16
  have p17 : ee 17 = ent (Bs B ea) M0 17 := e17
  have p18 : ee 18 = ent (Bs B ea) M0 18 := e18
  have p19 : ee 19 = ent (Bs B ea) M0 19 := Eq.trans e19 (congrArg (fun f => (Sum.inl (B.2.1, 208, Sum.inl f) : va_E)) (funext fun j : Nat => iteI (c := j < 208) (a := (j : Int)) (b := 0)))
  have p20 : ee 20 = ent (Bs B ea) M0 20 := e20
  have p21 : ee 21 = ent (Bs B ea) M0 21 := e21
  have p22 : ee 22 = ent (Bs B ea) M0 22 := Eq.trans e22 (congrArg (fun f => (Sum.inl (B.2.1, 64, Sum.inl f) : va_E)) (funext fun j : Nat => iteI (c := j < 8) (a := -1) (b := 0)))
  have p23 : ee 23 = ent (Bs B ea) M0 23 := Eq.trans e23 (congrArg (fun f => (Sum.inl (B.2.1, 8, Sum.inl f) : va_E)) (funext fun j : Nat => iteI (c := j < 1) (a := 8) (b := 0)))
  have p24 : ee 24 = ent (Bs B ea) M0 24 := Eq.trans e24 (congrArg (fun f => (Sum.inl (B.2.1, 8, Sum.inl f) : va_E)) (funext fun j : Nat => iteI (c := j < 8) (a := -1) (b := 0)))
  have p25 : ee 25 = ent (Bs B ea) M0 25 := e25
  have p26 : ee 26 = ent (Bs B ea) M0 26 := e26
  have p27 : ee 27 = ent (Bs B ea) M0 27 := e27
  have p28 : ee 28 = ent (Bs B ea) M0 28 := e28
  have p29 : ee 29 = ent (Bs B ea) M0 29 := e29
  have p30 : ee 30 = ent (Bs B ea) M0 30 := e30
  have p31 : ee 31 = ent (Bs B ea) M0 31 := e31
  have p32 : ee 32 = ent (Bs B ea) M0 32 := e32
  have p33 : ee 33 = ent (Bs B ea) M0 33 := e33
  have p34 : ee 34 = ent (Bs B ea) M0 34 := e34
  have p35 : ee 35 = ent (Bs B ea) M0 35 := e35
  have p36 : ee 36 = ent (Bs B ea) M0 36 := e36
  have p37 : ee 37 = ent (Bs B ea) M0 37 := e37
  have p38 : ee 38 = ent (Bs B ea) M0 38 := e38
  have p39 : ee 39 = ent (Bs B ea) M0 39 := e39
  have p40 : ee 40 = ent (Bs B ea) M0 40 := e40
  have p41 : ee 41 = ent (Bs B ea) M0 41 := e41
  have p42 : ee 42 = ent (Bs B ea) M0 42 := e42
  have p43 : ee 43 = ent (Bs B ea) M0 43 := e43
  have p44 : ee 44 = ent (Bs B ea) M0 44 := e44
  have p45 : ee 45 = ent (Bs B ea) M0 45 := e45
  have p46 : ee 46 = ent (Bs B ea) M0 46 := e46
  have p47 : ee 47 = ent (Bs B ea) M0 47 := e47
  have p48 : ee 48 = ent (Bs B ea) M0 48 := e48
  have p49 : ee 49 = ent (Bs B ea) M0 49 := e49
  have p50 : ee 50 = ent (Bs B ea) M0 50 := e50
  have p51 : ee 51 = ent (Bs B ea) M0 51 := e51
  have p52 : ee 52 = ent (Bs B ea) M0 52 := e52
  have p53 : ee 53 = ent (Bs B ea) M0 53 := e53
  have p54 : ee 54 = ent (Bs B ea) M0 54 := e54
  have p55 : ee 55 = ent (Bs B ea) M0 55 := e55
  have p56 : ee 56 = ent (Bs B ea) M0 56 := e56
  have p57 : ee 57 = ent (Bs B ea) M0 57 := e57
  have p58 : ee 58 = ent (Bs B ea) M0 58 := e58
  have p59 : ee 59 = ent (Bs B ea) M0 59 := e59
  have p60 : ee 60 = ent (Bs B ea) M0 60 := e60
  have p61 : ee 61 = ent (Bs B ea) M0 61 := e61
  have p62 : ee 62 = ent (Bs B ea) M0 62 := e62
  have p63 : ee 63 = ent (Bs B ea) M0 63 := e63
  have p64 : ee 64 = ent (Bs B ea) M0 64 := e64
  have p65 : ee 65 = ent (Bs B ea) M0 65 := e65
  have p66 : ee 66 = ent (Bs B ea) M0 66 := e66
  have p67 : ee 67 = ent (Bs B ea) M0 67 := e67
  have p68 : ee 68 = ent (Bs B ea) M0 68 := e68
  have p69 : ee 69 = ent (Bs B ea) M0 69 := e69
  have p70 : ee 70 = ent (Bs B ea) M0 70 := e70
  have p71 : ee 71 = ent (Bs B ea) M0 71 := e71
  intro o ho
  match o, ho with
  | 0, _ => exact p0
  | 1, _ => exact p1
  | 2, _ => exact p2
  | 3, _ => exact p3
  | 4, _ => exact p4
  | 5, _ => exact p5
  | 6, _ => exact p6
  | 7, _ => exact p7
  | 8, _ => exact p8
  | 9, _ => exact p9
  | 10, _ => exact p10
  | 11, _ => exact p11
  | 12, _ => exact p12
  | 13, _ => exact p13
  | 14, _ => exact p14
  | 15, _ => exact p15
  | 16, _ => exact p16
  | 17, _ => exact p17
  | 18, _ => exact p18
  | 19, _ => exact p19
  | 20, _ => exact p20
  | 21, _ => exact p21
  | 22, _ => exact p22
  | 23, _ => exact p23
  | 24, _ => exact p24
  | 25, _ => exact p25
  | 26, _ => exact p26
  | 27, _ => exact p27
  | 28, _ => exact p28
  | 29, _ => exact p29
  | 30, _ => exact p30
  | 31, _ => exact p31
  | 32, _ => exact p32
  | 33, _ => exact p33
  | 34, _ => exact p34
  | 35, _ => exact p35
  | 36, _ => exact p36
  | 37, _ => exact p37
  | 38, _ => exact p38
  | 39, _ => exact p39
  | 40, _ => exact p40
  | 41, _ => exact p41
  | 42, _ => exact p42
  | 43, _ => exact p43
  | 44, _ => exact p44
  | 45, _ => exact p45
  | 46, _ => exact p46
  | 47, _ => exact p47
  | 48, _ => exact p48
  | 49, _ => exact p49
  | 50, _ => exact p50
  | 51, _ => exact p51
  | 52, _ => exact p52
  | 53, _ => exact p53
  | 54, _ => exact p54
  | 55, _ => exact p55
  | 56, _ => exact p56
  | 57, _ => exact p57
  | 58, _ => exact p58
  | 59, _ => exact p59
  | 60, _ => exact p60
  | 61, _ => exact p61
  | 62, _ => exact p62
  | 63, _ => exact p63
  | 64, _ => exact p64
  | 65, _ => exact p65
  | 66, _ => exact p66
  | 67, _ => exact p67
  | 68, _ => exact p68
  | 69, _ => exact p69
  | 70, _ => exact p70
  | 71, _ => exact p71
  | o + 72, ho => exact absurd ho (by omega)
