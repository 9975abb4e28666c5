section Law2
variable {G : GT} {md cd : Md} {k n : Nat} {X : va_W} {M : Mem} {pc na idx d0 o kc nc : Nat} {lv : List (Nat × Value)} {st As : List Value} {b L : Nat} {xs : Nat → Int32}
theorem kl {k n : Nat} (hz : Lz G b L xs) (h1 : k ≤ 601024) (h2 : n ≤ 7293034) : k ≤ (gR G).cells ∧ n ≤ (gR G).slots := by
  obtain ⟨p, l, e, R, s, m, args, below, meth, c, B, A, Z⟩ := G
  obtain ⟨-, rfl, -⟩ := hz
  exact ⟨h1, h2⟩
theorem Rm_law (hz : Lz G b L xs) : Rm G 60 := by
  obtain ⟨p, l, e, R, s, m, args, below, meth, c, B, A, Z⟩ := G
  obtain ⟨-, rfl, -⟩ := hz
  show 60 + 8 ≤ room_1.frames ∧ 80 * 60 + 200 ≤ room_1.locals
  exact ⟨Nat.le_of_ble_eq_true rfl, Nat.le_of_ble_eq_true rfl⟩
theorem V_dcmpz (h : Cx G md) {x y : UInt64} {op : CmpOp} (d : decode md.2.1 pc = .ok (.dcmp op, 1)) (kk : ∀ z : Int, inR z → I z = Op.cmpValue (FP.dcmp x y) op → V G md k n X M (pc + 1) lv (.int (I z) :: st)) : V G md k n X M pc lv (.double y :: .double x :: st) := by
  refine V_dcmp h d ?_
  have h1 := kk (Op.cmpValue (FP.dcmp x y) op).toInt (inR_of _) (I_of _)
  rwa [I_of] at h1
theorem V_cVlK (h : Cx G md) (hl : Lv md.1.cls idx cd na) (hd : decode md.2.1 pc = .ok (.invokevirtual idx, 3)) (hdep : cd.2.2.2.2 < d0) (hrm : Rm G d0) (hr : Rcv o cd) (hn : As.length = na) (hst : (st.map fun v => v.category).sum ≤ 8) (hk : k + kc ≤ (gR G).cells ∧ n + nc ≤ (gR G).slots) {Q : Int64 → Mem → Prop} (kk : OkL (gB G) (gl G) cd kc nc (.ref (ad (gB G) o) :: As) X M Q NoX) (kv : ∀ r M1, Q r M1 → V G md (k + kc) (n + nc) X M1 (pc + 3) lv (.long r :: st)) : V G md k n X M pc lv (As.reverse ++ .ref (ad (gB G) o) :: st) :=
  V_callV h hl hd hdep hrm hr.1 rfl hr.2.1 hr.2.2 hn hst hk kk (fun _ _ q => q) (fun v M1 q => by obtain ⟨r, rfl, q1⟩ := q; exact kv r M1 q1)
theorem V_cVd (h : Cx G md) (hl : Lv md.1.cls idx cd na) (hd : decode md.2.1 pc = .ok (.invokevirtual idx, 3)) (hdep : cd.2.2.2.2 < d0) (hrm : Rm G d0) (hr : Rcv o cd) (hn : As.length = na) (hst : (st.map fun v => v.category).sum ≤ 8) (hk : k ≤ (gR G).cells ∧ n ≤ (gR G).slots) {Q : UInt64 → Mem → Prop} (kk : OkD (gB G) (gl G) cd 0 0 (.ref (ad (gB G) o) :: As) X M Q NoX) (kv : ∀ r M1, Q r M1 → V G md k n X M1 (pc + 3) lv (.double r :: st)) : V G md k n X M pc lv (As.reverse ++ .ref (ad (gB G) o) :: st) :=
  V_callV h hl hd hdep hrm hr.1 rfl hr.2.1 hr.2.2 hn hst hk kk (fun _ _ q => q) (fun v M1 q => by obtain ⟨r, rfl, q1⟩ := q; exact kv r M1 q1)
end Law2
