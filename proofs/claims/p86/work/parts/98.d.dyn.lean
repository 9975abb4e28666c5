/-! ===== what a method answers, and what it may change: N nothing, D the law's objects, S these and new ones, M the class's memory, A all ===== -/
def kI (v : Option Value) (r : Int) : Prop := v = some (.int (I r)) ∧ inR r
def kZ (v : Option Value) (r : Int) : Prop := v = some (.int (I r)) ∧ (r = 0 ∨ r = 1)
def kR (v : Option Value) (t : Nat) : Prop := v = some (rv t)
def kV (v : Option Value) (_ : Unit) : Prop := v = none
def uN {α : Type} (rk : Option Value → α → Prop) (S : Sh) (D M : Mem) (Q : α → Prop) : OU := fun v S1 D1 M1 => S = S1 ∧ D = D1 ∧ M = M1 ∧ ∃ r, rk v r ∧ Q r
def uD {α : Type} (rk : Option Value → α → Prop) (S : Sh) (M : Mem) (Q : α → Mem → Prop) : OU := fun v S1 D1 M1 => S = S1 ∧ M = M1 ∧ ∃ r, rk v r ∧ Q r D1
def uS {α : Type} (rk : Option Value → α → Prop) (M : Mem) (Q : α → Sh → Mem → Prop) : OU := fun v S1 D1 M1 => M = M1 ∧ ∃ r, rk v r ∧ Q r S1 D1
def uM {α : Type} (rk : Option Value → α → Prop) (S : Sh) (D : Mem) (Q : α → Mem → Prop) : OU := fun v S1 D1 M1 => S = S1 ∧ D = D1 ∧ ∃ r, rk v r ∧ Q r M1
def uA {α : Type} (rk : Option Value → α → Prop) (Q : α → Sh → Mem → Mem → Prop) : OU := fun v S1 D1 M1 => ∃ r, rk v r ∧ Q r S1 D1 M1
def bxr (a b : Int) : Int := (I a ^^^ I b).toInt
section Dyn6
variable {G : GT} {md : Md} {k n : Nat} {X : va_W} {S : Sh} {D M : Mem} {pc : Nat} {lv lv' : List (Nat × Value)} {st : List Value}
theorem V_qload_n (h : Cx G md) {j : Fin 4} {t : Nat} (q : Nat) (hq : lv[q]? = some ((j : Nat), rv t)) (d : decode md.2.1 pc = .ok (.aload_n j, 1)) (kk : V G md k n X M (pc + 1) lv (rv t :: st)) : V G md k n X M pc lv st := by
  obtain ⟨p, l, e, R, s, m, args, below, meth, c, B, A, Z⟩ := G
  intro hM H locs ls hl hP hD hS
  by_cases h0 : t = 0
  · subst h0
    exact lv_aload_nN h.1 h.2.1 d rfl (lv_at hl q hq) (kk hM H locs ls hl hP hD hS)
  · rw [rv_ne h0] at hq kk
    exact lv_aload_n h.1 h.2.1 d rfl (lv_at hl q hq) (kk hM H locs ls hl hP hD hS)
theorem V_qload (h : Cx G md) {j : Nat} {t : Nat} (q : Nat) (hq : lv[q]? = some (j, rv t)) (d : decode md.2.1 pc = .ok (.aload j, 2)) (kk : V G md k n X M (pc + 2) lv (rv t :: st)) : V G md k n X M pc lv st := by
  obtain ⟨p, l, e, R, s, m, args, below, meth, c, B, A, Z⟩ := G
  intro hM H locs ls hl hP hD hS
  by_cases h0 : t = 0
  · subst h0
    exact lv_aloadN h.1 h.2.1 d (lv_at hl q hq) (kk hM H locs ls hl hP hD hS)
  · rw [rv_ne h0] at hq kk
    exact lv_aload h.1 h.2.1 d (lv_at hl q hq) (kk hM H locs ls hl hP hD hS)
theorem V_qstore_n (h : Cx G md) {j : Fin 4} {t : Nat} (hn : (j : Nat) < md.2.2.1) (hlv : ((j : Nat), rv t) :: lv.filter (fun q => !(q.1 == (j : Nat)) && !(q.1 + 1 == (j : Nat) && q.2.category == 2)) = lv') (d : decode md.2.1 pc = .ok (.astore_n j, 1)) (kk : V G md k n X M (pc + 1) lv' st) : V G md k n X M pc lv (rv t :: st) := by
  obtain ⟨p, l, e, R, s, m, args, below, meth, c, B, A, Z⟩ := G
  intro hM H locs ls hl hP hD hS
  by_cases h0 : t = 0
  · subst h0
    exact lv_astore_nN h.1 h.2.1 d rfl hl hn hlv (fun ls hl => kk hM H locs ls hl hP hD hS)
  · rw [rv_ne h0] at hlv ⊢
    exact lv_astore_n h.1 h.2.1 d rfl hl hn hlv (fun ls hl => kk hM H locs ls hl hP hD hS)
theorem V_qstore (h : Cx G md) {j : Nat} {t : Nat} (hn : j < md.2.2.1) (hlv : (j, rv t) :: lv.filter (fun q => !(q.1 == j) && !(q.1 + 1 == j && q.2.category == 2)) = lv') (d : decode md.2.1 pc = .ok (.astore j, 2)) (kk : V G md k n X M (pc + 2) lv' st) : V G md k n X M pc lv (rv t :: st) := by
  obtain ⟨p, l, e, R, s, m, args, below, meth, c, B, A, Z⟩ := G
  intro hM H locs ls hl hP hD hS
  by_cases h0 : t = 0
  · subst h0
    exact lv_astoreN h.1 h.2.1 d hl hn hlv (fun ls hl => kk hM H locs ls hl hP hD hS)
  · rw [rv_ne h0] at hlv ⊢
    exact lv_astore h.1 h.2.1 d hl hn hlv (fun ls hl => kk hM H locs ls hl hP hD hS)
theorem V_xor (h : Cx G md) {a b : Int} (d : decode md.2.1 pc = .ok (.ixor, 1)) (kk : inR (bxr a b) → V G md k n X M (pc + 1) lv (.int (I (bxr a b)) :: st)) : V G md k n X M pc lv (.int (I b) :: .int (I a) :: st) := by
  obtain ⟨p, l, e, R, s, m, args, below, meth, c, B, A, Z⟩ := G
  have e1 : I (bxr a b) = I a ^^^ I b := I_of _
  rw [e1] at kk
  exact fun hM H locs ls hl hP hD hS => lv_ixor h.1 h.2.1 d (kk (inR_of _) hM H locs ls hl hP hD hS)
theorem V_ldcI (h : Cx G md) {idx : Nat} (a : Int) {v : Int32} (hv : I a = v) (hw : Cond.constant md.1.cls idx v ∈ wAll) (d : decode md.2.1 pc = .ok (.ldc idx, 2)) (kk : V G md k n X M (pc + 2) lv (.int (I a) :: st)) : V G md k n X M pc lv st := by
  obtain ⟨p, l, e, R, s, m, args, below, meth, c, B, A, Z⟩ := G
  rw [hv] at kk
  exact fun hM H locs ls hl hP hD hS => lv_ldc h.1 h.2.1 h.2.2.2.1 (h.2.2.2.2.1 _ hw) d (kk hM H locs ls hl hP hD hS)
/-- a number in range in its place -/
theorem V_norm {x : Int} (kk : ∀ z : Int, inR z → V G md k n X M pc lv (.int (I z) :: st)) : V G md k n X M pc lv (.int (I x) :: st) := V_any (fun y => .int y :: st) (fun z hz _ => kk z hz)
theorem V_dcmpz (h : Cx G md) {x y : UInt64} {op : CmpOp} (d : decode md.2.1 pc = .ok (.dcmp op, 1)) (kk : ∀ z : Int, inR z → I z = Op.cmpValue (FP.dcmp x y) op → V G md k n X M (pc + 1) lv (.int (I z) :: st)) : V G md k n X M pc lv (.double y :: .double x :: st) := by
  refine V_dcmp h d ?_
  have h1 := kk (Op.cmpValue (FP.dcmp x y) op).toInt (inR_of _) (I_of _)
  rwa [I_of] at h1
/-! calls of the class's methods, at any room used -/
variable {cd : Md} {na idx d0 o : Nat} {As : List Value}
theorem V_mI (h : Cx G md) (hl : Lv md.1.cls idx cd na) (hd : decode md.2.1 pc = .ok (.invokevirtual idx, 3)) (hdep : cd.2.2.2.2 < d0) (hrm : Rm G d0) (hr : Rcv o cd) (hn : As.length = na) (hst : (st.map fun v => v.category).sum ≤ 8) (hk : k ≤ (gR G).cells ∧ n ≤ (gR G).slots) {Q : Int → Mem → Prop} (kk : OkI (gB G) (gl G) cd 0 0 (.ref (ad (gB G) o) :: As) X M Q NoX) (kv : ∀ r M1, inR r → Q r M1 → V G md k n X M1 (pc + 3) lv (.int (I r) :: st)) : V G md k n X M pc lv (As.reverse ++ .ref (ad (gB G) o) :: st) :=
  V_callV h hl hd hdep hrm hr.1 rfl hr.2.1 hr.2.2 hn hst hk kk (fun _ _ q => q) (fun v M1 q => by obtain ⟨r, rfl, z, q2⟩ := q; exact kv r M1 z q2)
theorem V_mL (h : Cx G md) (hl : Lv md.1.cls idx cd na) (hd : decode md.2.1 pc = .ok (.invokevirtual idx, 3)) (hdep : cd.2.2.2.2 < d0) (hrm : Rm G d0) (hr : Rcv o cd) (hn : As.length = na) (hst : (st.map fun v => v.category).sum ≤ 8) (hk : k ≤ (gR G).cells ∧ n ≤ (gR G).slots) {Q : Int64 → Mem → Prop} (kk : OkL (gB G) (gl G) cd 0 0 (.ref (ad (gB G) o) :: As) X M Q NoX) (kv : ∀ r M1, Q r M1 → V G md k n X M1 (pc + 3) lv (.long r :: st)) : V G md k n X M pc lv (As.reverse ++ .ref (ad (gB G) o) :: st) :=
  V_callV h hl hd hdep hrm hr.1 rfl hr.2.1 hr.2.2 hn hst hk kk (fun _ _ q => q) (fun v M1 q => by obtain ⟨r, rfl, q2⟩ := q; exact kv r M1 q2)
theorem V_mD (h : Cx G md) (hl : Lv md.1.cls idx cd na) (hd : decode md.2.1 pc = .ok (.invokevirtual idx, 3)) (hdep : cd.2.2.2.2 < d0) (hrm : Rm G d0) (hr : Rcv o cd) (hn : As.length = na) (hst : (st.map fun v => v.category).sum ≤ 8) (hk : k ≤ (gR G).cells ∧ n ≤ (gR G).slots) {Q : UInt64 → Mem → Prop} (kk : OkD (gB G) (gl G) cd 0 0 (.ref (ad (gB G) o) :: As) X M Q NoX) (kv : ∀ r M1, Q r M1 → V G md k n X M1 (pc + 3) lv (.double r :: st)) : V G md k n X M pc lv (As.reverse ++ .ref (ad (gB G) o) :: st) :=
  V_callV h hl hd hdep hrm hr.1 rfl hr.2.1 hr.2.2 hn hst hk kk (fun _ _ q => q) (fun v M1 q => by obtain ⟨r, rfl, q2⟩ := q; exact kv r M1 q2)
end Dyn6
section DynH
variable {G : GT} {md : Md} {k n : Nat} {S0 S : Sh} {D M : Mem} {pc : Nat} {lv : List (Nat × Value)} {st : List Value} {O : OU} {hh : List (Nat × Nat × Nat × Nat)}
/-- a handler: the rows ahead of it don't cover the place, or name other classes -/
def HndU (own : String) (hh : List (Nat × Nat × Nat × Nat)) (pc : Nat) (E : String) (hpc : Nat) : Prop := ∃ (i : Nat) (x : Nat × Nat × Nat × Nat), hh[i]? = some x ∧ (∀ z ∈ hh.take i, covers ⟨z.1, z.2.1, z.2.2.1, z.2.2.2⟩ pc = false ∨ (z.2.2.2 ≠ 0 ∧ ∃ nm, Cond.classLink own z.2.2.2 nm ∈ wAll ∧ NcP E nm)) ∧ covers ⟨x.1, x.2.1, x.2.2.1, x.2.2.2⟩ pc = true ∧ x.2.2.2 ≠ 0 ∧ Cond.classLink own x.2.2.2 E ∈ wAll ∧ Cond.castable E E ∈ nestW ∧ x.2.2.1 = hpc
theorem cut_at {α : Type} {l : List α} {i : Nat} {x : α} (h : l[i]? = some x) : l = l.take i ++ x :: l.drop (i + 1) := by
  induction l generalizing i with
  | nil => simp at h
  | cons y l ih =>
    cases i with
    | zero => cases h; rfl
    | succ i =>
      show y :: l = y :: (l.take i ++ x :: l.drop (i + 1))
      rw [← ih h]
/-- a call of a method that throws, in a method that catches -/
theorem V_mH (h : Cx G md) (hR : RtU G hh S0 O) {cd : Md} {na idx d0 o kc nc : Nat} {As : List Value} {O1 : Out → Mem → Prop} (hl : Mk cd na ∧ Cond.methodLink md.1.cls idx cd.1 ∈ wAll ∧ Cond.instanceMethod cd.1 ∈ wAll ∧ Cond.selects cd.1.cls cd.1 cd.1 ∈ wAll) (hd : decode md.2.1 pc = .ok (.invokevirtual idx, 3)) (hdep : cd.2.2.2.2 < d0) (hrm : Rm G d0) (hr : Rcv o cd) (hn : As.length = na) (hst : (st.map fun v => v.category).sum ≤ 8) (hk : k + kc ≤ (gR G).cells ∧ n + nc ≤ (gR G).slots)
    (kk : Ok (gB G) (gl G) cd kc nc (.ref (ad (gB G) o) :: As) (dl (gB G) S D) M O1) (hO : ∀ v M1, ¬ O1 (.inl v) M1) (kx : ∀ E M1, O1 (.inr E) M1 → ∃ hpc, HndU md.1.cls hh pc E hpc ∧ ∀ q, V G md (k + kc) (n + nc) (dl (gB G) S D) M1 hpc lv [.ref q]) : V G md k n (dl (gB G) S D) M pc lv (As.reverse ++ .ref (ad (gB G) o) :: st) := by
  obtain ⟨p, l, e, R, s, m, args, below, meth, c, B, A, Z⟩ := G
  obtain ⟨hx, hb, hml, hown, hts, hKn, hlk, hfl, hA1, hA2, hret⟩ := h
  obtain ⟨hmk, hlink, hin, hsel⟩ := hl
  obtain ⟨hA, hZ, hT⟩ := hR
  obtain ⟨ho, h1, hC⟩ := hr
  intro hM H locs ls hls hP hD hSS
  have he : (wl B M ++ dl B S D)[o]? = some (ad B o, .inr (sh o, (List.range (ln o)).map (fld B M o))) := by rw [wl_get ho, ent_obj h1]
  obtain ⟨q, hq, -⟩ := lay_ok o ho h1
  have hqC : q.1 = cd.1.cls := by rw [hq] at hC; exact Option.some.inj hC
  have hrecv := va_recv hKn.1 hP hq he
  rw [hqC] at hrecv
  have hpre := pre_of (av := .ref (ad B o) :: As) hP hD hSS hA2 hKn
  have hMet := kk hM H.size
  have hrun : vx_Run p l e R s m args below meth c H locs k n kc nc (F0 m pc ls (As.reverse ++ .ref (ad B o) :: st)) st (QcO B (dl B S D) O1 H.size (Value.ref (ad B o) :: As).toArray) (XcO B (dl B S D) O1 H.size) (AA B (dl B S D) H.size) :=
    vx_runV (C := cd.1.cls) (As := As) (rest := st) ⟨hx, hb, hml, hown, hts⟩ hMet ⟨CallB_md hmk hts (hts _ hlink) hrm hdep, hts _ hin, hts _ hsel⟩ ⟨hpre.1, hrecv, hpre.2⟩ rfl hn hls.1 rfl (lv_room hst) hd hk
  intro T hT2 XX
  rcases hrun T hT2 XX with ⟨v, st₀, t, T', L, h0, X', hL, e1, e2, ⟨v', M1, hv, hO1, -⟩, stp⟩ | ⟨q9, st₀, t, T', L, E, ce, h0, X', hL, e1, e2, ⟨M1, hO1, hM1, hW1, hF⟩, hce, hcv, hcl, stp⟩
  · exact absurd hO1 (hO _ _)
  · have hAA : ∀ q, AA B (dl B S D) H.size q → A q := AA_of hD (fun q h => hA1 q (Nat.le_trans hSS.1 h))
    obtain ⟨-, -, k3⟩ := vx_keep h0 e1 hSS (fun q _ h => hAA q h) (fun q h => hAA q h) hL hF
    obtain ⟨hpc, ⟨i9, x, g1, g2, g3, g4, g5, g6, g7⟩, kv⟩ := kx E M1 hO1
    have hout := vx_catch (p := p) (l := l) (e := e) (R := R) (s := s) (m := m) (args := args) (below := below) (meth := meth) (c := c) (H := T'.heap) (locs := locs ++ L) (cells := k + kc) (slots := n + nc) (Q := Z) (ls := ls) (rest := st) (pc := pc) (q := q9) (E := E) (ce := ce) (name := E) hown
      (tableOf (hh.take i9)) ⟨x.1, x.2.1, x.2.2.1, x.2.2.2⟩ (tableOf (hh.drop (i9 + 1))) (by rw [hT]; have h9 := congrArg tableOf (cut_at g1); rw [h9]; unfold tableOf; rw [List.map_append, List.map_cons]) (fun z hz => by
        obtain ⟨y, hy, rfl⟩ := List.mem_map.mp hz
        rcases g2 y hy with a0 | ⟨a1, nm, a2, a3⟩
        · exact Or.inl a0
        · exact Or.inr ⟨a1, nm, hts _ a2, NcP_of hKn a3⟩) g3 g4 (hts _ g5) (va_Nw.use (nest_tab g6) (hKn.2.1 _ g6)) (by rw [e1]; exact hce) hcv hcl
      (by
        show W p l e R s m args below meth c T'.heap (locs ++ L) (k + kc) (n + nc) Z (F0 m x.2.2.1 ls [.ref q9])
        rw [g7]
        exact kv q9 hM1 T'.heap (locs ++ L) ls hls (by rw [e1]; exact hW1) (wl_addr hD) k3) T' rfl X'
    obtain ⟨t2, a1, b1⟩ := hout
    exact ⟨t2, stp.trans a1, b1⟩
end DynH
