/-! ===== WHILE THE FIXED OBJECTS ARE MADE: the first N of them stand at ea 0, ea 1 .., and are ee 0, ee 1 .. ===== -/
def upf {α : Type} (f : Nat → α) (o : Nat) (x : α) : Nat → α := fun o' => if o' = o then x else f o'
theorem upf_s {α : Type} (f : Nat → α) (o : Nat) (x : α) : upf f o x o = x := by simp [upf]
theorem upf_n {α : Type} {f : Nat → α} {o o' : Nat} {x : α} (h : o' ≠ o) : upf f o x o' = f o' := by simp [upf, h]
def wN (N : Nat) (ea : Nat → Nat) (ee : Nat → va_E) : va_W := (List.range N).map (fun o => (ea o, ee o))
theorem wN_get {N o : Nat} {ea : Nat → Nat} {ee : Nat → va_E} (h : o < N) : (wN N ea ee)[o]? = some (ea o, ee o) := by simp [wN, h]
theorem wN_len {N : Nat} {ea : Nat → Nat} {ee : Nat → va_E} : (wN N ea ee).length = N := by simp [wN]
theorem wN_congr {N : Nat} {ea ea' : Nat → Nat} {ee ee' : Nat → va_E} (h : ∀ o, o < N → ea o = ea' o ∧ ee o = ee' o) : wN N ea ee = wN N ea' ee' := by
  unfold wN
  apply List.map_congr_left
  intro o ho
  obtain ⟨h1, h2⟩ := h o (List.mem_range.mp ho)
  rw [h1, h2]
theorem wN_set {N o : Nat} {ea : Nat → Nat} {ee : Nat → va_E} {x : va_E} (h : o < N) : (wN N ea ee).set o (ea o, x) = wN N ea (upf ee o x) := by
  apply List.ext_getElem?
  intro i
  by_cases hi : i < N
  · by_cases hio : i = o
    · subst hio
      rw [List.getElem?_set_self (by rw [wN_len]; exact h), wN_get hi, upf_s]
    · rw [List.getElem?_set_ne (Ne.symm hio), wN_get hi, wN_get hi, upf_n hio]
  · rw [List.getElem?_eq_none (by rw [List.length_set, wN_len]; omega), List.getElem?_eq_none (by rw [wN_len]; omega)]
theorem wN_push {N q : Nat} {ea : Nat → Nat} {ee : Nat → va_E} {x : va_E} : wN N ea ee ++ [(q, x)] = wN (N + 1) (upf ea N q) (upf ee N x) := by
  unfold wN
  rw [List.range_succ, List.map_append]
  congr 1
  · apply List.map_congr_left
    intro o ho
    have := List.mem_range.mp ho
    rw [upf_n (by omega), upf_n (by omega)]
  · simp [upf]
def VC (G : GT) (md : Md) (k n N : Nat) (ea : Nat → Nat) (ee : Nat → va_E) (pc : Nat) (lv : List (Nat × Value)) (st : List Value) : Prop :=
  match G with
  | (p, l, e, R, s, m, args, below, meth, c, B, A, Z) =>
    ∀ (H : Heap) (locs : List Loc) (ls : Array Slot), lv_has ls md.2.2.1 lv → va_P B.1 vwCl (wN N ea ee) H → va_D A (wN N ea ee) → va_S A s.heap H locs → W p l e R s m args below meth c H locs k n Z (F0 m pc ls st)
theorem VC_eq {G : GT} {md : Md} {k n N pc : Nat} {ea ea' : Nat → Nat} {ee ee' : Nat → va_E} {lv : List (Nat × Value)} {st : List Value} (h : ∀ o, o < N → ea o = ea' o ∧ ee o = ee' o) (kk : VC G md k n N ea' ee' pc lv st) : VC G md k n N ea ee pc lv st := by
  obtain ⟨p, l, e, R, s, m, args, below, meth, c, B, A, Z⟩ := G
  intro H locs ls hl hP hD hS
  rw [wN_congr h] at hP hD
  exact kk H locs ls hl hP hD hS
section RulesC
variable {G : GT} {md : Md} {k n N : Nat} {ea : Nat → Nat} {ee : Nat → va_E} {pc : Nat} {lv lv' : List (Nat × Value)} {st : List Value}
theorem C_iconst (h : Cx G md) {a : Int} (d : decode md.2.1 pc = .ok (.iconst a, 1)) (kk : VC G md k n N ea ee (pc + 1) lv (.int (I a) :: st)) : VC G md k n N ea ee pc lv st := by
  obtain ⟨p, l, e, R, s, m, args, below, meth, c, B, A, Z⟩ := G
  exact fun H locs ls hl hP hD hS => lv_iconst h.1 h.2.1 d rfl (kk H locs ls hl hP hD hS)
theorem C_bipush (h : Cx G md) {a : Int} (d : decode md.2.1 pc = .ok (.bipush a, 2)) (ha : (Int8.ofInt a).toInt32 = I a) (kk : VC G md k n N ea ee (pc + 2) lv (.int (I a) :: st)) : VC G md k n N ea ee pc lv st := by
  obtain ⟨p, l, e, R, s, m, args, below, meth, c, B, A, Z⟩ := G
  exact fun H locs ls hl hP hD hS => lv_bipush h.1 h.2.1 d ha (kk H locs ls hl hP hD hS)
theorem C_sipush (h : Cx G md) {a : Int} (d : decode md.2.1 pc = .ok (.sipush a, 3)) (ha : (Int16.ofInt a).toInt32 = I a) (kk : VC G md k n N ea ee (pc + 3) lv (.int (I a) :: st)) : VC G md k n N ea ee pc lv st := by
  obtain ⟨p, l, e, R, s, m, args, below, meth, c, B, A, Z⟩ := G
  exact fun H locs ls hl hP hD hS => lv_sipush h.1 h.2.1 d ha (kk H locs ls hl hP hD hS)
theorem C_iload_n (h : Cx G md) {j : Fin 4} {x : Int32} (q : Nat) (hq : lv[q]? = some ((j : Nat), .int x)) (d : decode md.2.1 pc = .ok (.iload_n j, 1)) (kk : VC G md k n N ea ee (pc + 1) lv (.int x :: st)) : VC G md k n N ea ee pc lv st := by
  obtain ⟨p, l, e, R, s, m, args, below, meth, c, B, A, Z⟩ := G
  exact fun H locs ls hl hP hD hS => lv_iload_n h.1 h.2.1 d rfl (lv_at hl q hq) (kk H locs ls hl hP hD hS)
theorem C_iload (h : Cx G md) {j : Nat} {x : Int32} (q : Nat) (hq : lv[q]? = some (j, .int x)) (d : decode md.2.1 pc = .ok (.iload j, 2)) (kk : VC G md k n N ea ee (pc + 2) lv (.int x :: st)) : VC G md k n N ea ee pc lv st := by
  obtain ⟨p, l, e, R, s, m, args, below, meth, c, B, A, Z⟩ := G
  exact fun H locs ls hl hP hD hS => lv_iload h.1 h.2.1 d (lv_at hl q hq) (kk H locs ls hl hP hD hS)
theorem C_aload_n (h : Cx G md) {j : Fin 4} {x : Nat} (q : Nat) (hq : lv[q]? = some ((j : Nat), .ref x)) (d : decode md.2.1 pc = .ok (.aload_n j, 1)) (kk : VC G md k n N ea ee (pc + 1) lv (.ref x :: st)) : VC G md k n N ea ee pc lv st := by
  obtain ⟨p, l, e, R, s, m, args, below, meth, c, B, A, Z⟩ := G
  exact fun H locs ls hl hP hD hS => lv_aload_n h.1 h.2.1 d rfl (lv_at hl q hq) (kk H locs ls hl hP hD hS)
theorem C_aload (h : Cx G md) {j : Nat} {x : Nat} (q : Nat) (hq : lv[q]? = some (j, .ref x)) (d : decode md.2.1 pc = .ok (.aload j, 2)) (kk : VC G md k n N ea ee (pc + 2) lv (.ref x :: st)) : VC G md k n N ea ee pc lv st := by
  obtain ⟨p, l, e, R, s, m, args, below, meth, c, B, A, Z⟩ := G
  exact fun H locs ls hl hP hD hS => lv_aload h.1 h.2.1 d (lv_at hl q hq) (kk H locs ls hl hP hD hS)
theorem C_lload_n (h : Cx G md) {j : Fin 4} {x : Int64} (q : Nat) (hq : lv[q]? = some ((j : Nat), .long x)) (d : decode md.2.1 pc = .ok (.lload_n j, 1)) (kk : VC G md k n N ea ee (pc + 1) lv (.long x :: st)) : VC G md k n N ea ee pc lv st := by
  obtain ⟨p, l, e, R, s, m, args, below, meth, c, B, A, Z⟩ := G
  exact fun H locs ls hl hP hD hS => lv_lload_n h.1 h.2.1 d rfl (lv_at hl q hq) (kk H locs ls hl hP hD hS)
theorem C_lload (h : Cx G md) {j : Nat} {x : Int64} (q : Nat) (hq : lv[q]? = some (j, .long x)) (d : decode md.2.1 pc = .ok (.lload j, 2)) (kk : VC G md k n N ea ee (pc + 2) lv (.long x :: st)) : VC G md k n N ea ee pc lv st := by
  obtain ⟨p, l, e, R, s, m, args, below, meth, c, B, A, Z⟩ := G
  exact fun H locs ls hl hP hD hS => lv_lload h.1 h.2.1 d (lv_at hl q hq) (kk H locs ls hl hP hD hS)
theorem C_istore_n (h : Cx G md) {j : Fin 4} {x : Int32} (hn : (j : Nat) < md.2.2.1) (hlv : ((j : Nat), Value.int x) :: lv.filter (fun q => !(q.1 == (j : Nat)) && !(q.1 + 1 == (j : Nat) && q.2.category == 2)) = lv') (d : decode md.2.1 pc = .ok (.istore_n j, 1)) (kk : VC G md k n N ea ee (pc + 1) lv' st) : VC G md k n N ea ee pc lv (.int x :: st) := by
  obtain ⟨p, l, e, R, s, m, args, below, meth, c, B, A, Z⟩ := G
  exact fun H locs ls hl hP hD hS => lv_istore_n h.1 h.2.1 d rfl hl hn hlv (fun ls hl => kk H locs ls hl hP hD hS)
theorem C_istore (h : Cx G md) {j : Nat} {x : Int32} (hn : j < md.2.2.1) (hlv : (j, Value.int x) :: lv.filter (fun q => !(q.1 == j) && !(q.1 + 1 == j && q.2.category == 2)) = lv') (d : decode md.2.1 pc = .ok (.istore j, 2)) (kk : VC G md k n N ea ee (pc + 2) lv' st) : VC G md k n N ea ee pc lv (.int x :: st) := by
  obtain ⟨p, l, e, R, s, m, args, below, meth, c, B, A, Z⟩ := G
  exact fun H locs ls hl hP hD hS => lv_istore h.1 h.2.1 d hl hn hlv (fun ls hl => kk H locs ls hl hP hD hS)
theorem C_astore_n (h : Cx G md) {j : Fin 4} {x : Nat} (hn : (j : Nat) < md.2.2.1) (hlv : ((j : Nat), Value.ref x) :: lv.filter (fun q => !(q.1 == (j : Nat)) && !(q.1 + 1 == (j : Nat) && q.2.category == 2)) = lv') (d : decode md.2.1 pc = .ok (.astore_n j, 1)) (kk : VC G md k n N ea ee (pc + 1) lv' st) : VC G md k n N ea ee pc lv (.ref x :: st) := by
  obtain ⟨p, l, e, R, s, m, args, below, meth, c, B, A, Z⟩ := G
  exact fun H locs ls hl hP hD hS => lv_astore_n h.1 h.2.1 d rfl hl hn hlv (fun ls hl => kk H locs ls hl hP hD hS)
theorem C_astore (h : Cx G md) {j : Nat} {x : Nat} (hn : j < md.2.2.1) (hlv : (j, Value.ref x) :: lv.filter (fun q => !(q.1 == j) && !(q.1 + 1 == j && q.2.category == 2)) = lv') (d : decode md.2.1 pc = .ok (.astore j, 2)) (kk : VC G md k n N ea ee (pc + 2) lv' st) : VC G md k n N ea ee pc lv (.ref x :: st) := by
  obtain ⟨p, l, e, R, s, m, args, below, meth, c, B, A, Z⟩ := G
  exact fun H locs ls hl hP hD hS => lv_astore h.1 h.2.1 d hl hn hlv (fun ls hl => kk H locs ls hl hP hD hS)
theorem C_lstore_n (h : Cx G md) {j : Fin 4} {x : Int64} (hn : (j : Nat) + 1 < md.2.2.1) (hlv : ((j : Nat), Value.long x) :: lv.filter (fun q => !(q.1 == (j : Nat)) && (!(q.1 == (j : Nat) + 1) && !(q.1 + 1 == (j : Nat) && q.2.category == 2))) = lv') (d : decode md.2.1 pc = .ok (.lstore_n j, 1)) (kk : VC G md k n N ea ee (pc + 1) lv' st) : VC G md k n N ea ee pc lv (.long x :: st) := by
  obtain ⟨p, l, e, R, s, m, args, below, meth, c, B, A, Z⟩ := G
  exact fun H locs ls hl hP hD hS => lv_lstore_n h.1 h.2.1 d rfl hl hn hlv (fun ls hl => kk H locs ls hl hP hD hS)
theorem C_lstore (h : Cx G md) {j : Nat} {x : Int64} (hn : j + 1 < md.2.2.1) (hlv : (j, Value.long x) :: lv.filter (fun q => !(q.1 == j) && (!(q.1 == j + 1) && !(q.1 + 1 == j && q.2.category == 2))) = lv') (d : decode md.2.1 pc = .ok (.lstore j, 2)) (kk : VC G md k n N ea ee (pc + 2) lv' st) : VC G md k n N ea ee pc lv (.long x :: st) := by
  obtain ⟨p, l, e, R, s, m, args, below, meth, c, B, A, Z⟩ := G
  exact fun H locs ls hl hP hD hS => lv_lstore h.1 h.2.1 d hl hn hlv (fun ls hl => kk H locs ls hl hP hD hS)
theorem C_iinc (h : Cx G md) {j : Nat} {a b : Int} (q : Nat) (hq : lv[q]? = some (j, .int (I b))) (hn : j < md.2.2.1) (hlv : (j, Value.int (I (b + a))) :: lv.filter (fun q => !(q.1 == j) && !(q.1 + 1 == j && q.2.category == 2)) = lv') (d : decode md.2.1 pc = .ok (.iinc j a, 3)) (kk : VC G md k n N ea ee (pc + 3) lv' st) : VC G md k n N ea ee pc lv st := by
  obtain ⟨p, l, e, R, s, m, args, below, meth, c, B, A, Z⟩ := G
  exact fun H locs ls hl hP hD hS => lv_iinc h.1 h.2.1 d hl hq (I_add b a) hn hlv (fun ls hl => kk H locs ls hl hP hD hS)
theorem C_iadd (h : Cx G md) {a b : Int} (d : decode md.2.1 pc = .ok (.iadd, 1)) (kk : VC G md k n N ea ee (pc + 1) lv (.int (I (a + b)) :: st)) : VC G md k n N ea ee pc lv (.int (I b) :: .int (I a) :: st) := by
  obtain ⟨p, l, e, R, s, m, args, below, meth, c, B, A, Z⟩ := G
  exact fun H locs ls hl hP hD hS => lv_iadd h.1 h.2.1 d (by rw [I_add]; exact kk H locs ls hl hP hD hS)
theorem C_isub (h : Cx G md) {a b : Int} (d : decode md.2.1 pc = .ok (.isub, 1)) (kk : VC G md k n N ea ee (pc + 1) lv (.int (I (a - b)) :: st)) : VC G md k n N ea ee pc lv (.int (I b) :: .int (I a) :: st) := by
  obtain ⟨p, l, e, R, s, m, args, below, meth, c, B, A, Z⟩ := G
  exact fun H locs ls hl hP hD hS => lv_isub h.1 h.2.1 d (by rw [I_sub]; exact kk H locs ls hl hP hD hS)
theorem C_imul (h : Cx G md) {a b : Int} (d : decode md.2.1 pc = .ok (.imul, 1)) (kk : VC G md k n N ea ee (pc + 1) lv (.int (I (a * b)) :: st)) : VC G md k n N ea ee pc lv (.int (I b) :: .int (I a) :: st) := by
  obtain ⟨p, l, e, R, s, m, args, below, meth, c, B, A, Z⟩ := G
  exact fun H locs ls hl hP hD hS => lv_imul h.1 h.2.1 d (by rw [I_mul]; exact kk H locs ls hl hP hD hS)
theorem C_ineg (h : Cx G md) {a : Int} (d : decode md.2.1 pc = .ok (.ineg, 1)) (kk : VC G md k n N ea ee (pc + 1) lv (.int (I (-a)) :: st)) : VC G md k n N ea ee pc lv (.int (I a) :: st) := by
  obtain ⟨p, l, e, R, s, m, args, below, meth, c, B, A, Z⟩ := G
  exact fun H locs ls hl hP hD hS => lv_ineg h.1 h.2.1 d (by rw [I_neg]; exact kk H locs ls hl hP hD hS)
/-- division of a number that isn't negative by a positive one -/
theorem C_idiv (h : Cx G md) {a b : Int} (h0 : 0 ≤ a) (h1 : a < 2147483648) (h2 : 0 < b) (h3 : b < 2147483648) (d : decode md.2.1 pc = .ok (.idiv, 1)) (kk : VC G md k n N ea ee (pc + 1) lv (.int (I (a / b)) :: st)) : VC G md k n N ea ee pc lv (.int (I b) :: .int (I a) :: st) := by
  obtain ⟨p, l, e, R, s, m, args, below, meth, c, B, A, Z⟩ := G
  have e1 : I a / I b = I (a / b) := by
    apply Int32.toInt_inj.mp
    have hq : 0 ≤ a / b := Int.ediv_nonneg h0 (by omega)
    have hq2 : a / b ≤ a := Int.ediv_le_self b h0
    rw [Int32.toInt_div, I_toInt ⟨by omega, h1⟩, I_toInt ⟨by omega, h3⟩, I_toInt ⟨by omega, by omega⟩, Int.tdiv_eq_ediv_of_nonneg h0]
    exact Jvm.LawKit.bmod32 (by omega) (by omega)
  exact fun H locs ls hl hP hD hS => lv_idiv h.1 h.2.1 d (fun hz => by
    have := congrArg Int32.toInt hz
    rw [I_toInt ⟨by omega, h3⟩] at this
    have h9 : (0 : Int32).toInt = 0 := rfl
    omega) (by rw [e1]; exact kk H locs ls hl hP hD hS)
theorem C_ior (h : Cx G md) {a b : Int32} (d : decode md.2.1 pc = .ok (.ior, 1)) (kk : VC G md k n N ea ee (pc + 1) lv (.int (a ||| b) :: st)) : VC G md k n N ea ee pc lv (.int b :: .int a :: st) := by
  obtain ⟨p, l, e, R, s, m, args, below, meth, c, B, A, Z⟩ := G
  exact fun H locs ls hl hP hD hS => lv_ior h.1 h.2.1 d (kk H locs ls hl hP hD hS)
theorem C_iand (h : Cx G md) {a b : Int32} (d : decode md.2.1 pc = .ok (.iand, 1)) (kk : VC G md k n N ea ee (pc + 1) lv (.int (a &&& b) :: st)) : VC G md k n N ea ee pc lv (.int b :: .int a :: st) := by
  obtain ⟨p, l, e, R, s, m, args, below, meth, c, B, A, Z⟩ := G
  exact fun H locs ls hl hP hD hS => lv_iand h.1 h.2.1 d (kk H locs ls hl hP hD hS)
theorem C_dup (h : Cx G md) {v : Value} (hc : v.category = 1) (d : decode md.2.1 pc = .ok (.dup, 1)) (kk : VC G md k n N ea ee (pc + 1) lv (v :: v :: st)) : VC G md k n N ea ee pc lv (v :: st) := by
  obtain ⟨p, l, e, R, s, m, args, below, meth, c, B, A, Z⟩ := G
  exact fun H locs ls hl hP hD hS => lv_dup h.1 h.2.1 d hc (kk H locs ls hl hP hD hS)
theorem C_pop (h : Cx G md) {v : Value} (hc : v.category = 1) (d : decode md.2.1 pc = .ok (.pop, 1)) (kk : VC G md k n N ea ee (pc + 1) lv st) : VC G md k n N ea ee pc lv (v :: st) := by
  obtain ⟨p, l, e, R, s, m, args, below, meth, c, B, A, Z⟩ := G
  exact fun H locs ls hl hP hD hS => lv_pop h.1 h.2.1 d hc (kk H locs ls hl hP hD hS)
theorem C_goto (h : Cx G md) {off : Int} (tgt : Nat) (ht : (pc : Int) + off = (tgt : Int)) (d : decode md.2.1 pc = .ok (.goto off, 3)) (kk : VC G md k n N ea ee tgt lv st) : VC G md k n N ea ee pc lv st := by
  obtain ⟨p, l, e, R, s, m, args, below, meth, c, B, A, Z⟩ := G
  exact fun H locs ls hl hP hD hS => lv_goto h.1 h.2.1 d ht (kk H locs ls hl hP hD hS)
theorem C_lconst (h : Cx G md) {a : Fin 2} (v : Int64) (hv : Int64.ofNat (a : Nat) = v) (d : decode md.2.1 pc = .ok (.lconst a, 1)) (kk : VC G md k n N ea ee (pc + 1) lv (.long v :: st)) : VC G md k n N ea ee pc lv st := by
  obtain ⟨p, l, e, R, s, m, args, below, meth, c, B, A, Z⟩ := G
  exact fun H locs ls hl hP hD hS => lv_lconst h.1 h.2.1 d hv (kk H locs ls hl hP hD hS)
theorem C_ladd (h : Cx G md) {a b : Int64} (d : decode md.2.1 pc = .ok (.ladd, 1)) (kk : VC G md k n N ea ee (pc + 1) lv (.long (a + b) :: st)) : VC G md k n N ea ee pc lv (.long b :: .long a :: st) := by
  obtain ⟨p, l, e, R, s, m, args, below, meth, c, B, A, Z⟩ := G
  exact fun H locs ls hl hP hD hS => lv_ladd h.1 h.2.1 d (kk H locs ls hl hP hD hS)
theorem C_lsub (h : Cx G md) {a b : Int64} (d : decode md.2.1 pc = .ok (.lsub, 1)) (kk : VC G md k n N ea ee (pc + 1) lv (.long (a - b) :: st)) : VC G md k n N ea ee pc lv (.long b :: .long a :: st) := by
  obtain ⟨p, l, e, R, s, m, args, below, meth, c, B, A, Z⟩ := G
  exact fun H locs ls hl hP hD hS => lv_lsub h.1 h.2.1 d (kk H locs ls hl hP hD hS)
theorem C_lmul (h : Cx G md) {a b : Int64} (d : decode md.2.1 pc = .ok (.lmul, 1)) (kk : VC G md k n N ea ee (pc + 1) lv (.long (a * b) :: st)) : VC G md k n N ea ee pc lv (.long b :: .long a :: st) := by
  obtain ⟨p, l, e, R, s, m, args, below, meth, c, B, A, Z⟩ := G
  exact fun H locs ls hl hP hD hS => lv_lmul h.1 h.2.1 d (kk H locs ls hl hP hD hS)
theorem C_i2l (h : Cx G md) {a : Int32} (d : decode md.2.1 pc = .ok (.i2l, 1)) (kk : VC G md k n N ea ee (pc + 1) lv (.long a.toInt64 :: st)) : VC G md k n N ea ee pc lv (.int a :: st) := by
  obtain ⟨p, l, e, R, s, m, args, below, meth, c, B, A, Z⟩ := G
  exact fun H locs ls hl hP hD hS => lv_i2l h.1 h.2.1 d rfl (kk H locs ls hl hP hD hS)
/-! branches: over whole numbers in range -/
theorem C_icmp_eq (h : Cx G md) {a b : Int} {off : Int} (tgt : Nat) (ht : (pc : Int) + off = (tgt : Int)) (d : decode md.2.1 pc = .ok (.if_icmp .eq off, 3)) (kk : inR a ∧ inR b ∧ (a = b → VC G md k n N ea ee tgt lv st) ∧ (a ≠ b → VC G md k n N ea ee (pc + 3) lv st)) : VC G md k n N ea ee pc lv (.int (I b) :: .int (I a) :: st) := by
  obtain ⟨p, l, e, R, s, m, args, below, meth, c, B, A, Z⟩ := G
  obtain ⟨ha, hb, kt, kf⟩ := kk
  exact fun H locs ls hl hP hD hS => lv_icmp_eq h.1 h.2.1 d ht (fun z => kt ((I_eq ha hb).mp z) H locs ls hl hP hD hS) (fun z => kf (fun y => z ((I_eq ha hb).mpr y)) H locs ls hl hP hD hS)
theorem C_if_eq (h : Cx G md) {a : Int} {off : Int} (tgt : Nat) (ht : (pc : Int) + off = (tgt : Int)) (d : decode md.2.1 pc = .ok (.ifCond .eq off, 3)) (kk : inR a ∧ (a = 0 → VC G md k n N ea ee tgt lv st) ∧ (a ≠ 0 → VC G md k n N ea ee (pc + 3) lv st)) : VC G md k n N ea ee pc lv (.int (I a) :: st) := by
  obtain ⟨p, l, e, R, s, m, args, below, meth, c, B, A, Z⟩ := G
  obtain ⟨ha, kt, kf⟩ := kk
  have hb : inR 0 := ⟨by decide, by decide⟩
  exact fun H locs ls hl hP hD hS => lv_if_eq h.1 h.2.1 d ht (fun z => kt ((I_eq ha hb).mp z) H locs ls hl hP hD hS) (fun z => kf (fun y => z ((I_eq ha hb).mpr y)) H locs ls hl hP hD hS)
theorem C_icmp_ne (h : Cx G md) {a b : Int} {off : Int} (tgt : Nat) (ht : (pc : Int) + off = (tgt : Int)) (d : decode md.2.1 pc = .ok (.if_icmp .ne off, 3)) (kk : inR a ∧ inR b ∧ (a ≠ b → VC G md k n N ea ee tgt lv st) ∧ (a = b → VC G md k n N ea ee (pc + 3) lv st)) : VC G md k n N ea ee pc lv (.int (I b) :: .int (I a) :: st) := by
  obtain ⟨p, l, e, R, s, m, args, below, meth, c, B, A, Z⟩ := G
  obtain ⟨ha, hb, kt, kf⟩ := kk
  exact fun H locs ls hl hP hD hS => lv_icmp_ne h.1 h.2.1 d ht (fun z => kt (fun y => z ((I_eq ha hb).mpr y)) H locs ls hl hP hD hS) (fun z => kf ((I_eq ha hb).mp z) H locs ls hl hP hD hS)
theorem C_if_ne (h : Cx G md) {a : Int} {off : Int} (tgt : Nat) (ht : (pc : Int) + off = (tgt : Int)) (d : decode md.2.1 pc = .ok (.ifCond .ne off, 3)) (kk : inR a ∧ (a ≠ 0 → VC G md k n N ea ee tgt lv st) ∧ (a = 0 → VC G md k n N ea ee (pc + 3) lv st)) : VC G md k n N ea ee pc lv (.int (I a) :: st) := by
  obtain ⟨p, l, e, R, s, m, args, below, meth, c, B, A, Z⟩ := G
  obtain ⟨ha, kt, kf⟩ := kk
  have hb : inR 0 := ⟨by decide, by decide⟩
  exact fun H locs ls hl hP hD hS => lv_if_ne h.1 h.2.1 d ht (fun z => kt (fun y => z ((I_eq ha hb).mpr y)) H locs ls hl hP hD hS) (fun z => kf ((I_eq ha hb).mp z) H locs ls hl hP hD hS)
theorem C_icmp_lt (h : Cx G md) {a b : Int} {off : Int} (tgt : Nat) (ht : (pc : Int) + off = (tgt : Int)) (d : decode md.2.1 pc = .ok (.if_icmp .lt off, 3)) (kk : inR a ∧ inR b ∧ (a < b → VC G md k n N ea ee tgt lv st) ∧ (b ≤ a → VC G md k n N ea ee (pc + 3) lv st)) : VC G md k n N ea ee pc lv (.int (I b) :: .int (I a) :: st) := by
  obtain ⟨p, l, e, R, s, m, args, below, meth, c, B, A, Z⟩ := G
  obtain ⟨ha, hb, kt, kf⟩ := kk
  exact fun H locs ls hl hP hD hS => lv_icmp_lt h.1 h.2.1 d ht (fun z => kt ((I_lt ha hb).mp z) H locs ls hl hP hD hS) (fun z => kf (Int.not_lt.mp fun y => z ((I_lt ha hb).mpr y)) H locs ls hl hP hD hS)
theorem C_if_lt (h : Cx G md) {a : Int} {off : Int} (tgt : Nat) (ht : (pc : Int) + off = (tgt : Int)) (d : decode md.2.1 pc = .ok (.ifCond .lt off, 3)) (kk : inR a ∧ (a < 0 → VC G md k n N ea ee tgt lv st) ∧ (0 ≤ a → VC G md k n N ea ee (pc + 3) lv st)) : VC G md k n N ea ee pc lv (.int (I a) :: st) := by
  obtain ⟨p, l, e, R, s, m, args, below, meth, c, B, A, Z⟩ := G
  obtain ⟨ha, kt, kf⟩ := kk
  have hb : inR 0 := ⟨by decide, by decide⟩
  exact fun H locs ls hl hP hD hS => lv_if_lt h.1 h.2.1 d ht (fun z => kt ((I_lt ha hb).mp z) H locs ls hl hP hD hS) (fun z => kf (Int.not_lt.mp fun y => z ((I_lt ha hb).mpr y)) H locs ls hl hP hD hS)
theorem C_icmp_ge (h : Cx G md) {a b : Int} {off : Int} (tgt : Nat) (ht : (pc : Int) + off = (tgt : Int)) (d : decode md.2.1 pc = .ok (.if_icmp .ge off, 3)) (kk : inR a ∧ inR b ∧ (b ≤ a → VC G md k n N ea ee tgt lv st) ∧ (a < b → VC G md k n N ea ee (pc + 3) lv st)) : VC G md k n N ea ee pc lv (.int (I b) :: .int (I a) :: st) := by
  obtain ⟨p, l, e, R, s, m, args, below, meth, c, B, A, Z⟩ := G
  obtain ⟨ha, hb, kt, kf⟩ := kk
  exact fun H locs ls hl hP hD hS => lv_icmp_ge h.1 h.2.1 d ht (fun z => kt ((I_le hb ha).mp z) H locs ls hl hP hD hS) (fun z => kf (Int.not_le.mp fun y => z ((I_le hb ha).mpr y)) H locs ls hl hP hD hS)
theorem C_if_ge (h : Cx G md) {a : Int} {off : Int} (tgt : Nat) (ht : (pc : Int) + off = (tgt : Int)) (d : decode md.2.1 pc = .ok (.ifCond .ge off, 3)) (kk : inR a ∧ (0 ≤ a → VC G md k n N ea ee tgt lv st) ∧ (a < 0 → VC G md k n N ea ee (pc + 3) lv st)) : VC G md k n N ea ee pc lv (.int (I a) :: st) := by
  obtain ⟨p, l, e, R, s, m, args, below, meth, c, B, A, Z⟩ := G
  obtain ⟨ha, kt, kf⟩ := kk
  have hb : inR 0 := ⟨by decide, by decide⟩
  exact fun H locs ls hl hP hD hS => lv_if_ge h.1 h.2.1 d ht (fun z => kt ((I_le hb ha).mp z) H locs ls hl hP hD hS) (fun z => kf (Int.not_le.mp fun y => z ((I_le hb ha).mpr y)) H locs ls hl hP hD hS)
theorem C_icmp_gt (h : Cx G md) {a b : Int} {off : Int} (tgt : Nat) (ht : (pc : Int) + off = (tgt : Int)) (d : decode md.2.1 pc = .ok (.if_icmp .gt off, 3)) (kk : inR a ∧ inR b ∧ (b < a → VC G md k n N ea ee tgt lv st) ∧ (a ≤ b → VC G md k n N ea ee (pc + 3) lv st)) : VC G md k n N ea ee pc lv (.int (I b) :: .int (I a) :: st) := by
  obtain ⟨p, l, e, R, s, m, args, below, meth, c, B, A, Z⟩ := G
  obtain ⟨ha, hb, kt, kf⟩ := kk
  exact fun H locs ls hl hP hD hS => lv_icmp_gt h.1 h.2.1 d ht (fun z => kt ((I_lt hb ha).mp z) H locs ls hl hP hD hS) (fun z => kf (Int.not_lt.mp fun y => z ((I_lt hb ha).mpr y)) H locs ls hl hP hD hS)
theorem C_if_gt (h : Cx G md) {a : Int} {off : Int} (tgt : Nat) (ht : (pc : Int) + off = (tgt : Int)) (d : decode md.2.1 pc = .ok (.ifCond .gt off, 3)) (kk : inR a ∧ (0 < a → VC G md k n N ea ee tgt lv st) ∧ (a ≤ 0 → VC G md k n N ea ee (pc + 3) lv st)) : VC G md k n N ea ee pc lv (.int (I a) :: st) := by
  obtain ⟨p, l, e, R, s, m, args, below, meth, c, B, A, Z⟩ := G
  obtain ⟨ha, kt, kf⟩ := kk
  have hb : inR 0 := ⟨by decide, by decide⟩
  exact fun H locs ls hl hP hD hS => lv_if_gt h.1 h.2.1 d ht (fun z => kt ((I_lt hb ha).mp z) H locs ls hl hP hD hS) (fun z => kf (Int.not_lt.mp fun y => z ((I_lt hb ha).mpr y)) H locs ls hl hP hD hS)
theorem C_icmp_le (h : Cx G md) {a b : Int} {off : Int} (tgt : Nat) (ht : (pc : Int) + off = (tgt : Int)) (d : decode md.2.1 pc = .ok (.if_icmp .le off, 3)) (kk : inR a ∧ inR b ∧ (a ≤ b → VC G md k n N ea ee tgt lv st) ∧ (b < a → VC G md k n N ea ee (pc + 3) lv st)) : VC G md k n N ea ee pc lv (.int (I b) :: .int (I a) :: st) := by
  obtain ⟨p, l, e, R, s, m, args, below, meth, c, B, A, Z⟩ := G
  obtain ⟨ha, hb, kt, kf⟩ := kk
  exact fun H locs ls hl hP hD hS => lv_icmp_le h.1 h.2.1 d ht (fun z => kt ((I_le ha hb).mp z) H locs ls hl hP hD hS) (fun z => kf (Int.not_le.mp fun y => z ((I_le ha hb).mpr y)) H locs ls hl hP hD hS)
theorem C_if_le (h : Cx G md) {a : Int} {off : Int} (tgt : Nat) (ht : (pc : Int) + off = (tgt : Int)) (d : decode md.2.1 pc = .ok (.ifCond .le off, 3)) (kk : inR a ∧ (a ≤ 0 → VC G md k n N ea ee tgt lv st) ∧ (0 < a → VC G md k n N ea ee (pc + 3) lv st)) : VC G md k n N ea ee pc lv (.int (I a) :: st) := by
  obtain ⟨p, l, e, R, s, m, args, below, meth, c, B, A, Z⟩ := G
  obtain ⟨ha, kt, kf⟩ := kk
  have hb : inR 0 := ⟨by decide, by decide⟩
  exact fun H locs ls hl hP hD hS => lv_if_le h.1 h.2.1 d ht (fun z => kt ((I_le ha hb).mp z) H locs ls hl hP hD hS) (fun z => kf (Int.not_le.mp fun y => z ((I_le ha hb).mpr y)) H locs ls hl hP hD hS)
end RulesC
section FieldsC
variable {G : GT} {md : Md} {k n N : Nat} {ea : Nat → Nat} {ee : Nat → va_E} {pc : Nat} {lv lv' : List (Nat × Value)} {st : List Value}
theorem C_sub (ks : List Nat) (hl : lv_pick lv ks = lv') (kk : VC G md k n N ea ee pc lv' st) : VC G md k n N ea ee pc lv st := by
  obtain ⟨p, l, e, R, s, m, args, below, meth, c, B, A, Z⟩ := G
  exact fun H locs ls hls hP hD hS => kk H locs ls (lv_sub hls ks hl) hP hD hS
theorem C_get (h : Cx G md) {idx ci j o a : Nat} {fs : List Value} {v : Value} (hf : Fr md.1.cls idx ci j) (ho : o < N) (ha : ea o = a) (he : ee o = .inr (ci, fs)) (hv : fs[j]? = some v) (d : decode md.2.1 pc = .ok (.getfield idx, 3)) (kk : VC G md k n N ea ee (pc + 3) lv (v :: st)) : VC G md k n N ea ee pc lv (.ref a :: st) := by
  obtain ⟨p, l, e, R, s, m, args, below, meth, c, B, A, Z⟩ := G
  obtain ⟨hx, hb, hml, hown, hts, hKn, -⟩ := h
  obtain ⟨C, T, NF, hc, hj, hin, hlink⟩ := hf
  subst ha
  intro H locs ls hl hP hD hS
  have he' : (wN N ea ee)[o]? = some (ea o, .inr (ci, fs)) := by rw [wN_get ho, he]
  rcases hlink with hlink | ⟨host, hlink⟩
  · exact va_get hx hb hts hin hown hKn.1 hP o he' hc j hj (hts _ hlink) (fun _ h => h) hv d (kk H locs ls hl hP hD hS)
  · exact va_getN hx hb hts hin hown hKn.1 hP o he' hc j hj (va_Nw.use (nest_tab hlink) (hKn.2.1 _ hlink)) (fun _ h => h) hv d (kk H locs ls hl hP hD hS)
/-- a final field in its class's own constructor -/
theorem C_putF (h : Cx G md) (hi : InM G) {idx ci j o a q : Nat} {fs : List Value} {ty : FieldType} (hf : Ff md.1.cls idx ci j ty) (hty : (∃ n, ty = .object n) ∨ ∃ t, ty = .array t) (ho : o < N) (ha : ea o = a) (he : ee o = .inr (ci, fs)) (hjl : j < fs.length) (d : decode md.2.1 pc = .ok (.putfield idx, 3)) (kk : VC G md k n N ea (upf ee o (.inr (ci, fs.set j (.ref q)))) (pc + 3) lv st) : VC G md k n N ea ee pc lv (.ref q :: .ref a :: st) := by
  obtain ⟨p, l, e, R, s, m, args, below, meth, c, B, A, Z⟩ := G
  obtain ⟨hx, hb, hml, hown, hts, hKn, -⟩ := h
  obtain ⟨C, T, NF, ty0, hc, hj, hin, hty0, hnm, hfin, hdec, hpd, hlink⟩ := hf
  subst ha
  intro H locs ls hl hP hD hS
  have he' : (wN N ea ee)[o]? = some (ea o, .inr (ci, fs)) := by rw [wN_get ho, he]
  refine va_putF hx hb hts hin ty0 hty0 hnm hown hKn.1 hP hD hS o he' hc j hj (hts _ hlink) (fun _ h => h) hfin hi hdec hpd (v := .ref q) (by rcases hty with ⟨n, rfl⟩ | ⟨t, rfl⟩ <;> rfl) (by rcases hty with ⟨n, rfl⟩ | ⟨t, rfl⟩ <;> rfl) hjl d (fun H1 locs1 hP1 hD1 hS1 => ?_)
  rw [wN_set ho] at hP1 hD1
  exact kk H1 locs1 ls hl hP1 hD1 hS1
theorem C_put (h : Cx G md) {idx ci j o a : Nat} {fs : List Value} {x : Int} {dsc : String} (hf : Fk md.1.cls idx ci j dsc) (hd : dsc = "I" ∨ (dsc = "Z" ∧ (x = 0 ∨ x = 1))) (ho : o < N) (ha : ea o = a) (he : ee o = .inr (ci, fs)) (hjl : j < fs.length) (d : decode md.2.1 pc = .ok (.putfield idx, 3)) (kk : VC G md k n N ea (upf ee o (.inr (ci, fs.set j (.int (I x))))) (pc + 3) lv st) : VC G md k n N ea ee pc lv (.int (I x) :: .ref a :: st) := by
  obtain ⟨p, l, e, R, s, m, args, below, meth, c, B, A, Z⟩ := G
  obtain ⟨hx, hb, hml, hown, hts, hKn, -⟩ := h
  obtain ⟨C, T, NF, ty0, hc, hj, hds, hin, hty0, hnm, hfin, hlink⟩ := hf
  subst ha
  intro H locs ls hl hP hD hS
  have he' : (wN N ea ee)[o]? = some (ea o, .inr (ci, fs)) := by rw [wN_get ho, he]
  have ht : ∃ ty, parseFieldDescriptor dsc = some ty ∧ narrow ty (.int (I x)) = .int (I x) ∧ fits ty (.int (I x)) = true := by
    rcases hd with rfl | ⟨rfl, hx⟩
    · exact ⟨.int, by decide +kernel, rfl, rfl⟩
    · exact ⟨.boolean, by decide +kernel, (bitI hx).1, (bitI hx).2.1⟩
  obtain ⟨ty, t1, t2, t3⟩ := ht
  have kk' : ∀ (H1 : Heap) (locs1 : List Loc), va_P B.1 vwCl ((wN N ea ee).set o (ea o, .inr (ci, fs.set j (.int (I x))))) H1 → va_D A ((wN N ea ee).set o (ea o, .inr (ci, fs.set j (.int (I x))))) → va_S A s.heap H1 locs1 → W p l e R s m args below meth c H1 locs1 k n Z (F0 m (pc + 3) ls st) := by
    intro H1 locs1 hP1 hD1 hS1
    rw [wN_set ho] at hP1 hD1
    exact kk H1 locs1 ls hl hP1 hD1 hS1
  rcases hlink with hlink | ⟨host, hlink⟩
  · exact va_put hx hb hts hin ty0 hty0 hnm hown hKn.1 hP hD hS o he' hc j hj (hts _ hlink) (fun _ h => h) hfin (by rw [hds]; exact t1) t2 t3 hjl d kk'
  · exact va_putN hx hb hts hin ty0 hty0 hnm hown hKn.1 hP hD hS o he' hc j hj (va_Nw.use (nest_tab hlink) (hKn.2.1 _ hlink)) (fun _ h => h) hfin (by rw [hds]; exact t1) t2 t3 hjl d kk'
/-- which array class: by the element's type -/
def cyOf (B : WB) (ty : FieldType) : ClassId := match ty with | .boolean => B.2.2.1 | _ => B.2.1
theorem cy_same {B : WB} {s : State} {cA : ClassId} {ty : FieldType} (hty : ty = .int ∨ ty = .boolean) (hKn : Kn B s) (h : s.vm.findClass ("[" ++ ty.toString) = some cA) : cA = cyOf B ty := by
  rcases hty with rfl | rfl
  · have h1 := (hKn.1.2 0 _ rfl).2
    exact Option.some.inj (h.symm.trans h1)
  · have h1 := (hKn.1.2 1 _ rfl).2
    exact Option.some.inj (h.symm.trans h1)
theorem C_newI (h : Cx G md) {x : Int} {L : Nat} (d : decode md.2.1 pc = .ok (.newarray .int, 2)) (hw : Cond.arrayClass .int ∈ wAll) (hx0 : x = L) (hL : L < 100000) (hk : k + 1 ≤ (gR G).cells ∧ n + L ≤ (gR G).slots) (kk : ∀ q, VC G md (k + 1) (n + L) (N + 1) (upf ea N q) (upf ee N (.inl ((gB G).2.1, L, .inl (fun _ => 0)))) (pc + 2) lv (.ref q :: st)) : VC G md k n N ea ee pc lv (.int (I x) :: st) := by
  obtain ⟨p, l, e, R, s, m, args, below, meth, c, B, A, Z⟩ := G
  obtain ⟨hx, hb, hml, hown, hts, hKn, hlk, hfl, hA1, hA2, hret⟩ := h
  subst hx0
  intro H locs ls hl hP hD hS
  have hc : (I (L : Int)).toNatClampNeg = L := by rw [I_cl (by omega) (by omega)]; rfl
  refine va_newaK (atype := .int) hx hb (hts _ hw) (g := F0 m pc ls (.int (I (L : Int)) :: st)) rfl d (rest := st) rfl (by rw [← I_zero, I_lt ⟨by omega, by omega⟩ ⟨by decide, by decide⟩]; omega) hc (by show L * 4 ≤ 536870912; omega) hk.1 hk.2 rfl (fun H1 cA e1 z1 o1 hAr hNm => ?_)
  have hcA : cA = B.2.1 := cy_same (ty := .int) (Or.inl rfl) hKn hNm
  subst hcA
  have hP1 : va_P B.1 vwCl (wN N ea ee ++ [(H.size, .inl (B.2.1, L, .inl (fun _ => 0)))]) H1 := (hP.kept (fun k q hq => o1 q.1 ((hP k q hq).lt))).app (fun k q hq => by
    have hk0 : k < 1 := (List.getElem?_eq_some_iff.mp hq).1
    have : k = 0 := by omega
    subst this
    cases hq
    show H1[H.size]? = some (vp_cell _ _)
    rw [e1]; rfl)
  have hD1 := hD.push hP (a := H.size) (e := .inl (B.2.1, L, .inl (fun _ => 0))) rfl (hA1 _ hS.1)
  rw [wN_push] at hP1 hD1
  exact kk H.size H1 locs ls hl hP1 hD1 ⟨Nat.le_trans hS.1 (by omega), fun x h1 h2 => (o1 x (Nat.lt_of_lt_of_le h1 hS.1)).trans (hS.2.1 x h1 h2), hS.2.2⟩
theorem C_newZ (h : Cx G md) {x : Int} {L : Nat} (d : decode md.2.1 pc = .ok (.newarray .boolean, 2)) (hw : Cond.arrayClass .boolean ∈ wAll) (hx0 : x = L) (hL : L < 100000) (hk : k + 1 ≤ (gR G).cells ∧ n + L ≤ (gR G).slots) (kk : ∀ q, VC G md (k + 1) (n + L) (N + 1) (upf ea N q) (upf ee N (.inl ((gB G).2.2.1, L, .inl (fun _ => 0)))) (pc + 2) lv (.ref q :: st)) : VC G md k n N ea ee pc lv (.int (I x) :: st) := by
  obtain ⟨p, l, e, R, s, m, args, below, meth, c, B, A, Z⟩ := G
  obtain ⟨hx, hb, hml, hown, hts, hKn, hlk, hfl, hA1, hA2, hret⟩ := h
  subst hx0
  intro H locs ls hl hP hD hS
  have hc : (I (L : Int)).toNatClampNeg = L := by rw [I_cl (by omega) (by omega)]; rfl
  refine va_newaK (atype := .boolean) hx hb (hts _ hw) (g := F0 m pc ls (.int (I (L : Int)) :: st)) rfl d (rest := st) rfl (by rw [← I_zero, I_lt ⟨by omega, by omega⟩ ⟨by decide, by decide⟩]; omega) hc (by show L * 1 ≤ 536870912; omega) hk.1 hk.2 rfl (fun H1 cA e1 z1 o1 hAr hNm => ?_)
  have hcA : cA = B.2.2.1 := cy_same (ty := .boolean) (Or.inr rfl) hKn hNm
  subst hcA
  have hP1 : va_P B.1 vwCl (wN N ea ee ++ [(H.size, .inl (B.2.2.1, L, .inl (fun _ => 0)))]) H1 := (hP.kept (fun k q hq => o1 q.1 ((hP k q hq).lt))).app (fun k q hq => by
    have hk0 : k < 1 := (List.getElem?_eq_some_iff.mp hq).1
    have : k = 0 := by omega
    subst this
    cases hq
    show H1[H.size]? = some (vp_cell _ _)
    rw [e1]; rfl)
  have hD1 := hD.push hP (a := H.size) (e := .inl (B.2.2.1, L, .inl (fun _ => 0))) rfl (hA1 _ hS.1)
  rw [wN_push] at hP1 hD1
  exact kk H.size H1 locs ls hl hP1 hD1 ⟨Nat.le_trans hS.1 (by omega), fun x h1 h2 => (o1 x (Nat.lt_of_lt_of_le h1 hS.1)).trans (hS.2.1 x h1 h2), hS.2.2⟩
theorem C_iald (h : Cx G md) {o a : Nat} {L : Nat} {g : Nat → Int32} {i : Int} (ho : o < N) (ha : ea o = a) (he : ee o = .inl ((gB G).2.1, L, .inl g)) (hi : 0 ≤ i ∧ i < L) (hL : L < 100000) (d : decode md.2.1 pc = .ok (.iaload, 1)) (kk : VC G md k n N ea ee (pc + 1) lv (.int (g i.toNat) :: st)) : VC G md k n N ea ee pc lv (.int (I i) :: .ref a :: st) := by
  obtain ⟨p, l, e, R, s, m, args, below, meth, c, B, A, Z⟩ := G
  obtain ⟨hx, hb, hml, hown, hts, hKn, -⟩ := h
  subst ha
  intro H locs ls hl hP hD hS
  refine va_iald (D := B.1) hx hb hKn.1 hP o 0 (by rw [wN_get ho, he]) rfl (I_in hi.1 hi.2 (by omega)) d ?_
  rw [I_cl hi.1 (by omega)]
  exact kk H locs ls hl hP hD hS
theorem C_iast (h : Cx G md) {o a : Nat} {L : Nat} {g : Nat → Int32} {i x : Int} (ho : o < N) (ha : ea o = a) (he : ee o = .inl ((gB G).2.1, L, .inl g)) (hi : 0 ≤ i ∧ i < L) (hL : L < 100000) (d : decode md.2.1 pc = .ok (.iastore, 1)) (kk : VC G md k n N ea (upf ee o (.inl ((gB G).2.1, L, .inl (upd g i.toNat (I x))))) (pc + 1) lv st) : VC G md k n N ea ee pc lv (.int (I x) :: .int (I i) :: .ref a :: st) := by
  obtain ⟨p, l, e, R, s, m, args, below, meth, c, B, A, Z⟩ := G
  obtain ⟨hx, hb, hml, hown, hts, hKn, -⟩ := h
  subst ha
  intro H locs ls hl hP hD hS
  refine va_iast (D := B.1) hx hb hKn.1 hP hD hS o 0 (by rw [wN_get ho, he]) rfl (I_in hi.1 hi.2 (by omega)) d (fun H1 locs1 hP1 hD1 hS1 => ?_)
  rw [I_cl hi.1 (by omega), wN_set ho] at hP1 hD1
  exact kk H1 locs1 ls hl hP1 hD1 hS1
theorem C_alen (h : Cx G md) {o a L : Nat} {g : Nat → Int32} (ho : o < N) (ha : ea o = a) (he : ee o = .inl ((gB G).2.1, L, .inl g)) (d : decode md.2.1 pc = .ok (.arraylength, 1)) (kk : VC G md k n N ea ee (pc + 1) lv (.int (I (L : Int)) :: st)) : VC G md k n N ea ee pc lv (.ref a :: st) := by
  obtain ⟨p, l, e, R, s, m, args, below, meth, c, B, A, Z⟩ := G
  obtain ⟨hx, hb, hml, hown, hts, hKn, -⟩ := h
  subst ha
  intro H locs ls hl hP hD hS
  exact va_alen (D := B.1) (v := I (L : Int)) hx hb hKn.1 hP o 0 (by rw [wN_get ho, he]) rfl (I_nat L) d (kk H locs ls hl hP hD hS)
/-- 'new': the words of its class -/
def Nw (own : String) (idx ci : Nat) (fs : List Value) : Prop := ∃ (C : String) (T : u_T) (N : Nat) (ty : Nat → FieldType), vwCl[ci]? = some (C, T, N) ∧ (∀ w ∈ u_ws C T N, w ∈ wAll) ∧ (∀ k, k < N → parseFieldDescriptor (T k).2.2.1 = some (ty k)) ∧ Cond.classLink own idx C ∈ wAll ∧ Cond.instantiable C N ∈ wAll ∧ Cond.initialized C ∈ wAll ∧ fs.length = N ∧ ∀ j, j < N → defaultValue (ty j) = vp_V fs j
theorem C_new (h : Cx G md) {idx ci : Nat} {fs : List Value} (hw : Nw md.1.cls idx ci fs) (d : decode md.2.1 pc = .ok (.new idx, 3)) (hk : k + 1 ≤ (gR G).cells ∧ n + fs.length ≤ (gR G).slots) (kk : ∀ q, VC G md (k + 1) (n + fs.length) (N + 1) (upf ea N q) (upf ee N (.inr (ci, fs))) (pc + 3) lv (.ref q :: st)) : VC G md k n N ea ee pc lv st := by
  obtain ⟨p, l, e, R, s, m, args, below, meth, c, B, A, Z⟩ := G
  obtain ⟨hx, hb, hml, hown, hts, hKn, hlk, hfl, hA1, hA2, hret⟩ := h
  obtain ⟨C, T, NF, ty, hc, hin, hty, w1, w2, w3, hlen, hfs⟩ := hw
  subst hlen
  intro H locs ls hl hP hD hS
  refine va_new hx hb hts hin ty hty hown (hts _ w1) (hts _ w2) (hts _ w3) hKn.1 hP hD hS hA1 hc hfs hk.1 hk.2 d (fun q H1 hP1 hD1 hS1 => ?_)
  rw [wN_push] at hP1 hD1
  exact kk q H1 locs ls hl hP1 hD1 hS1
def Oi (own : String) (idx : Nat) : Prop := Cond.methodLink own idx Lib.objectInit ∈ wAll ∧ Cond.instanceMethod Lib.objectInit ∈ wAll ∧ Cond.code Lib.objectInit ⟨#[0xb1]⟩ 1 none ∈ wAll
theorem C_oinit (h : Cx G md) {idx a : Nat} (hw : Oi md.1.cls idx) (d : decode md.2.1 pc = .ok (.invokespecial idx, 3)) (hrm : 8 ≤ (gR G).frames ∧ 200 ≤ (gR G).locals) (hst : (st.map fun v => v.category).sum ≤ 8) (kk : VC G md k n N ea ee (pc + 3) lv st) : VC G md k n N ea ee pc lv (.ref a :: st) := by
  obtain ⟨p, l, e, R, s, m, args, below, meth, c, B, A, Z⟩ := G
  obtain ⟨hx, hb, hml, hown, hts, hKn, -⟩ := h
  obtain ⟨w1, w2, w3⟩ := hw
  intro H locs ls hl hP hD hS
  exact W.objInit hx hb hown (hts _ w1) (hts _ w2) (hts _ w3) (g := F0 m pc ls (.ref a :: st)) rfl (hl.1.trans hml.symm) rfl d (by have := hrm.1; have h9 : R.frames = (gR (p, l, e, R, s, m, args, below, meth, c, B, A, Z)).frames := rfl; omega) (by have := hrm.2; have h9 : R.locals = (gR (p, l, e, R, s, m, args, below, meth, c, B, A, Z)).locals := rfl; show 2 * 0 + _ + 12 ≤ R.locals; omega) (kk H locs ls hl hP hD hS)
end FieldsC
/-! contracts of constructors and of what they call -/
def WdC (B : WB) (N : Nat) (ea : Nat → Nat) (ee : Nat → va_E) (U : State) : Prop := va_P B.1 vwCl (wN N ea ee) U.heap ∧ va_D (fun q => b0 B ≤ q) (wN N ea ee) ∧ Kn B U ∧ b0 B ≤ U.heap.size
def PcC (B : WB) (N : Nat) (ea : Nat → Nat) (ee : Nat → va_E) (sz : Nat) (av : List Value) : Array Value → State → Prop := va_Pc av (fun U => U.heap.size = sz ∧ WdC B N ea ee U)
def AC (N : Nat) (ea : Nat → Nat) (sz : Nat) : Nat → Prop := fun q => (∃ o, o < N ∧ q = ea o) ∨ sz ≤ q
def QcC (B : WB) (N : Nat) (ea : Nat → Nat) (Q : Nat → (Nat → Nat) → (Nat → va_E) → Prop) (sz : Nat) : Array Value → State → Outcome → State → Prop := fun _ st o t => o = .returned none ∧ ∃ N' ea' ee', Q N' ea' ee' ∧ va_P B.1 vwCl (wN N' ea' ee') t.heap ∧ va_D (AC N ea sz) (wN N' ea' ee') ∧ va_F (AC N ea sz) st t
/-- from the world of N objects the method comes to one with Q -/
def OkC (B : WB) (l : Launch) (md : Md) (k n : Nat) (av : List Value) (N : Nat) (ea : Nat → Nat) (ee : Nat → va_E) (Q : Nat → (Nat → Nat) → (Nat → va_E) → Prop) : Prop :=
  ∀ sz : Nat, vx_Met l md.1 (.code md.1 md.2.1 md.2.2.1 md.2.2.2.1 :: wAll) (rmD md.2.2.2.2 k n) (PcC B N ea ee sz av) (QcC B N ea Q sz) NoXU k n (AC N ea sz)
theorem PcC_blind {B : WB} {N : Nat} {ea : Nat → Nat} {ee : Nat → va_E} {sz : Nat} {av : List Value} : FrameBlind (PcC B N ea ee sz av) := by
  intro a U g mk ⟨h1, h2, h3, h4, h5, h6⟩
  exact ⟨h1, h2, h3, h4, Kn_blind (U := U) (V := U.calling g mk a) rfl rfl h5, h6⟩
def RtC (G : GT) (N0' : Nat) (ea0 : Nat → Nat) (Q : Nat → (Nat → Nat) → (Nat → va_E) → Prop) : Prop :=
  match G with
  | (_, _, _, R, s, _, args, below, _, c, B, A, Z) => A = AC N0' ea0 s.heap.size ∧ Z = vx_MQ below (QcC B N0' ea0 Q s.heap.size) NoXU args s R.cells R.slots (AC N0' ea0 s.heap.size)
section EndC
variable {G : GT} {md : Md} {k n N N1 : Nat} {ea ea1 : Nat → Nat} {ee : Nat → va_E} {pc : Nat} {lv : List (Nat × Value)} {st : List Value} {Q : Nat → (Nat → Nat) → (Nat → va_E) → Prop}
theorem C_vret (h : Cx G md) (hR : RtC G N1 ea1 Q) (hty : md.2.2.2.1 = none) (hk : k ≤ (gR G).cells ∧ n ≤ (gR G).slots) (d : decode md.2.1 pc = .ok (.return_, 1)) (kk : Q N ea ee) : VC G md k n N ea ee pc lv [] := by
  obtain ⟨p, l, e, R, s, m, args, below, meth, c, B, A, Z⟩ := G
  obtain ⟨hx, hb, hml, hown, hts, hKn, hlk, hfl, hA1, hA2, hret⟩ := h
  obtain ⟨hA, hZ⟩ := hR
  intro H locs ls hl hP hD hS
  rw [hZ]
  refine W.widen hk.1 hk.2 (vx_ret ?_)
  exact W.vret hx hb (hret.trans hty) (fun t ht hW => ⟨rfl, N, ea, ee, kk, by rw [ht]; exact hP, by rw [← hA]; exact hD, by rw [← hA]; exact hS.F ht⟩) (by rw [← hA]; exact hS.2.2) d
end EndC
theorem OkC_of {B : WB} {l : Launch} {md : Md} {k n na N : Nat} {av : List Value} {ea : Nat → Nat} {ee : Nat → va_E} {Q : Nat → (Nat → Nat) → (Nat → va_E) → Prop} (hmk : Mk md na) (hl : l.stackTraces = false) (hlen : (lg_sl av).length ≤ md.2.2.1)
    (body : ∀ G : GT, Cx G md → RtC G N ea Q → gB G = B → gR G = rmD md.2.2.2.2 k n → gl G = l → (md.1.name = "<init>" → InM G) → VC G md 0 0 N ea ee 0 (lv_args 0 av) []) : OkC B l md k n av N ea ee Q := by
  intro sz
  obtain ⟨y, cc, maxL, ret, dep⟩ := md
  refine vx_ofW (cc := cc) (maxL := maxL) (ret := ret) hmk.1 rfl ?_
  intro p e s m args below meth c s₁ Bd hml hT hv
  obtain ⟨rfl, hsz, hP, hD, hKn, hlt⟩ := hv
  subst hsz
  have hts : ∀ w ∈ (Cond.code y cc maxL ret :: wAll), w.before av.toArray s = true := atoms_spec (ws := Cond.code y cc maxL ret :: wAll) Bd.pre
  have hin : ∀ (k : Nat) (q : Nat × va_E), (wN N ea ee)[k]? = some q → AC N ea s.heap.size q.1 := by
    intro k q hk
    have hk' : k < N := by have := (List.getElem?_eq_some_iff.mp hk).1; rwa [wN_len] at this
    rw [wN_get hk'] at hk
    cases hk
    exact Or.inl ⟨k, hk', rfl⟩
  have hA2 : ∀ q, AC N ea s.heap.size q → b0 B ≤ q := by
    rintro q (⟨o, ho, rfl⟩ | hq)
    · exact hD.2 o _ (wN_get ho)
    · exact Nat.le_trans hlt hq
  have h1 := body (p, l, e, rmD dep k n, s, m, av.toArray, below, meth, c, B, AC N ea s.heap.size, vx_MQ below (QcC B N ea Q s.heap.size) NoXU av.toArray s k n (AC N ea s.heap.size))
    ⟨Bd.exec, Bd.bytes, hml, findClass_of_methodNamed Bd.named, fun w hw => hts w (List.mem_cons_of_mem _ hw), hKn, Bd.notSynchronized, hl, fun q h => Or.inr h, hA2, Bd.returns⟩
    ⟨rfl, rfl⟩ rfl rfl rfl (fun hn => (name_of_methodNamed Bd.named Bd.method).1.trans hn) s.heap [] _ (lv_entry av hlen) hP (va_D.weaken hD (fun k q hk _ => hin k q hk)) va_S.rf
  rw [lg_entry_eq]
  exact h1
section CallC
variable {G : GT} {md cd : Md} {k n N kc nc na idx d0 a : Nat} {ea : Nat → Nat} {ee : Nat → va_E} {pc : Nat} {lv : List (Nat × Value)} {st As : List Value} {Q : Nat → (Nat → Nat) → (Nat → va_E) → Prop}
theorem preC_of {p : Program} {l : Launch} {e : Env} {R : Room} {s : State} {m : MethodId} {args : Array Value} {below : List Frame} {meth : Method} {c : Code} {H : Heap} {locs : List Loc} {B : WB} {A : Nat → Prop} {av : List Value} (hP : va_P B.1 vwCl (wN N ea ee) H) (hD : va_D A (wN N ea ee)) (hS : va_S A s.heap H locs) (hA2 : ∀ q, A q → b0 B ≤ q) (hA1 : ∀ q, s.heap.size ≤ q → A q) (hKn : Kn B s) : PreS s H (PcC B N ea ee H.size av) av :=
  ⟨PcC_blind, fun U hU hW => ⟨rfl, by rw [hU], by rw [hU]; exact hP, hD.weaken (fun _ _ _ h => hA2 _ h), Kn_moved hW (fun q h1 h2 => by rw [hU]; exact hS.2.1 q h1 (fun z => h2 (hA2 q z))) hKn, by rw [hU]; exact Nat.le_trans (hA2 _ (hA1 _ (Nat.le_refl _))) hS.1⟩⟩
theorem afterC {p : Program} {l : Launch} {e : Env} {R : Room} {s : State} {m : MethodId} {args : Array Value} {below : List Frame} {meth : Method} {c : Code} {H : Heap} {locs : List Loc} {B : WB} {A : Nat → Prop} {Z : State → Prop} {mc ms : Nat} {ls : Array Slot} {st0 : List Value} {av : Array Value} (hD : va_D A (wN N ea ee)) (hS : va_S A s.heap H locs) (hA1 : ∀ q, s.heap.size ≤ q → A q)
    (hr : va_Run p l e R s m args below meth c H locs k n mc ms (F0 m pc ls st0) st (QcC B N ea Q H.size av) (AC N ea H.size))
    (kk : ∀ N' ea' ee' (H1 : Heap) (locs1 : List Loc), Q N' ea' ee' → va_P B.1 vwCl (wN N' ea' ee') H1 → va_D A (wN N' ea' ee') → va_S A s.heap H1 locs1 → W p l e R s m args below meth c H1 locs1 (k + mc) (n + ms) Z (F0 m (pc + 3) ls st)) :
    W p l e R s m args below meth c H locs k n Z (F0 m pc ls st0) := by
  intro T hT XX
  obtain ⟨v, st₀, t, T', L, h0, X', hL, e1, e2, ⟨hv, N', ea', ee', hQ, hP1, hD1, hF⟩, stp⟩ := hr T hT XX
  cases hv
  have hAA : ∀ q, AC N ea H.size q → A q := by
    rintro q (⟨o, ho, rfl⟩ | hq)
    · exact hD.2 o _ (wN_get ho)
    · exact hA1 q (Nat.le_trans hS.1 hq)
  obtain ⟨-, -, k3⟩ := vx_keep h0 e1 hS (fun q _ h => hAA q h) (fun q h => hAA q h) hL hF
  obtain ⟨t2, a1, b1⟩ := kk N' ea' ee' T'.heap (locs ++ L) hQ (by rw [e1]; exact hP1) (hD1.weaken (fun _ _ _ h => hAA _ h)) k3 T' rfl X'
  exact ⟨t2, stp t2 a1, b1⟩
theorem metC {B : WB} {l : Launch} {av : List Value} (h : OkC B l cd kc nc av N ea ee Q) (sz : Nat) : Met l cd.1 (.code cd.1 cd.2.1 cd.2.2.1 cd.2.2.2.1 :: wAll) (rmD cd.2.2.2.2 kc nc) (PcC B N ea ee sz av) (QcC B N ea Q sz) kc nc (AC N ea sz) := by
  refine MetFree.mono (h sz) (fun _ _ h => h) (fun _ _ _ _ _ h => h) ?_
  rintro a st o t _ (h | ⟨q, e1, E, ce, L, hf, x4⟩)
  · exact h
  · exact absurd hf (fun z => z)
/-- a constructor is called -/
theorem C_init (h : Cx G md) (hl : Li md.1.cls idx cd na) (hd : decode md.2.1 pc = .ok (.invokespecial idx, 3)) (hdep : cd.2.2.2.2 < d0) (hrm : Rm G d0) (hn : As.length = na) (hst : (st.map fun v => v.category).sum ≤ 8) (hk : k + kc ≤ (gR G).cells ∧ n + nc ≤ (gR G).slots)
    (kk : OkC (gB G) (gl G) cd kc nc (.ref a :: As) N ea ee Q) (kv : ∀ N' ea' ee', Q N' ea' ee' → VC G md (k + kc) (n + nc) N' ea' ee' (pc + 3) lv st) : VC G md k n N ea ee pc lv (As.reverse ++ .ref a :: st) := by
  obtain ⟨p, l, e, R, s, m, args, below, meth, c, B, A, Z⟩ := G
  obtain ⟨hx, hb, hml, hown, hts, hKn, hlk, hfl, hA1, hA2, hret⟩ := h
  obtain ⟨y, cc, maxL, ret, dep⟩ := cd
  obtain ⟨hmk, hlink, hin, hnm, hrn⟩ := hl
  have hrn : ret = none := hrn
  subst hrn
  intro H locs ls hls hP hD hS
  have hpre := preC_of (p := p) (l := l) (e := e) (R := R) (m := m) (args := args) (below := below) (meth := meth) (c := c) (av := .ref a :: As) hP hD hS hA2 hA1 hKn
  have hMet := metC kk H.size
  have hrun : va_Run p l e R s m args below meth c H locs k n kc nc (F0 m pc ls (As.reverse ++ .ref a :: st)) st (QcC B N ea Q H.size (Value.ref a :: As).toArray) (AC N ea H.size) := by
    rcases hlink with hlink | ⟨host, hlink⟩
    · exact va_runI (As := As) (rest := st) ⟨hx, hb, hml, hown, hts⟩ hMet ⟨CallB_md hmk hts (hts _ hlink) hrm hdep, hnm, hts _ hin⟩ hpre rfl hn hls.1 rfl (lv_room hst) hd hk
    · exact va_runIN (As := As) (rest := st) ⟨hx, hb, hml, hown, hts⟩ hMet ⟨CallN_md hmk hts (hKn.2.1 _ hlink) hrm hdep, hnm, hts _ hin⟩ hpre rfl hn hls.1 rfl (lv_room hst) hd hk
  exact afterC hD hS hA1 hrun (fun N' ea' ee' H1 locs1 a1 a2 a3 a4 => kv N' ea' ee' a1 H1 locs1 ls hls a2 a3 a4)
theorem C_static (h : Cx G md) (hl : Ls md.1.cls idx cd na) (hd : decode md.2.1 pc = .ok (.invokestatic idx, 3)) (hdep : cd.2.2.2.2 < d0) (hrm : Rm G d0) (hn : As.length = na) (hst : (st.map fun v => v.category).sum ≤ 8) (hk : k + kc ≤ (gR G).cells ∧ n + nc ≤ (gR G).slots)
    (kk : OkC (gB G) (gl G) cd kc nc As N ea ee Q) (kv : ∀ N' ea' ee', Q N' ea' ee' → VC G md (k + kc) (n + nc) N' ea' ee' (pc + 3) lv st) : VC G md k n N ea ee pc lv (As.reverse ++ st) := by
  obtain ⟨p, l, e, R, s, m, args, below, meth, c, B, A, Z⟩ := G
  obtain ⟨hx, hb, hml, hown, hts, hKn, hlk, hfl, hA1, hA2, hret⟩ := h
  obtain ⟨hmk, hlink, hstat⟩ := hl
  intro H locs ls hls hP hD hS
  have hpre := preC_of (p := p) (l := l) (e := e) (R := R) (m := m) (args := args) (below := below) (meth := meth) (c := c) (av := As) hP hD hS hA2 hA1 hKn
  have hMet := metC kk H.size
  have hrun : va_Run p l e R s m args below meth c H locs k n kc nc (F0 m pc ls (As.reverse ++ st)) st (QcC B N ea Q H.size As.toArray) (AC N ea H.size) := by
    rcases hlink with hlink | ⟨host, hlink⟩
    · exact va_runS (As := As) (rest := st) ⟨hx, hb, hml, hown, hts⟩ hMet ⟨CallB_md hmk hts (hts _ hlink) hrm hdep, hts _ hstat⟩ hpre rfl hn hls.1 rfl (lv_room hst) hd hk
    · exact va_runSN (As := As) (rest := st) ⟨hx, hb, hml, hown, hts⟩ hMet ⟨CallN_md hmk hts (hKn.2.1 _ hlink) hrm hdep, hts _ hstat, trivial⟩ hpre rfl hn hls.1 rfl (lv_room hst) hd hk
  exact afterC hD hS hA1 hrun (fun N' ea' ee' H1 locs1 a1 a2 a3 a4 => kv N' ea' ee' a1 H1 locs1 ls hls a2 a3 a4)
theorem C_virt (h : Cx G md) {o ci : Nat} {fs : List Value} (hl : Lv md.1.cls idx cd na) (hd : decode md.2.1 pc = .ok (.invokevirtual idx, 3)) (hdep : cd.2.2.2.2 < d0) (hrm : Rm G d0) (ho : o < N) (ha : ea o = a) (he : ee o = .inr (ci, fs)) (hC : (vwCl[ci]?).map (·.1) = some cd.1.cls) (hn : As.length = na) (hst : (st.map fun v => v.category).sum ≤ 8) (hk : k + kc ≤ (gR G).cells ∧ n + nc ≤ (gR G).slots)
    (kk : OkC (gB G) (gl G) cd kc nc (.ref a :: As) N ea ee Q) (kv : ∀ N' ea' ee', Q N' ea' ee' → VC G md (k + kc) (n + nc) N' ea' ee' (pc + 3) lv st) : VC G md k n N ea ee pc lv (As.reverse ++ .ref a :: st) := by
  obtain ⟨p, l, e, R, s, m, args, below, meth, c, B, A, Z⟩ := G
  obtain ⟨hx, hb, hml, hown, hts, hKn, hlk, hfl, hA1, hA2, hret⟩ := h
  obtain ⟨hmk, hlink, hin, hsel⟩ := hl
  subst ha
  intro H locs ls hls hP hD hS
  have he' : (wN N ea ee)[o]? = some (ea o, .inr (ci, fs)) := by rw [wN_get ho, he]
  obtain ⟨q, hq, hqC⟩ := Option.map_eq_some_iff.mp hC
  have hrecv := va_recv hKn.1 hP hq he'
  rw [hqC] at hrecv
  have hpre := preC_of (p := p) (l := l) (e := e) (R := R) (m := m) (args := args) (below := below) (meth := meth) (c := c) (av := .ref (ea o) :: As) hP hD hS hA2 hA1 hKn
  have hMet := metC kk H.size
  have hrun : va_Run p l e R s m args below meth c H locs k n kc nc (F0 m pc ls (As.reverse ++ .ref (ea o) :: st)) st (QcC B N ea Q H.size (Value.ref (ea o) :: As).toArray) (AC N ea H.size) := by
    rcases hlink with hlink | ⟨host, hlink⟩
    · exact va_runV (C := cd.1.cls) (As := As) (rest := st) ⟨hx, hb, hml, hown, hts⟩ hMet ⟨CallB_md hmk hts (hts _ hlink) hrm hdep, hts _ hin, hts _ hsel⟩ ⟨hpre.1, hrecv, hpre.2⟩ rfl hn hls.1 rfl (lv_room hst) hd hk
    · exact va_runVN (C := cd.1.cls) (As := As) (rest := st) ⟨hx, hb, hml, hown, hts⟩ hMet ⟨CallN_md hmk hts (hKn.2.1 _ hlink) hrm hdep, hts _ hin, hts _ hsel⟩ ⟨hpre.1, hrecv, hpre.2⟩ rfl hn hls.1 rfl (lv_room hst) hd hk
  exact afterC hD hS hA1 hrun (fun N' ea' ee' H1 locs1 a1 a2 a3 a4 => kv N' ea' ee' a1 H1 locs1 ls hls a2 a3 a4)
end CallC
/-! ===== THE SAME ROWS, WITH WHAT IS KNOWN OF THE NEW PICTURE AS FACTS ===== -/
/-- below lo the two pictures agree -/
def Gr (lo : Nat) (ea : Nat → Nat) (ee : Nat → va_E) (ea' : Nat → Nat) (ee' : Nat → va_E) : Prop := ∀ i, i < lo → ea' i = ea i ∧ ee' i = ee i
theorem Gr_upf {N q : Nat} {ea : Nat → Nat} {ee : Nat → va_E} {x : va_E} : Gr N ea ee (upf ea N q) (upf ee N x) := fun i h => ⟨upf_n (by omega), upf_n (by omega)⟩
/-- what a constructor of the object o leaves: c new objects behind it, the elder ones kept, P of the new picture -/
def QB (P : (Nat → Nat) → (Nat → va_E) → Prop) (o c : Nat) (ea : Nat → Nat) (ee : Nat → va_E) : Nat → (Nat → Nat) → (Nat → va_E) → Prop := fun N' ea' ee' => N' = o + 1 + c ∧ (∀ i, i < o + 1 → ea' i = ea i) ∧ (∀ i, i < o → ee' i = ee i) ∧ P ea' ee'
section Dd
variable {G : GT} {md : Md} {k n N : Nat} {ea : Nat → Nat} {ee : Nat → va_E} {pc : Nat} {lv : List (Nat × Value)} {st : List Value}
theorem D_new (h : Cx G md) {idx ci : Nat} {fs : List Value} (hw : Nw md.1.cls idx ci fs) (d : decode md.2.1 pc = .ok (.new idx, 3)) (hk : k + 1 ≤ (gR G).cells ∧ n + fs.length ≤ (gR G).slots) (kk : ∀ q ea' ee', Gr N ea ee ea' ee' → ea' N = q → ee' N = .inr (ci, fs) → VC G md (k + 1) (n + fs.length) (N + 1) ea' ee' (pc + 3) lv (.ref q :: st)) : VC G md k n N ea ee pc lv st :=
  C_new h hw d hk (fun q => kk q _ _ Gr_upf (upf_s _ _ _) (upf_s _ _ _))
theorem D_newI (h : Cx G md) {x : Int} (L : Nat) (d : decode md.2.1 pc = .ok (.newarray .int, 2)) (hw : Cond.arrayClass .int ∈ wAll) (hx0 : x = L) (hL : L < 100000) (hk : k + 1 ≤ (gR G).cells ∧ n + L ≤ (gR G).slots) (kk : ∀ q ea' ee', Gr N ea ee ea' ee' → ea' N = q → ee' N = .inl ((gB G).2.1, L, .inl (fun _ => 0)) → VC G md (k + 1) (n + L) (N + 1) ea' ee' (pc + 2) lv (.ref q :: st)) : VC G md k n N ea ee pc lv (.int (I x) :: st) :=
  C_newI h d hw hx0 hL hk (fun q => kk q _ _ Gr_upf (upf_s _ _ _) (upf_s _ _ _))
theorem D_newZ (h : Cx G md) {x : Int} (L : Nat) (d : decode md.2.1 pc = .ok (.newarray .boolean, 2)) (hw : Cond.arrayClass .boolean ∈ wAll) (hx0 : x = L) (hL : L < 100000) (hk : k + 1 ≤ (gR G).cells ∧ n + L ≤ (gR G).slots) (kk : ∀ q ea' ee', Gr N ea ee ea' ee' → ea' N = q → ee' N = .inl ((gB G).2.2.1, L, .inl (fun _ => 0)) → VC G md (k + 1) (n + L) (N + 1) ea' ee' (pc + 2) lv (.ref q :: st)) : VC G md k n N ea ee pc lv (.int (I x) :: st) :=
  C_newZ h d hw hx0 hL hk (fun q => kk q _ _ Gr_upf (upf_s _ _ _) (upf_s _ _ _))
theorem D_putF (h : Cx G md) (hi : InM G) {idx ci j o a q : Nat} {fs : List Value} {ty : FieldType} (hf : Ff md.1.cls idx ci j ty) (hty : (∃ n, ty = .object n) ∨ ∃ t, ty = .array t) (ho : o < N) (ha : ea o = a) (he : ee o = .inr (ci, fs)) (hjl : j < fs.length) (d : decode md.2.1 pc = .ok (.putfield idx, 3)) (kk : ∀ ee', (∀ i, i ≠ o → ee' i = ee i) → ee' o = .inr (ci, fs.set j (.ref q)) → VC G md k n N ea ee' (pc + 3) lv st) : VC G md k n N ea ee pc lv (.ref q :: .ref a :: st) :=
  C_putF h hi hf hty ho ha he hjl d (kk _ (fun i h => upf_n h) (upf_s _ _ _))
theorem D_put (h : Cx G md) {idx ci j o a : Nat} {fs : List Value} {x : Int} {dsc : String} (hf : Fk md.1.cls idx ci j dsc) (hd : dsc = "I" ∨ (dsc = "Z" ∧ (x = 0 ∨ x = 1))) (ho : o < N) (ha : ea o = a) (he : ee o = .inr (ci, fs)) (hjl : j < fs.length) (d : decode md.2.1 pc = .ok (.putfield idx, 3)) (kk : ∀ ee', (∀ i, i ≠ o → ee' i = ee i) → ee' o = .inr (ci, fs.set j (.int (I x))) → VC G md k n N ea ee' (pc + 3) lv st) : VC G md k n N ea ee pc lv (.int (I x) :: .ref a :: st) :=
  C_put h hf hd ho ha he hjl d (kk _ (fun i h => upf_n h) (upf_s _ _ _))
theorem D_ast (h : Cx G md) {o a : Nat} {L : Nat} {g : Nat → Int32} {i x : Int} (ho : o < N) (ha : ea o = a) (he : ee o = .inl ((gB G).2.1, L, .inl g)) (hi : 0 ≤ i ∧ i < L) (hL : L < 100000) (d : decode md.2.1 pc = .ok (.iastore, 1)) (kk : ∀ ee', (∀ i, i ≠ o → ee' i = ee i) → ee' o = .inl ((gB G).2.1, L, .inl (upd g i.toNat (I x))) → VC G md k n N ea ee' (pc + 1) lv st) : VC G md k n N ea ee pc lv (.int (I x) :: .int (I i) :: .ref a :: st) :=
  C_iast h ho ha he hi hL d (kk _ (fun i h => upf_n h) (upf_s _ _ _))
end Dd
/-- an array that holds a function below i, and noughts -/
theorem upd_step {f : Nat → Int32} {i : Nat} : upd (fun j => if j < i then f j else 0) i (f i) = fun j => if j < i + 1 then f j else 0 := by
  funext j
  unfold upd
  by_cases h : j = i
  · subst h; rw [if_pos rfl, if_pos (by omega)]
  · rw [if_neg h]
    show (if j < i then f j else 0) = _
    by_cases h2 : j < i
    · rw [if_pos h2, if_pos (by omega)]
    · rw [if_neg h2, if_neg (by omega)]
