/-! ===== CONTRACTS OF THE LAW'S METHODS: they may change the law's own objects and make new ones; none throws ===== -/
def zD : Mem := fun _ _ => 0
def cwd (md : Md) (hh : List (Nat × Nat × Nat × Nat)) : Cond := match hh with | [] => .code md.1 md.2.1 md.2.2.1 md.2.2.2.1 | x :: xs => .codeWith md.1 md.2.1 md.2.2.1 md.2.2.2.1 (x :: xs)
abbrev OU : Type := Option Value → Sh → Mem → Mem → Prop
theorem AA_dl (B : WB) (S : Sh) (D D' : Mem) (sz : Nat) : AA B (dl B S D) sz = AA B (dl B S D') sz := by
  have h : ∀ D D' : Mem, ∀ q, AA B (dl B S D) sz q → AA B (dl B S D') sz q := by
    rintro D D' q (h | ⟨x, hx, hq⟩ | h)
    · exact Or.inl h
    · obtain ⟨e, he, rfl⟩ := List.mem_map.mp hx
      exact Or.inr (Or.inl ⟨_, List.mem_map.mpr ⟨e, he, rfl⟩, hq⟩)
    · exact Or.inr (Or.inr h)
  funext q
  exact propext ⟨h D D' q, h D' D q⟩
def QcU (B : WB) (S0 : Sh) (O : OU) (sz : Nat) : Array Value → State → Outcome → State → Prop := fun _ st o t => ∃ (v : Option Value) (S : Sh) (D M : Mem), o = .returned v ∧ O v S D M ∧ Xs S0 S ∧ MOK M ∧ SOK S D ∧ va_P B.1 vwCl (wl B M ++ dl B S D) t.heap ∧ va_D (AA B (dl B S0 zD) sz) (wl B M ++ dl B S D) ∧ va_F (AA B (dl B S0 zD) sz) st t
def NoXU : String → State → State → Prop := fun _ _ _ => False
def OkU (B : WB) (l : Launch) (md : Md) (hh : List (Nat × Nat × Nat × Nat)) (kc nc : Nat) (av : List Value) (S : Sh) (D M : Mem) (O : OU) : Prop :=
  MOK M → SOK S D → ∀ sz : Nat, vx_Met l md.1 (cwd md hh :: wAll) (rmD md.2.2.2.2 kc nc) (PcO B (dl B S D) M sz av) (QcU B S O sz) NoXU kc nc (AA B (dl B S zD) sz)
def RtU (G : GT) (hh : List (Nat × Nat × Nat × Nat)) (S0 : Sh) (O : OU) : Prop :=
  match G with
  | (_, _, _, R, s, _, args, below, _, c, B, A, Z) =>
    A = AA B (dl B S0 zD) s.heap.size ∧ Z = vx_MQ below (QcU B S0 O s.heap.size) NoXU args s R.cells R.slots (AA B (dl B S0 zD) s.heap.size) ∧ c.exceptionTable.toList = tableOf hh
def MkU (md : Md) (hh : List (Nat × Nat × Nat × Nat)) (n : Nat) : Prop := plainName md.1.cls = true ∧ cwd md hh ∈ wAll ∧ Cond.initialized md.1.cls ∈ wAll ∧ (md.1.cls ≠ "java/lang/invoke/MethodHandle" ∧ md.1.cls ≠ "java/lang/invoke/VarHandle" ∧ (parseMethodDescriptor md.1.desc).map (fun d => d.parameters.length) = some n) ∧ md.2.2.1 ≤ 61
theorem OkU_mono {B : WB} {l : Launch} {md : Md} {hh : List (Nat × Nat × Nat × Nat)} {kc nc : Nat} {av : List Value} {S : Sh} {D M : Mem} {O O' : OU} (h : OkU B l md hh kc nc av S D M O) (hO : ∀ v S1 D1 M1, Xs S S1 → SOK S1 D1 → MOK M1 → O v S1 D1 M1 → O' v S1 D1 M1) : OkU B l md hh kc nc av S D M O' := by
  intro hM hS sz
  refine MetFree.mono (h hM hS sz) (fun _ _ h => h) (fun _ _ _ _ _ h => h) ?_
  rintro a st o t _ (⟨⟨v, S1, D1, M1, e1, e2, e3, e4, e5, e6⟩, hL⟩ | ⟨q, e1, E, ce, L, hf, x4⟩)
  · exact Or.inl ⟨⟨v, S1, D1, M1, e1, hO _ _ _ _ e3 e5 e4 e2, e3, e4, e5, e6⟩, hL⟩
  · exact hf.elim
/-- all that a walk of such a body stands on -/
def CtU (G : GT) (md : Md) (hh : List (Nat × Nat × Nat × Nat)) (S0 : Sh) (O : OU) (B : WB) (l : Launch) (K N : Nat) : Prop := Cx G md ∧ RtU G hh S0 O ∧ gB G = B ∧ gR G = rmD md.2.2.2.2 K N ∧ gl G = l
theorem OkU_code {B : WB} {l : Launch} {md : Md} {kc nc na : Nat} {av : List Value} {S : Sh} {D M : Mem} {O : OU} (hmk : MkU md [] na) (hl : l.stackTraces = false) (hlen : (lg_sl av).length ≤ md.2.2.1)
    (body : ∀ G : GT, CtU G md [] S O B l kc nc → SOK S D → V G md 0 0 (dl B S D) M 0 (lv_args 0 av) []) : OkU B l md [] kc nc av S D M O := by
  intro hM hSO sz
  obtain ⟨y, cc, maxL, ret, dep⟩ := md
  refine vx_ofW (cc := cc) (maxL := maxL) (ret := ret) hmk.1 rfl ?_
  intro p e s m args below meth c s₁ Bd hml hT hv
  obtain ⟨rfl, hsz, hP, hD, hKn⟩ := hv
  subst hsz
  have hts : ∀ w ∈ (Cond.code y cc maxL ret :: wAll), w.before av.toArray s = true := atoms_spec (ws := Cond.code y cc maxL ret :: wAll) Bd.pre
  have hlt : b0 B ≤ s.heap.size := Nat.le_trans (hD.2 0 _ (wl_get (by decide))) (Nat.le_of_lt (hP 0 _ (wl_get (by decide))).lt)
  have hA2 : ∀ q, AA B (dl B S zD) s.heap.size q → b0 B ≤ q := by
    rw [AA_dl B S zD D]
    exact AA_of hD (fun q h => Nat.le_trans hlt h)
  have h1 := body (p, l, e, rmD dep kc nc, s, m, av.toArray, below, meth, c, B, AA B (dl B S zD) s.heap.size, vx_MQ below (QcU B S O s.heap.size) NoXU av.toArray s kc nc (AA B (dl B S zD) s.heap.size))
    ⟨⟨Bd.exec, Bd.bytes, hml, findClass_of_methodNamed Bd.named, fun w hw => hts w (List.mem_cons_of_mem _ hw), hKn, Bd.notSynchronized, hl, fun q h => Or.inr (Or.inr h), hA2, Bd.returns⟩,
    ⟨rfl, rfl, by cases hct : c.exceptionTable.toList with | nil => rfl | cons x xs => exact (hT x (by rw [hct]; exact List.mem_cons_self)).elim⟩, rfl, rfl, rfl⟩ hSO hM s.heap [] _ (lv_entry av hlen) hP (va_D.weaken hD (fun k q hk _ => by rw [AA_dl B S zD D]; exact AA_in k q hk)) va_S.rf
  rw [lg_entry_eq]
  exact h1
theorem OkU_with {B : WB} {l : Launch} {md : Md} {x : Nat × Nat × Nat × Nat} {xs : List (Nat × Nat × Nat × Nat)} {kc nc na : Nat} {av : List Value} {S : Sh} {D M : Mem} {O : OU} (hmk : MkU md (x :: xs) na) (hl : l.stackTraces = false) (hlen : (lg_sl av).length ≤ md.2.2.1)
    (body : ∀ G : GT, CtU G md (x :: xs) S O B l kc nc → SOK S D → V G md 0 0 (dl B S D) M 0 (lv_args 0 av) []) : OkU B l md (x :: xs) kc nc av S D M O := by
  intro hM hSO sz
  obtain ⟨y, cc, maxL, ret, dep⟩ := md
  refine vx_ofWH (cc := cc) (maxL := maxL) (ret := ret) (hh := x :: xs) hmk.1 rfl ?_
  intro p e s m args below meth c s₁ Bd hml hv
  obtain ⟨rfl, hsz, hP, hD, hKn⟩ := hv
  subst hsz
  have hts : ∀ w ∈ (Cond.codeWith y cc maxL ret (x :: xs) :: wAll), w.before av.toArray s = true := atoms_spec (ws := Cond.codeWith y cc maxL ret (x :: xs) :: wAll) Bd.pre
  have hlt : b0 B ≤ s.heap.size := Nat.le_trans (hD.2 0 _ (wl_get (by decide))) (Nat.le_of_lt (hP 0 _ (wl_get (by decide))).lt)
  have hA2 : ∀ q, AA B (dl B S zD) s.heap.size q → b0 B ≤ q := by
    rw [AA_dl B S zD D]
    exact AA_of hD (fun q h => Nat.le_trans hlt h)
  have h1 := body (p, l, e, rmD dep kc nc, s, m, av.toArray, below, meth, c, B, AA B (dl B S zD) s.heap.size, vx_MQ below (QcU B S O s.heap.size) NoXU av.toArray s kc nc (AA B (dl B S zD) s.heap.size))
    ⟨⟨Bd.exec, Bd.bytes, hml, findClass_of_methodNamed Bd.named, fun w hw => hts w (List.mem_cons_of_mem _ hw), hKn, Bd.notSynchronized, hl, fun q h => Or.inr (Or.inr h), hA2, Bd.returns⟩,
    ⟨rfl, rfl, vx_table (x := y) Bd (hts _ List.mem_cons_self)⟩, rfl, rfl, rfl⟩ hSO hM s.heap [] _ (lv_entry av hlen) hP (va_D.weaken hD (fun k q hk _ => by rw [AA_dl B S zD D]; exact AA_in k q hk)) va_S.rf
  rw [lg_entry_eq]
  exact h1
section EndU
variable {G : GT} {md : Md} {k n : Nat} {S0 S : Sh} {D M : Mem} {pc : Nat} {lv : List (Nat × Value)} {st : List Value} {O : OU} {hh : List (Nat × Nat × Nat × Nat)}
theorem V_iretU (h : Cx G md) (hR : RtU G hh S0 O) {ty : FieldType} {a : Int32} (hty : md.2.2.2.1 = some ty) (hn : narrow ty (.int a) = .int a) (hk : k ≤ (gR G).cells ∧ n ≤ (gR G).slots) (d : decode md.2.1 pc = .ok (.ireturn, 1)) (hS : SOK S D) (hX : Xs S0 S) (kk : O (some (.int a)) S D M) : V G md k n (dl (gB G) S D) M pc lv [.int a] := by
  obtain ⟨p, l, e, R, s, m, args, below, meth, c, B, A, Z⟩ := G
  obtain ⟨hx, hb, hml, hown, hts, hKn, hlk, hfl, hA1, hA2, hret⟩ := h
  obtain ⟨hA, hZ, hT⟩ := hR
  intro hM H locs ls hl hP hD hSS
  rw [hZ]
  refine W.widen hk.1 hk.2 (vx_ret ?_)
  exact W.zret hx hb (hret.trans hty) hn (fun t ht hW => ⟨_, S, D, M, rfl, kk, hX, hM, hS, by rw [ht]; exact hP, by rw [← hA]; exact hD, by rw [← hA]; exact hSS.F ht⟩) (by rw [← hA]; exact hSS.2.2) d
theorem V_vretU (h : Cx G md) (hR : RtU G hh S0 O) (hty : md.2.2.2.1 = none) (hk : k ≤ (gR G).cells ∧ n ≤ (gR G).slots) (d : decode md.2.1 pc = .ok (.return_, 1)) (hS : SOK S D) (hX : Xs S0 S) (kk : O none S D M) : V G md k n (dl (gB G) S D) M pc lv [] := by
  obtain ⟨p, l, e, R, s, m, args, below, meth, c, B, A, Z⟩ := G
  obtain ⟨hx, hb, hml, hown, hts, hKn, hlk, hfl, hA1, hA2, hret⟩ := h
  obtain ⟨hA, hZ, hT⟩ := hR
  intro hM H locs ls hl hP hD hSS
  rw [hZ]
  refine W.widen hk.1 hk.2 (vx_ret ?_)
  exact W.vret hx hb (hret.trans hty) (fun t ht hW => ⟨_, S, D, M, rfl, kk, hX, hM, hS, by rw [ht]; exact hP, by rw [← hA]; exact hD, by rw [← hA]; exact hSS.F ht⟩) (by rw [← hA]; exact hSS.2.2) d
theorem rv_or (t : Nat) : rv t = .null ∨ ∃ a, rv t = .ref a := by
  unfold rv
  split
  · exact Or.inl rfl
  · exact Or.inr ⟨_, rfl⟩
theorem V_aretU (h : Cx G md) (hR : RtU G hh S0 O) {t : Nat} {rt : FieldType} (hty : md.2.2.2.1 = some rt) (hrt : (∃ n, rt = .object n) ∨ ∃ t, rt = .array t) (hk : k ≤ (gR G).cells ∧ n ≤ (gR G).slots) (d : decode md.2.1 pc = .ok (.areturn, 1)) (hS : SOK S D) (hX : Xs S0 S) (kk : O (some (rv t)) S D M) : V G md k n (dl (gB G) S D) M pc lv [rv t] := by
  obtain ⟨p, l, e, R, s, m, args, below, meth, c, B, A, Z⟩ := G
  obtain ⟨hx, hb, hml, hown, hts, hKn, hlk, hfl, hA1, hA2, hret⟩ := h
  obtain ⟨hA, hZ, hT⟩ := hR
  intro hM H locs ls hl hP hD hSS
  rw [hZ]
  refine W.widen hk.1 hk.2 (vx_ret ?_)
  exact W.aret hx hb (hret.trans hty) hrt (rv_or t) (fun t ht hW => ⟨_, S, D, M, rfl, kk, hX, hM, hS, by rw [ht]; exact hP, by rw [← hA]; exact hD, by rw [← hA]; exact hSS.F ht⟩) (by rw [← hA]; exact hSS.2.2) d
end EndU
/-! calls of such methods -/
theorem GoodIn_mu {md : Md} {hh : List (Nat × Nat × Nat × Nat)} {n : Nat} (h : MkU md hh n) : GoodIn wAll (cwd md hh :: wAll) := by
  intro w hw
  rcases List.mem_cons.mp hw with rfl | hw
  · exact wa_good _ h.2.1
  · exact wa_good _ hw
theorem mk_of {md : Md} {n : Nat} (h : MkU md [] n) : Mk md n := h
section CallU
variable {p : Program} {l : Launch} {e : Env} {R : Room} {s : State} {m : MethodId} {args : Array Value} {below : List Frame} {meth : Method} {c : Code} {H : Heap} {locs : List Loc} {B : WB} {A : Nat → Prop}
theorem after_retU {Z : State → Prop} {k n mc ms pc : Nat} {ls : Array Slot} {st st0 : List Value} {S : Sh} {D M : Mem} {O : OU} {a : Array Value} (hD : va_D A (wl B M ++ dl B S D)) (hS : va_S A s.heap H locs) (hA1 : ∀ q, s.heap.size ≤ q → A q)
    (hr : va_Run p l e R s m args below meth c H locs k n mc ms (F0 m pc ls st0) st (QcU B S O H.size a) (AA B (dl B S zD) H.size))
    (kk : ∀ (v : Option Value) (S1 : Sh) (D1 M1 : Mem) (H1 : Heap) (locs1 : List Loc), O v S1 D1 M1 → Xs S S1 → MOK M1 → SOK S1 D1 → va_P B.1 vwCl (wl B M1 ++ dl B S1 D1) H1 → va_D A (wl B M1 ++ dl B S1 D1) → va_S A s.heap H1 locs1 → W p l e R s m args below meth c H1 locs1 (k + mc) (n + ms) Z (F0 m (pc + 3) ls (v.toList ++ st))) :
    W p l e R s m args below meth c H locs k n Z (F0 m pc ls st0) := by
  intro T hT XX
  obtain ⟨v, st₀, t, T', L, h0, X', hL, e1, e2, ⟨v', S1, D1, M1, hv, hO, hX1, hM1, hS1, hW1, hD1, hF⟩, stp⟩ := hr T hT XX
  cases hv
  have hAA : ∀ q, AA B (dl B S zD) H.size q → A q := by
    rw [AA_dl B S zD D]
    exact AA_of hD (fun q h => hA1 q (Nat.le_trans hS.1 h))
  obtain ⟨-, -, k3⟩ := vx_keep h0 e1 hS (fun q _ h => hAA q h) (fun q h => hAA q h) hL hF
  obtain ⟨t2, a1, b1⟩ := kk v S1 D1 M1 T'.heap (locs ++ L) hO hX1 hM1 hS1 (by rw [e1]; exact hW1) (hD1.weaken (fun _ q _ h => hAA _ h)) k3 T' rfl X'
  exact ⟨t2, stp t2 a1, b1⟩
end CallU
section CallU2
variable {G : GT} {md : Md} {k n : Nat} {S : Sh} {D M : Mem} {pc : Nat} {lv : List (Nat × Value)} {st : List Value} {cd : Md} {na idx d0 kc nc : Nat} {As : List Value} {O : OU}
theorem OkU_met {B : WB} {l : Launch} {hh : List (Nat × Nat × Nat × Nat)} {av : List Value} (h : OkU B l cd hh kc nc av S D M O) (hM : MOK M) (hS : SOK S D) (sz : Nat) : Met l cd.1 (cwd cd hh :: wAll) (rmD cd.2.2.2.2 kc nc) (PcO B (dl B S D) M sz av) (QcU B S O sz) kc nc (AA B (dl B S zD) sz) := by
  refine MetFree.mono (h hM hS sz) (fun _ _ h => h) (fun _ _ _ _ _ h => h) ?_
  rintro a st o t _ (h | ⟨q, e1, E, ce, L, hf, x4⟩)
  · exact h
  · exact hf.elim
theorem V_uS (h : Cx G md) (hl : Ls md.1.cls idx cd na) (hd : decode md.2.1 pc = .ok (.invokestatic idx, 3)) (hdep : cd.2.2.2.2 < d0) (hrm : Rm G d0) (hn : As.length = na) (hst : (st.map fun v => v.category).sum ≤ 8) (hk : k + kc ≤ (gR G).cells ∧ n + nc ≤ (gR G).slots) (hS : SOK S D)
    (kk : OkU (gB G) (gl G) cd [] kc nc As S D M O) (kv : ∀ v S1 D1 M1, O v S1 D1 M1 → Xs S S1 → SOK S1 D1 → V G md (k + kc) (n + nc) (dl (gB G) S1 D1) M1 (pc + 3) lv (v.toList ++ st)) : V G md k n (dl (gB G) S D) M pc lv (As.reverse ++ st) := by
  obtain ⟨p, l, e, R, s, m, args, below, meth, c, B, A, Z⟩ := G
  obtain ⟨hx, hb, hml, hown, hts, hKn, hlk, hfl, hA1, hA2, hret⟩ := h
  obtain ⟨hmk, hlink, hstat⟩ := hl
  intro hM H locs ls hls hP hD hSS
  have hpre := pre_of (av := As) hP hD hSS hA2 hKn
  have hMet := OkU_met kk hM hS H.size
  have hrun : va_Run p l e R s m args below meth c H locs k n kc nc (F0 m pc ls (As.reverse ++ st)) st (QcU B S O H.size As.toArray) (AA B (dl B S zD) H.size) := by
    rcases hlink with hlink | ⟨host, hlink⟩
    · exact va_runS (As := As) (rest := st) ⟨hx, hb, hml, hown, hts⟩ hMet ⟨CallB_md hmk hts (hts _ hlink) hrm hdep, hts _ hstat⟩ hpre rfl hn hls.1 rfl (lv_room hst) hd hk
    · exact va_runSN (As := As) (rest := st) ⟨hx, hb, hml, hown, hts⟩ hMet ⟨CallN_md hmk hts (hKn.2.1 _ hlink) hrm hdep, hts _ hstat, trivial⟩ hpre rfl hn hls.1 rfl (lv_room hst) hd hk
  exact after_retU hD hSS hA1 hrun (fun v S1 D1 M1 H1 locs1 a1 a0 a2 a6 a3 a4 a5 => kv v S1 D1 M1 a1 a0 a6 a2 H1 locs1 ls hls a3 a4 a5)
theorem V_uSW (h : Cx G md) {x : Nat × Nat × Nat × Nat} {xs : List (Nat × Nat × Nat × Nat)} (hl : MkU cd (x :: xs) na ∧ Cond.methodLink md.1.cls idx cd.1 ∈ wAll ∧ Cond.static cd.1 ∈ wAll) (hd : decode md.2.1 pc = .ok (.invokestatic idx, 3)) (hdep : cd.2.2.2.2 < d0) (hrm : Rm G d0) (hn : As.length = na) (hst : (st.map fun v => v.category).sum ≤ 8) (hk : k + kc ≤ (gR G).cells ∧ n + nc ≤ (gR G).slots) (hS : SOK S D)
    (kk : OkU (gB G) (gl G) cd (x :: xs) kc nc As S D M O) (kv : ∀ v S1 D1 M1, O v S1 D1 M1 → Xs S S1 → SOK S1 D1 → V G md (k + kc) (n + nc) (dl (gB G) S1 D1) M1 (pc + 3) lv (v.toList ++ st)) : V G md k n (dl (gB G) S D) M pc lv (As.reverse ++ st) := by
  obtain ⟨p, l, e, R, s, m, args, below, meth, c, B, A, Z⟩ := G
  obtain ⟨hx, hb, hml, hown, hts, hKn, hlk, hfl, hA1, hA2, hret⟩ := h
  obtain ⟨hmk, hlink, hstat⟩ := hl
  have hG := GoodIn_mu hmk
  obtain ⟨m1, m2, m3, m4, m5⟩ := hmk
  intro hM H locs ls hls hP hD hSS
  have hpre := pre_of (av := As) hP hD hSS hA2 hKn
  have hMet : Met l cd.1 (.codeWith cd.1 cd.2.1 cd.2.2.1 cd.2.2.2.1 (x :: xs) :: wAll) (rmD cd.2.2.2.2 kc nc) (PcO B (dl B S D) M H.size As) (QcU B S O H.size) kc nc (AA B (dl B S zD) H.size) := OkU_met kk hM hS H.size
  have hrun : va_Run p l e R s m args below meth c H locs k n kc nc (F0 m pc ls (As.reverse ++ st)) st (QcU B S O H.size As.toArray) (AA B (dl B S zD) H.size) :=
    vx_runSW (As := As) (rest := st) ⟨hx, hb, hml, hown, hts⟩ hMet ⟨⟨rfl, rfl, by have := hrm.1; show cd.2.2.2.2 + 8 + 1 ≤ R.frames; have h9 : R.frames = (gR (p, l, e, R, s, m, args, below, meth, c, B, A, Z)).frames := rfl; omega, by have := hrm.2; have h9 : R.locals = (gR (p, l, e, R, s, m, args, below, meth, c, B, A, Z)).locals := rfl; show 8 + (cd.2.2.1 + 11) + (80 * cd.2.2.2.2 + 200) ≤ R.locals; omega, pay_in hts hG, List.mem_cons_self⟩, hts _ m2, hts _ m3, ⟨m4.1, m4.2.1⟩, fun sig hs => by have h2 := m4.2.2; rw [hs] at h2; exact (Option.some.inj h2).symm, hts _ hlink, hts _ hstat⟩ hpre rfl hn hls.1 rfl (lv_room hst) hd hk
  exact after_retU hD hSS hA1 hrun (fun v S1 D1 M1 H1 locs1 a1 a0 a2 a6 a3 a4 a5 => kv v S1 D1 M1 a1 a0 a6 a2 H1 locs1 ls hls a3 a4 a5)
theorem V_uV (h : Cx G md) {t ci : Nat} (hl : Lv md.1.cls idx cd na) (hd : decode md.2.1 pc = .ok (.invokevirtual idx, 3)) (hdep : cd.2.2.2.2 < d0) (hrm : Rm G d0) (hc : ci = 12 ∨ ci = 13) (hC : (vwCl[ci]?).map (·.1) = some cd.1.cls) (hi : IsC S t ci) (hn : As.length = na) (hst : (st.map fun v => v.category).sum ≤ 8) (hk : k + kc ≤ (gR G).cells ∧ n + nc ≤ (gR G).slots) (hS : SOK S D)
    (kk : OkU (gB G) (gl G) cd [] kc nc (rv t :: As) S D M O) (kv : ∀ v S1 D1 M1, O v S1 D1 M1 → Xs S S1 → SOK S1 D1 → V G md (k + kc) (n + nc) (dl (gB G) S1 D1) M1 (pc + 3) lv (v.toList ++ st)) : V G md k n (dl (gB G) S D) M pc lv (As.reverse ++ rv t :: st) := by
  obtain ⟨p, l, e, R, s, m, args, below, meth, c, B, A, Z⟩ := G
  obtain ⟨hx, hb, hml, hown, hts, hKn, hlk, hfl, hA1, hA2, hret⟩ := h
  obtain ⟨hmk, hlink, hin, hsel⟩ := hl
  obtain ⟨r, o, n0, hlk2, hr⟩ := hi
  rw [rv_ne (sok_ne hS hlk2)] at kk ⊢
  obtain ⟨q0, hq0⟩ := lk_get hlk2
  intro hM H locs ls hls hP hD hSS
  have he : (wl B M ++ dl B S D)[N0 + q0]? = some (t, .inr (ci, (List.range (lnC ci)).map (dfd ci D t))) := by
    rw [dl_at hq0]
    show some (t, denE B D t (shD r) n0) = _
    rw [hr, den_obj hc]
  obtain ⟨q, hq⟩ : ∃ q, vwCl[ci]? = some q := by rcases hc with rfl | rfl <;> exact ⟨_, rfl⟩
  have hqC : q.1 = cd.1.cls := by rw [hq] at hC; exact Option.some.inj hC
  have hrecv := va_recv hKn.1 hP hq he
  rw [hqC] at hrecv
  have hpre := pre_of (av := .ref t :: As) hP hD hSS hA2 hKn
  have hMet := OkU_met kk hM hS H.size
  have hrun : va_Run p l e R s m args below meth c H locs k n kc nc (F0 m pc ls (As.reverse ++ .ref t :: st)) st (QcU B S O H.size (Value.ref t :: As).toArray) (AA B (dl B S zD) H.size) := by
    rcases hlink with hlink | ⟨host, hlink⟩
    · exact va_runV (C := cd.1.cls) (As := As) (rest := st) ⟨hx, hb, hml, hown, hts⟩ hMet ⟨CallB_md hmk hts (hts _ hlink) hrm hdep, hts _ hin, hts _ hsel⟩ ⟨hpre.1, hrecv, hpre.2⟩ rfl hn hls.1 rfl (lv_room hst) hd hk
    · exact va_runVN (C := cd.1.cls) (As := As) (rest := st) ⟨hx, hb, hml, hown, hts⟩ hMet ⟨CallN_md hmk hts (hKn.2.1 _ hlink) hrm hdep, hts _ hin, hts _ hsel⟩ ⟨hpre.1, hrecv, hpre.2⟩ rfl hn hls.1 rfl (lv_room hst) hd hk
  exact after_retU hD hSS hA1 hrun (fun v S1 D1 M1 H1 locs1 a1 a0 a2 a6 a3 a4 a5 => kv v S1 D1 M1 a1 a0 a6 a2 H1 locs1 ls hls a3 a4 a5)
def Li (own : String) (idx : Nat) (cd : Md) (n : Nat) : Prop := Mk cd n ∧ (Cond.methodLink own idx cd.1 ∈ wAll ∨ ∃ host, Cond.methodLinkNest own idx cd.1 host ∈ nestW) ∧ Cond.instanceMethod cd.1 ∈ wAll ∧ cd.1.name = "<init>" ∧ cd.2.2.2.1 = none
theorem V_uI (h : Cx G md) {t : Nat} (ht : t ≠ 0) (hl : Li md.1.cls idx cd na) (hd : decode md.2.1 pc = .ok (.invokespecial idx, 3)) (hdep : cd.2.2.2.2 < d0) (hrm : Rm G d0) (hn : As.length = na) (hst : (st.map fun v => v.category).sum ≤ 8) (hk : k + kc ≤ (gR G).cells ∧ n + nc ≤ (gR G).slots) (hS : SOK S D)
    (kk : OkU (gB G) (gl G) cd [] kc nc (rv t :: As) S D M O) (kv : ∀ v S1 D1 M1, O v S1 D1 M1 → Xs S S1 → SOK S1 D1 → V G md (k + kc) (n + nc) (dl (gB G) S1 D1) M1 (pc + 3) lv (v.toList ++ st)) : V G md k n (dl (gB G) S D) M pc lv (As.reverse ++ rv t :: st) := by
  obtain ⟨p, l, e, R, s, m, args, below, meth, c, B, A, Z⟩ := G
  obtain ⟨hx, hb, hml, hown, hts, hKn, hlk, hfl, hA1, hA2, hret⟩ := h
  obtain ⟨y, cc, maxL, ret, dep⟩ := cd
  obtain ⟨hmk, hlink, hin, hname, hrn⟩ := hl
  have hrn : ret = none := hrn
  subst hrn
  rw [rv_ne ht] at kk ⊢
  intro hM H locs ls hls hP hD hSS
  have hpre := pre_of (av := .ref t :: As) hP hD hSS hA2 hKn
  have hMet := OkU_met kk hM hS H.size
  have hrun : va_Run p l e R s m args below meth c H locs k n kc nc (F0 m pc ls (As.reverse ++ .ref t :: st)) st (QcU B S O H.size (Value.ref t :: As).toArray) (AA B (dl B S zD) H.size) := by
    rcases hlink with hlink | ⟨host, hlink⟩
    · exact va_runI (As := As) (rest := st) ⟨hx, hb, hml, hown, hts⟩ hMet ⟨CallB_md hmk hts (hts _ hlink) hrm hdep, hname, hts _ hin⟩ hpre rfl hn hls.1 rfl (lv_room hst) hd hk
    · exact va_runIN (As := As) (rest := st) ⟨hx, hb, hml, hown, hts⟩ hMet ⟨CallN_md hmk hts (hKn.2.1 _ hlink) hrm hdep, hname, hts _ hin⟩ hpre rfl hn hls.1 rfl (lv_room hst) hd hk
  exact after_retU hD hSS hA1 hrun (fun v S1 D1 M1 H1 locs1 a1 a0 a2 a6 a3 a4 a5 => kv v S1 D1 M1 a1 a0 a6 a2 H1 locs1 ls hls a3 a4 a5)
end CallU2
