/-! ===== switches; arguments of one word; the script in the hands of others ===== -/
def SwT (P : Nat → Prop) (a : Int) : Int → List Nat → Prop
  | _, [] => True
  | lo, t :: ts => (a = lo → P t) ∧ SwT P a (lo + 1) ts
theorem SwT_get {P : Nat → Prop} {a : Int} : ∀ {ts : List Nat} {lo : Int}, SwT P a lo ts → ∀ (j t : Nat), ts[j]? = some t → a = lo + j → P t := by
  intro ts
  induction ts with
  | nil => intro lo _ j t h; simp at h
  | cons x ts ih =>
    intro lo h j t hj ha
    cases j with
    | zero => cases hj; exact h.1 (by omega)
    | succ j => exact ih h.2 j t hj (by push_cast at ha; omega)
theorem rk_of {G : GT} {d K N k n : Nat} (hgr : gR G = rmD d K N) (h : k ≤ K ∧ n ≤ N) : k ≤ (gR G).cells ∧ n ≤ (gR G).slots := by rw [hgr]; exact h
section Dyn7
variable {G : GT} {md : Md} {k n : Nat} {X : va_W} {S : Sh} {D M : Mem} {pc : Nat} {lv lv' : List (Nat × Value)} {st : List Value}
theorem V_tswN (h : Cx G md) {dflt lo hi : Int} {offs : Array Int} {len : Nat} {a : Int} (td : Nat) (ts : List Nat) (d : decode md.2.1 pc = .ok (.tableswitch dflt lo hi offs, len)) (hdt : (pc : Int) + dflt = (td : Int)) (hts : offs.toList.map (fun o => (pc : Int) + o) = ts.map (fun t : Nat => (t : Int))) (hlen : (hi - lo).toNat + 1 = ts.length) (ha : inR a) (kd : a < lo ∨ hi < a → V G md k n X M td lv st) (ki : SwT (fun t => V G md k n X M t lv st) a lo ts) : V G md k n X M pc lv (.int (I a) :: st) := by
  have key : ∀ j : Nat, j ≤ (hi - lo).toNat → ∃ off, offs[j]? = some off ∧ ∃ t : Nat, ts[j]? = some t ∧ (pc : Int) + off = t := by
    intro j hj
    have h1 : j < ts.length := by omega
    have h2 : (ts.map (fun t : Nat => (t : Int)))[j]? = some ((ts[j]'h1 : Nat) : Int) := by simp [h1]
    rw [← hts, List.getElem?_map] at h2
    cases ho : offs.toList[j]? with
    | none => rw [ho] at h2; cases h2
    | some off =>
      rw [ho] at h2
      refine ⟨off, by simpa using ho, ts[j]'h1, by simp [h1], ?_⟩
      exact Option.some.inj h2
  refine V_tsw h d ha ⟨fun z t ht => ?_, fun z1 z2 off t ho ht => ?_⟩ ⟨td, hdt⟩ (fun j hj => ?_)
  · have : t = td := by omega
    subst this
    exact kd z
  · obtain ⟨off2, h1, t2, h2, h3⟩ := key (a - lo).toNat (by omega)
    rw [ho] at h1
    cases h1
    have : t = t2 := by omega
    subst this
    exact SwT_get ki (a - lo).toNat t h2 (by omega)
  · obtain ⟨off, h1, t, -, h3⟩ := key j hj
    exact ⟨off, h1, t, h3⟩
/-- arguments of one word each -/
def av1 : Nat → List Value → List (Nat × Value)
  | _, [] => []
  | i, v :: vs => (i, v) :: av1 (i + 1) vs
def C1 : List Value → Prop
  | [] => True
  | v :: vs => v.category = 1 ∧ C1 vs
theorem flt1 {lv : List (Nat × Value)} {j : Nat} (h : C1 (lv.map (fun q => q.2))) : lv.filter (fun q => !(q.1 == j) && !(q.1 + 1 == j && q.2.category == 2)) = lv.filter (fun q => !(q.1 == j)) := by
  induction lv with
  | nil => rfl
  | cons x lv ih =>
    have h1 : x.2.category = 1 ∧ C1 (lv.map (fun q => q.2)) := h
    have h2 : (x.2.category == 2) = false := by rw [h1.1]; rfl
    rw [List.filter_cons, List.filter_cons, ih h1.2, h2]
    simp
theorem st_ok {v : Value} {lv lv' : List (Nat × Value)} {j : Nat} (hc : C1 (lv.map (fun q => q.2))) (h : (j, v) :: lv.filter (fun q => !(q.1 == j)) = lv') : (j, v) :: lv.filter (fun q => !(q.1 == j) && !(q.1 + 1 == j && q.2.category == 2)) = lv' := by rw [flt1 hc]; exact h
theorem c1_sum {st : List Value} (h : C1 st) (hn : st.length ≤ 8) : (st.map fun v => v.category).sum ≤ 8 := by
  have key : ∀ st : List Value, C1 st → (st.map fun v => v.category).sum = st.length := by
    intro st
    induction st with
    | nil => intro _; rfl
    | cons v st ih => intro h; rw [List.map_cons, List.sum_cons, h.1, ih h.2, List.length_cons]; omega
  rw [key st h]
  exact hn
theorem c1_args {vs : List Value} (h : C1 vs) (i : Nat) : lv_args i vs = av1 i vs := by
  induction vs generalizing i with
  | nil => rfl
  | cons v vs ih =>
    show (i, v) :: lv_args (if v.category = 2 then i + 2 else i + 1) vs = (i, v) :: av1 (i + 1) vs
    rw [h.1, if_neg (by decide), ih h.2]
theorem c1_len {vs : List Value} (h : C1 vs) : (lg_sl vs).length = vs.length := by
  induction vs with
  | nil => rfl
  | cons v vs ih =>
    have h1 : lg_sl (v :: vs) = (if v.category = 2 then [.val v, .second] else [.val v]) ++ lg_sl vs := by simp [lg_sl]
    rw [h1, h.1, if_neg (by decide), List.length_append, ih h.2]
    simp [Nat.add_comm]
theorem OkU_c1 {B : WB} {l : Launch} {md : Md} {kc nc na : Nat} {av : List Value} {O : OU} (hmk : MkU md [] na) (hl : l.stackTraces = false) (hc : C1 av) (hlen : av.length ≤ md.2.2.1)
    (body : ∀ G : GT, CtU G md [] S O B l kc nc → SOK S D → V G md 0 0 (dl B S D) M 0 (av1 0 av) []) : OkU B l md [] kc nc av S D M O :=
  OkU_code hmk hl (by rw [c1_len hc]; exact hlen) (fun G h hS => by rw [c1_args hc]; exact body G h hS)
theorem OkU_w1 {B : WB} {l : Launch} {md : Md} {x : Nat × Nat × Nat × Nat} {xs : List (Nat × Nat × Nat × Nat)} {kc nc na : Nat} {av : List Value} {O : OU} (hmk : MkU md (x :: xs) na) (hl : l.stackTraces = false) (hc : C1 av) (hlen : av.length ≤ md.2.2.1)
    (body : ∀ G : GT, CtU G md (x :: xs) S O B l kc nc → SOK S D → V G md 0 0 (dl B S D) M 0 (av1 0 av) []) : OkU B l md (x :: xs) kc nc av S D M O :=
  OkU_with hmk hl (by rw [c1_len hc]; exact hlen) (fun G h hS => by rw [c1_args hc]; exact body G h hS)
theorem OkU_init {B : WB} {l : Launch} {md : Md} {kc nc na : Nat} {av : List Value} {O : OU} (hmk : MkU md [] na) (hnm : md.1.name = "<init>") (hl : l.stackTraces = false) (hc : C1 av) (hlen : av.length ≤ md.2.2.1)
    (body : ∀ G : GT, CtU G md [] S O B l kc nc → InM G → SOK S D → V G md 0 0 (dl B S D) M 0 (av1 0 av) []) : OkU B l md [] kc nc av S D M O := by
  have hlen : (lg_sl av).length ≤ md.2.2.1 := by rw [c1_len hc]; exact hlen
  have body : ∀ G : GT, CtU G md [] S O B l kc nc → InM G → SOK S D → V G md 0 0 (dl B S D) M 0 (lv_args 0 av) [] := fun G h1 h2 h3 => by rw [c1_args hc]; exact body G h1 h2 h3
  intro hM hSO sz
  obtain ⟨y, cc, maxL, ret, dep⟩ := md
  refine vx_ofW (cc := cc) (maxL := maxL) (ret := ret) hmk.1 rfl ?_
  intro p e s m args below meth c s₁ Bd hml hT hv
  obtain ⟨rfl, hsz, hP, hD, hKn⟩ := hv
  subst hsz
  have hts : ∀ w ∈ (Cond.code y cc maxL ret :: wAll), w.before av.toArray s = true := atoms_spec (ws := Cond.code y cc maxL ret :: wAll) Bd.pre
  have hlt : b0 B ≤ s.heap.size := Nat.le_trans (hD.2 0 _ (wl_get (by decide))) (Nat.le_of_lt (hP 0 _ (wl_get (by decide))).lt)
  have hA2 : ∀ q, AA B (dl B S zD) s.heap.size q → b0 B ≤ q := by
    rw [AA_dl B S zD D]
    exact AA_of hD (fun q h => Nat.le_trans hlt h)
  have h1 := body (p, l, e, rmD dep kc nc, s, m, av.toArray, below, meth, c, B, AA B (dl B S zD) s.heap.size, vx_MQ below (QcU B S O s.heap.size) NoXU av.toArray s kc nc (AA B (dl B S zD) s.heap.size))
    ⟨⟨Bd.exec, Bd.bytes, hml, findClass_of_methodNamed Bd.named, fun w hw => hts w (List.mem_cons_of_mem _ hw), hKn, Bd.notSynchronized, hl, fun q h => Or.inr (Or.inr h), hA2, Bd.returns⟩,
    ⟨rfl, rfl, by cases hct : c.exceptionTable.toList with | nil => rfl | cons x xs => exact (hT x (by rw [hct]; exact List.mem_cons_self)).elim⟩, rfl, rfl, rfl⟩ ((name_of_methodNamed Bd.named Bd.method).1.trans hnm) hSO hM s.heap [] _ (lv_entry av hlen) hP (va_D.weaken hD (fun k q hk _ => by rw [AA_dl B S zD D]; exact AA_in k q hk)) va_S.rf
  rw [lg_entry_eq]
  exact h1
/-- the script, in a walk's hands -/
def Sx (G : GT) (b L : Nat) (xs : Nat → Int32) : Prop :=
  match G with
  | (_, _, _, _, s, _, _, _, _, _, B, A, _) => va_X b L xs s s.heap ∧ b < s.heap.size ∧ ¬ A b ∧ b < b0 B ∧ L ≤ 260
theorem V_sldX (h : Cx G md) {b L : Nat} {xs : Nat → Int32} (hz : Sx G b L xs) {i : Int} (hi : 0 ≤ i ∧ i < L) (d : decode md.2.1 pc = .ok (.iaload, 1)) (kk : inR ((xs i.toNat).toInt) → V G md k n X M (pc + 1) lv (.int (I ((xs i.toNat).toInt)) :: st)) : V G md k n X M pc lv (.int (I i) :: .ref b :: st) := by
  obtain ⟨p, l, e, R, s, m, args, below, meth, c, B, A, Z⟩ := G
  obtain ⟨hx, hb, hml, hown, hts, hKn, hlk, hfl, hA1, hA2, hret⟩ := h
  obtain ⟨hX, hbl, hbA, -, hL⟩ := hz
  intro hM H locs ls hl hP hD hS
  refine va_sld hx hb hX hbl hbA hS (I_in hi.1 hi.2 (by omega)) d ?_
  rw [I_cl hi.1 (by omega)]
  have h1 := kk (inR_of _) hM H locs ls hl hP hD hS
  rwa [I_of] at h1
theorem V_slenX (h : Cx G md) {b L : Nat} {xs : Nat → Int32} (hz : Sx G b L xs) (d : decode md.2.1 pc = .ok (.arraylength, 1)) (kk : V G md k n X M (pc + 1) lv (.int (I (L : Int)) :: st)) : V G md k n X M pc lv (.ref b :: st) := by
  obtain ⟨p, l, e, R, s, m, args, below, meth, c, B, A, Z⟩ := G
  obtain ⟨hx, hb, hml, hown, hts, hKn, hlk, hfl, hA1, hA2, hret⟩ := h
  obtain ⟨hX, hbl, hbA, -, hL⟩ := hz
  intro hM H locs ls hl hP hD hS
  refine va_slen hx hb hX hbl hbA hS d ?_
  rw [I_nat]
  exact kk hM H locs ls hl hP hD hS
def PcX (B : WB) (X : va_W) (M : Mem) (sz : Nat) (av : List Value) (b L : Nat) (xs : Nat → Int32) : Array Value → State → Prop := va_Pc av (fun U => (U.heap.size = sz ∧ Wd B X M U) ∧ va_X b L xs U U.heap ∧ b < b0 B ∧ L ≤ 260)
theorem PcX_blind {B : WB} {sz : Nat} {av : List Value} {b L : Nat} {xs : Nat → Int32} : FrameBlind (PcX B X M sz av b L xs) := by
  intro a U g mk ⟨h1, ⟨h2, h3, h4, h5⟩, h6, h7⟩
  exact ⟨h1, ⟨h2, h3, h4, Kn_blind (U := U) (V := U.calling g mk a) rfl rfl h5⟩, h6, h7⟩
def OkX (B : WB) (l : Launch) (b L : Nat) (xs : Nat → Int32) (md : Md) (kc nc : Nat) (av : List Value) (S : Sh) (D M : Mem) (O : OU) : Prop :=
  MOK M → SOK S D → ∀ sz : Nat, vx_Met l md.1 (.code md.1 md.2.1 md.2.2.1 md.2.2.2.1 :: wAll) (rmD md.2.2.2.2 kc nc) (PcX B (dl B S D) M sz av b L xs) (QcU B S O sz) NoXU kc nc (AA B (dl B S zD) sz)
theorem OkX_code {B : WB} {l : Launch} {b L : Nat} {xs : Nat → Int32} {md : Md} {kc nc na : Nat} {av : List Value} {O : OU} (hmk : MkU md [] na) (hl : l.stackTraces = false) (hc : C1 av) (hlen : av.length ≤ md.2.2.1)
    (body : ∀ G : GT, CtU G md [] S O B l kc nc → Sx G b L xs → SOK S D → V G md 0 0 (dl B S D) M 0 (av1 0 av) []) : OkX B l b L xs md kc nc av S D M O := by
  have hlen : (lg_sl av).length ≤ md.2.2.1 := by rw [c1_len hc]; exact hlen
  have body : ∀ G : GT, CtU G md [] S O B l kc nc → Sx G b L xs → SOK S D → V G md 0 0 (dl B S D) M 0 (lv_args 0 av) [] := fun G h1 h2 h3 => by rw [c1_args hc]; exact body G h1 h2 h3
  intro hM hSO sz
  obtain ⟨y, cc, maxL, ret, dep⟩ := md
  refine vx_ofW (cc := cc) (maxL := maxL) (ret := ret) hmk.1 rfl ?_
  intro p e s m args below meth c s₁ Bd hml hT hv
  obtain ⟨rfl, ⟨hsz, hP, hD, hKn⟩, hX, hbb, hL⟩ := hv
  subst hsz
  have hts : ∀ w ∈ (Cond.code y cc maxL ret :: wAll), w.before av.toArray s = true := atoms_spec (ws := Cond.code y cc maxL ret :: wAll) Bd.pre
  have hlt : b0 B ≤ s.heap.size := Nat.le_trans (hD.2 0 _ (wl_get (by decide))) (Nat.le_of_lt (hP 0 _ (wl_get (by decide))).lt)
  have hA2 : ∀ q, AA B (dl B S zD) s.heap.size q → b0 B ≤ q := by
    rw [AA_dl B S zD D]
    exact AA_of hD (fun q h => Nat.le_trans hlt h)
  have h1 := body (p, l, e, rmD dep kc nc, s, m, av.toArray, below, meth, c, B, AA B (dl B S zD) s.heap.size, vx_MQ below (QcU B S O s.heap.size) NoXU av.toArray s kc nc (AA B (dl B S zD) s.heap.size))
    ⟨⟨Bd.exec, Bd.bytes, hml, findClass_of_methodNamed Bd.named, fun w hw => hts w (List.mem_cons_of_mem _ hw), hKn, Bd.notSynchronized, hl, fun q h => Or.inr (Or.inr h), hA2, Bd.returns⟩,
    ⟨rfl, rfl, by cases hct : c.exceptionTable.toList with | nil => rfl | cons x xs => exact (hT x (by rw [hct]; exact List.mem_cons_self)).elim⟩, rfl, rfl, rfl⟩ ⟨hX, Nat.lt_of_lt_of_le hbb hlt, fun z => absurd (hA2 b z) (Nat.not_le.mpr hbb), hbb, hL⟩ hSO hM s.heap [] _ (lv_entry av hlen) hP (va_D.weaken hD (fun k q hk _ => by rw [AA_dl B S zD D]; exact AA_in k q hk)) va_S.rf
  rw [lg_entry_eq]
  exact h1
theorem V_uSX (h : Cx G md) {b L : Nat} {xs : Nat → Int32} (hz : Sx G b L xs) {cd : Md} {na idx d0 kc nc : Nat} {As : List Value} {O : OU} (hl : Ls md.1.cls idx cd na) (hd : decode md.2.1 pc = .ok (.invokestatic idx, 3)) (hdep : cd.2.2.2.2 < d0) (hrm : Rm G d0) (hn : As.length = na) (hst : (st.map fun v => v.category).sum ≤ 8) (hk : k + kc ≤ (gR G).cells ∧ n + nc ≤ (gR G).slots) (hS : SOK S D)
    (kk : OkX (gB G) (gl G) b L xs cd kc nc As S D M O) (kv : ∀ v S1 D1 M1, O v S1 D1 M1 → Xs S S1 → SOK S1 D1 → V G md (k + kc) (n + nc) (dl (gB G) S1 D1) M1 (pc + 3) lv (v.toList ++ st)) : V G md k n (dl (gB G) S D) M pc lv (As.reverse ++ st) := by
  obtain ⟨p, l, e, R, s, m, args, below, meth, c, B, A, Z⟩ := G
  obtain ⟨hx, hb, hml, hown, hts, hKn, hlk, hfl, hA1, hA2, hret⟩ := h
  obtain ⟨hmk, hlink, hstat⟩ := hl
  obtain ⟨hX, hbl, hbA, hbb, hL⟩ := hz
  intro hM H locs ls hls hP hD hSS
  have hpre : FrameBlind (PcX B (dl B S D) M H.size As b L xs) ∧ ∀ U : State, U.heap = H → s.WarmedH U.vm → PcX B (dl B S D) M H.size As b L xs As.toArray U := by
    refine ⟨PcX_blind, fun U hU hW => ⟨rfl, ⟨by rw [hU], Wd_of hP hD hSS hA2 hKn hU hW⟩, ?_, hbb, hL⟩⟩
    obtain ⟨scr, g1, g2, g3⟩ := hX
    refine ⟨scr, by rw [hU, hSS.2.1 b hbl hbA]; exact g1, State.isArrayOf_alike hW.alike g2, g3⟩
  have hMet : Met l cd.1 (.code cd.1 cd.2.1 cd.2.2.1 cd.2.2.2.1 :: wAll) (rmD cd.2.2.2.2 kc nc) (PcX B (dl B S D) M H.size As b L xs) (QcU B S O H.size) kc nc (AA B (dl B S zD) H.size) := by
    refine MetFree.mono (kk hM hS H.size) (fun _ _ h => h) (fun _ _ _ _ _ h => h) ?_
    rintro a st o t _ (h | ⟨q, e1, E, ce, L, hf, x4⟩)
    · exact h
    · exact hf.elim
  have hrun : va_Run p l e R s m args below meth c H locs k n kc nc (F0 m pc ls (As.reverse ++ st)) st (QcU B S O H.size As.toArray) (AA B (dl B S zD) H.size) := by
    rcases hlink with hlink | ⟨host, hlink⟩
    · exact va_runS (As := As) (rest := st) ⟨hx, hb, hml, hown, hts⟩ hMet ⟨CallB_md hmk hts (hts _ hlink) hrm hdep, hts _ hstat⟩ hpre rfl hn hls.1 rfl (lv_room hst) hd hk
    · exact va_runSN (As := As) (rest := st) ⟨hx, hb, hml, hown, hts⟩ hMet ⟨CallN_md hmk hts (hKn.2.1 _ hlink) hrm hdep, hts _ hstat, trivial⟩ hpre rfl hn hls.1 rfl (lv_room hst) hd hk
  exact after_retU hD hSS hA1 hrun (fun v S1 D1 M1 H1 locs1 a1 a0 a2 a6 a3 a4 a5 => kv v S1 D1 M1 a1 a0 a6 a2 H1 locs1 ls hls a3 a4 a5)
end Dyn7
