/-! ===== CORE: the fixed objects of class and reference, numbered in the order in which the constructors make them; their numbers as a memory of whole numbers ===== -/
abbrev Mem : Type := Nat → Nat → Int
abbrev inR (a : Int) : Prop := -2147483648 ≤ a ∧ a < 2147483648
def MOK (M : Mem) : Prop := ∀ o k, o < 72 → inR (M o k)
abbrev I (a : Int) : Int32 := Int32.ofInt a
def up (M : Mem) (o k : Nat) (v : Int) : Mem := fun o' k' => if o' = o ∧ k' = k then v else M o' k'
theorem up_s (M : Mem) (o k : Nat) (v : Int) : up M o k v o k = v := by simp [up]
theorem up_o {M : Mem} {o k o' k' : Nat} {v : Int} (h : o' ≠ o) : up M o k v o' k' = M o' k' := by simp [up, h]
theorem up_k {M : Mem} {o k o' k' : Nat} {v : Int} (h : k' ≠ k) : up M o k v o' k' = M o' k' := by simp [up, h]
theorem mok_up {M : Mem} (h : MOK M) {o k : Nat} {v : Int} (hv : inR v) : MOK (up M o k v) := by
  intro o' k' ho'
  unfold up
  split
  · exact hv
  · exact h o' k' ho'
theorem I_add (a b : Int) : I a + I b = I (a + b) := (Int32.ofInt_add a b).symm
theorem I_sub (a b : Int) : I a - I b = I (a - b) := (Int32.ofInt_sub a b).symm
theorem I_mul (a b : Int) : I a * I b = I (a * b) := (Int32.ofInt_mul a b).symm
theorem I_neg (a : Int) : -I a = I (-a) := (Int32.ofInt_neg a).symm
theorem I_toInt {a : Int} (h : inR a) : (I a).toInt = a := by
  rw [Int32.toInt_ofInt]
  exact Jvm.LawKit.bmod32 (by omega) (by omega)
theorem I_of (x : Int32) : I x.toInt = x := Int32.ofInt_toInt x
theorem inR_of (x : Int32) : inR x.toInt := ⟨by have := x.le_toInt; omega, by have := x.toInt_lt; omega⟩
theorem I_lt {a b : Int} (ha : inR a) (hb : inR b) : I a < I b ↔ a < b := by rw [Int32.lt_iff_toInt_lt, I_toInt ha, I_toInt hb]
theorem I_le {a b : Int} (ha : inR a) (hb : inR b) : I a ≤ I b ↔ a ≤ b := by rw [Int32.le_iff_toInt_le, I_toInt ha, I_toInt hb]
theorem I_eq {a b : Int} (ha : inR a) (hb : inR b) : I a = I b ↔ a = b := by rw [← Int32.toInt_inj, I_toInt ha, I_toInt hb]
theorem I_cl {a : Int} (h0 : 0 ≤ a) (h : a < 2147483648) : (I a).toNatClampNeg = a.toNat := by
  show (I a).toInt.toNat = a.toNat
  rw [I_toInt ⟨by omega, h⟩]
theorem I_in {a : Int} {n : Nat} (h0 : 0 ≤ a) (h : a < n) (hn : n < 2147483648) : vp_in (I a) n := by
  rw [vp_in_iff, I_toInt ⟨by omega, by omega⟩]
  exact ⟨h0, h⟩
theorem I_zero : I 0 = 0 := rfl
def N0 : Nat := 72
def shT : List (Nat × Nat) := [(11, 9), (4, 5), (100, 12), (100, 12), (100, 12), (101, 12), (10, 20), (100, 208), (100, 208), (100, 208), (100, 208), (100, 208), (100, 208), (100, 208), (101, 208), (101, 208), (101, 208), (101, 208), (100, 1664), (100, 208), (100, 208), (8, 6), (100, 64), (100, 8), (100, 8), (5, 2), (100, 208), (5, 2), (100, 208), (7, 2), (100, 208), (6, 8), (100, 1664), (0, 4), (101, 208), (100, 208), (0, 4), (101, 208), (100, 208), (1, 9), (0, 4), (101, 208), (100, 208), (0, 4), (101, 208), (100, 208), (2, 5), (0, 4), (101, 208), (100, 208), (100, 208), (3, 9), (100, 400), (0, 4), (101, 208), (100, 208), (100, 208), (100, 400), (9, 8), (0, 4), (101, 208), (100, 208), (0, 4), (101, 208), (100, 208), (0, 4), (101, 208), (100, 208), (100, 208), (0, 4), (101, 208), (100, 208)]
def rfT : List (List Nat) := [[1, 6, 21, 29, 31, 39, 46, 51, 58], [2, 3, 4, 5], [], [], [], [], [1, 7, 8, 9, 10, 11, 12, 13, 14, 15, 16, 17, 18, 19, 20], [], [], [], [], [], [], [], [], [], [], [], [], [], [], [22, 23, 24, 25, 27], [], [], [], [26], [], [28], [], [6, 30], [], [6, 21, 29, 32, 33, 36], [], [34, 35], [], [], [37, 38], [], [], [6, 21, 29, 31, 40, 43], [41, 42], [], [], [44, 45], [], [], [6, 29, 39, 47, 50], [48, 49], [], [], [], [6, 29, 39, 31, 52, 0, 53, 56, 57], [], [54, 55], [], [], [], [], [6, 21, 29, 59, 62, 65, 68, 69], [60, 61], [], [], [63, 64], [], [], [66, 67], [], [], [], [70, 71], [], []]
def sh (o : Nat) : Nat := (shT.getD o (999, 0)).1
def ln (o : Nat) : Nat := (shT.getD o (999, 0)).2
def R0 (o k : Nat) : Nat := (rfT.getD o []).getD k 0
/-- what the machine's part of a walk fixes: classes and slots, the array classes of int, boolean, Thing, Thing[] and int[], where the fixed objects lie, where the law began -/
abbrev WB : Type := va_G × ClassId × ClassId × (ClassId × ClassId × ClassId) × (Nat → Nat) × Nat
abbrev ad (B : WB) : Nat → Nat := B.2.2.2.2.1
abbrev b0 (B : WB) : Nat := B.2.2.2.2.2
def fld (B : WB) (M : Mem) (o k : Nat) : Value := if R0 o k = 0 then .int (I (M o k)) else .ref (ad B (R0 o k))
def ent (B : WB) (M : Mem) (o : Nat) : va_E :=
  if sh o < 100 then .inr (sh o, (List.range (ln o)).map (fld B M o))
  else .inl (if sh o = 101 then B.2.2.1 else B.2.1, ln o, .inl (fun j => I (M o j)))
def wl (B : WB) (M : Mem) : va_W := (List.range N0).map (fun o => (ad B o, ent B M o))
theorem wl_len (B : WB) (M : Mem) : (wl B M).length = N0 := by simp [wl]
theorem wl_get {B : WB} {M : Mem} {X : va_W} {o : Nat} (h : o < N0) : (wl B M ++ X)[o]? = some (ad B o, ent B M o) := by
  rw [List.getElem?_append_left (by rw [wl_len]; exact h)]
  simp [wl, h]
theorem ent_obj {B : WB} {M : Mem} {o : Nat} (h : sh o < 100) : ent B M o = .inr (sh o, (List.range (ln o)).map (fld B M o)) := by simp [ent, h]
theorem ent_int {B : WB} {M : Mem} {o : Nat} (h : sh o = 100) : ent B M o = .inl (B.2.1, ln o, .inl (fun j => I (M o j))) := by simp [ent, h]
theorem ent_bool {B : WB} {M : Mem} {o : Nat} (h : sh o = 101) : ent B M o = .inl (B.2.2.1, ln o, .inl (fun j => I (M o j))) := by simp [ent, h]
theorem ent_cong {B : WB} {M M' : Mem} {o : Nat} (h : ∀ k, M' o k = M o k) : ent B M' o = ent B M o := by
  have hf : fld B M' o = fld B M o := by funext k; simp [fld, h]
  simp only [ent, hf, h]
theorem wl_set {B : WB} {M M' : Mem} {X : va_W} {o : Nat} (h : o < N0) (hne : ∀ o', o' ≠ o → ∀ k, M' o' k = M o' k) : (wl B M ++ X).set o (ad B o, ent B M' o) = wl B M' ++ X := by
  apply List.ext_getElem?
  intro i
  by_cases hi : i < N0
  · by_cases hio : i = o
    · subst hio
      rw [List.getElem?_set_self (by rw [List.length_append, wl_len]; omega), wl_get hi]
    · rw [List.getElem?_set_ne (Ne.symm hio), wl_get hi, wl_get hi, ent_cong (hne i hio)]
  · rw [List.getElem?_set_ne (by omega), List.getElem?_append_right (by rw [wl_len]; omega), List.getElem?_append_right (by rw [wl_len]; omega), wl_len, wl_len]
theorem wl_addr {B : WB} {M M' : Mem} {X : va_W} {A : Nat → Prop} (h : va_D A (wl B M ++ X)) : va_D A (wl B M' ++ X) := by
  have key : ∀ (k : Nat) (q : Nat × va_E), (wl B M' ++ X)[k]? = some q → ∃ q0, (wl B M ++ X)[k]? = some q0 ∧ q0.1 = q.1 := by
    intro k q hk
    by_cases hi : k < N0
    · rw [wl_get hi] at hk
      cases hk
      exact ⟨_, wl_get hi, rfl⟩
    · rw [List.getElem?_append_right (by rw [wl_len]; omega), wl_len] at hk
      exact ⟨q, by rw [List.getElem?_append_right (by rw [wl_len]; omega), wl_len]; exact hk, rfl⟩
  refine ⟨fun i j x y hi hj hxy => ?_, fun k q hk => ?_⟩
  · obtain ⟨x0, h1, h2⟩ := key i x hi
    obtain ⟨y0, h3, h4⟩ := key j y hj
    exact h.1 i j x0 y0 h1 h3 (h2.trans (hxy.trans h4.symm))
  · obtain ⟨q0, h1, h2⟩ := key k q hk
    rw [← h2]
    exact h.2 k q0 h1
theorem fs_get {B : WB} {M : Mem} {o k : Nat} (hk : k < ln o) : ((List.range (ln o)).map (fld B M o))[k]? = some (fld B M o k) := by simp [hk]
theorem fs_set {B : WB} {M : Mem} {o k : Nat} {v : Int} (hr : R0 o k = 0) : ((List.range (ln o)).map (fld B M o)).set k (.int (I v)) = (List.range (ln o)).map (fld B (up M o k v) o) := by
  apply List.ext_getElem?
  intro i
  by_cases hi : i < ln o
  · by_cases hik : i = k
    · subst hik
      rw [List.getElem?_set_self (by simpa using hi)]
      simp [hi, fld, hr, up]
    · rw [List.getElem?_set_ne (Ne.symm hik)]
      simp [hi, fld, up, hik]
  · rw [List.getElem?_eq_none (by simp; omega), List.getElem?_eq_none (by simp; omega)]
theorem lay_ok : ∀ o, o < N0 → sh o < 100 → ∃ q, vwCl[sh o]? = some q ∧ q.2.2 = ln o := by
  have h : (List.range N0).all (fun o => !decide (sh o < 100) || (match vwCl[sh o]? with | some q => decide (q.2.2 = ln o) | none => false)) = true := by decide +kernel
  intro o ho hs
  have h1 := List.all_eq_true.mp h o (List.mem_range.mpr ho)
  simp only [hs, decide_true, Bool.not_true, Bool.false_or] at h1
  cases hq : vwCl[sh o]? with
  | none => rw [hq] at h1; cases h1
  | some q => rw [hq] at h1; exact ⟨q, rfl, by simpa using h1⟩
/-! ===== WORDS ===== -/
def wAll : List Cond := lw_tbl.filter goodWord
theorem wa {w : Cond} (i : Nat) (h : lw_tbl[i]? = some w) (g : goodWord w = true) : w ∈ wAll := List.mem_filter.mpr ⟨List.mem_of_getElem? h, g⟩
theorem wa_list {ws : List Cond} (ps : List Nat) (h : ws = ps.filterMap (fun i => lw_tbl[i]?)) (g : ws.all goodWord = true) : ∀ w ∈ ws, w ∈ wAll := by
  intro w hw
  have h1 := List.all_eq_true.mp g w hw
  rw [h] at hw
  obtain ⟨i, -, hi⟩ := List.mem_filterMap.mp hw
  exact wa i hi h1
theorem wa_good : GoodIn wAll wAll := fun w hw => ⟨hw, good_of_word (List.mem_filter.mp hw).2⟩
/-- a word that names a nest host -/
def isNest : Cond → Bool
  | .fieldLinkNest .. => true
  | .methodLinkNest .. => true
  | .castable .. => true
  | .declares .. => true
  | _ => false
def nestW : List Cond := lw_tbl.filter isNest
theorem wn {w : Cond} (i : Nat) (h : lw_tbl[i]? = some w) (g : isNest w = true) : w ∈ nestW := List.mem_filter.mpr ⟨List.mem_of_getElem? h, g⟩
theorem nest_warm {w : Cond} (hw : w ∈ nestW) {s U : State} (hW : s.WarmedH U.vm) (h : va_Nw w s) : va_Nw w U := by
  have h1 := (List.mem_filter.mp hw).2
  cases w <;> first | exact va_Nw.warmF hW h | exact va_Nw.warmM hW h | exact va_Nw.warmC hW h | exact va_Nw.warmD hW h | cases h1
theorem nest_tab {w : Cond} (hw : w ∈ nestW) : w.onTables = true := by
  have h1 := (List.mem_filter.mp hw).2
  cases w <;> first | rfl | cases h1
/-- the text constants of the class, and the messages that it throws with -/
def isStr : Cond → Bool
  | .stringRef .. => true
  | _ => false
/-! ===== WHAT IS KNOWN OF A STATE ===== -/
/-- the words of rows of rows -/
def AoA (t : FieldType) (U : State) : Prop := (Cond.arrayOver (.array t)).before #[] U = true
theorem AoA.moved {t : FieldType} {u U : State} (hvm : u.vm.Alike U.vm) (h : AoA t u) : AoA t U := by
  obtain ⟨comp, c, k, h1, h2, h3, h4, h5⟩ := arrayOverA_spec h
  obtain ⟨k', hk', he⟩ := hvm.2.2 _ _ h3
  have hi : (U.vm.classes.findIdx? fun (x : Class) => match x.kind with | .array component _ => component == comp | _ => false) = some c := by
    rw [hvm.findIdx?_eq _ (fun _ => rfl)]
    exact h2
  have hkind : k'.kind = .array comp (.array t) := by rw [he]; exact h4
  have f1 : U.vm.findClass (FieldType.array t).toString = some comp := by rw [hvm.findClass]; exact h1
  have f2 : U.vm.findClass ("[" ++ (FieldType.array t).toString) = some c := by rw [hvm.findClass]; exact h5
  unfold AoA Cond.before Cond.holds
  simp only [Cond.value]
  rw [f1, Option.bind_some]
  refine (congrArg (fun o : Option Nat => (o.bind (fun c => (U.vm.classes[c]?).map fun (k : Class) => match k.kind with | .array _ ty => decide (ty = FieldType.array t) && decide (U.vm.findClass ("[" ++ (FieldType.array t).toString) = some c) | _ => false) == some true)) hi).trans ?_
  simp [hk', hkind, f2]
def AoW (U : State) : Prop := va_AO "RuntimeHeapLaw$Thing" U ∧ AoA (.object "RuntimeHeapLaw$Thing") U ∧ AoA .int U
theorem AoW.moved {u U : State} (hvm : u.vm.Alike U.vm) (h : AoW u) : AoW U := ⟨h.1.moved hvm, h.2.1.moved hvm, h.2.2.moved hvm⟩
def Kn (B : WB) (U : State) : Prop :=
  va_K B.1 vwCl [(B.2.1, .int), (B.2.2.1, .boolean), (B.2.2.2.1.1, .object "RuntimeHeapLaw$Thing"), (B.2.2.2.1.2.1, .array (.object "RuntimeHeapLaw$Thing")), (B.2.2.2.1.2.2, .array .int)] U ∧ (∀ w ∈ nestW, va_Nw w U) ∧
  vx_Zq Bundle.tN "UNASSIGNED_STACK" Bundle.steD (fun q => b0 B ≤ q) U U.heap ∧ vx_Zq Bundle.tN "SUPPRESSED_SENTINEL" Bundle.listD (fun q => b0 B ≤ q) U U.heap ∧
  (∀ (own tx : String) (k : Nat), Cond.stringRef own k tx ∈ lw_tbl → ∃ sa : Nat, vk_R own k tx sa U) ∧
  va_Nc "java/lang/IllegalArgumentException" "java/lang/IndexOutOfBoundsException" U ∧ va_Nc "java/lang/IllegalStateException" "java/lang/IndexOutOfBoundsException" U ∧ va_Nc "java/lang/IllegalStateException" "java/lang/IllegalArgumentException" U ∧ AoW U
theorem Kn_moved {B : WB} {s U : State} (hW : s.WarmedH U.vm) (hh : ∀ q : Nat, q < s.heap.size → ¬ b0 B ≤ q → U.heap[q]? = s.heap[q]?) (h : Kn B s) : Kn B U := by
  obtain ⟨h1, h2, h3, h4, h5, h6, h7, h8, h9⟩ := h
  refine ⟨va_K.moved hW.alike h1, fun w hw => nest_warm hw hW (h2 w hw), vx_Zq.moved hW.alike (h3.kept hh), vx_Zq.moved hW.alike (h4.kept hh), fun own tx k hk => ?_, h6.moved hW.alike, h7.moved hW.alike, h8.moved hW.alike, h9.moved hW.alike⟩
  obtain ⟨sa, h⟩ := h5 own tx k hk
  exact ⟨sa, vk_R.warm hW h⟩
theorem Kn_blind {B : WB} {U V : State} (hv : V.vm = U.vm) (hh : V.heap = U.heap) (h : Kn B U) : Kn B V := by
  have hal : U.vm.Alike V.vm := by rw [hv]; exact Vm.Alike.refl U.vm
  obtain ⟨h1, h2, h3, h4, h5, h6, h7, h8, h9⟩ := h
  refine ⟨va_K.moved hal h1, fun w hw => va_Nw.same (nest_tab hw) hv.symm (h2 w hw), by rw [hh]; exact vx_Zq.moved hal h3, by rw [hh]; exact vx_Zq.moved hal h4, fun own tx k hk => ?_, h6.moved hal, h7.moved hal, h8.moved hal, h9.moved hal⟩
  obtain ⟨sa, h⟩ := h5 own tx k hk
  exact ⟨sa, vk_R.same hv h⟩
/-- the world of a call: the fixed objects with the memory M, other cells X beside them -/
def Wd (B : WB) (X : va_W) (M : Mem) (U : State) : Prop := va_P B.1 vwCl (wl B M ++ X) U.heap ∧ va_D (fun q => b0 B ≤ q) (wl B M ++ X) ∧ Kn B U
def AA (B : WB) (X : va_W) (sz : Nat) : Nat → Prop := fun q => (∃ o, o < N0 ∧ q = ad B o) ∨ (∃ x ∈ X, q = x.1) ∨ sz ≤ q
theorem AA_in {B : WB} {X : va_W} {sz : Nat} {M : Mem} : ∀ (k : Nat) (q : Nat × va_E), (wl B M ++ X)[k]? = some q → AA B X sz q.1 := by
  intro k q hk
  rcases List.mem_append.mp (List.mem_of_getElem? hk) with h | h
  · obtain ⟨o, ho, rfl⟩ := List.mem_map.mp h
    exact Or.inl ⟨o, List.mem_range.mp ho, rfl⟩
  · exact Or.inr (Or.inl ⟨q, h, rfl⟩)
theorem AA_of {B : WB} {X : va_W} {sz : Nat} {M : Mem} {A : Nat → Prop} (h : va_D A (wl B M ++ X)) (hs : ∀ q, sz ≤ q → A q) : ∀ q, AA B X sz q → A q := by
  rintro q (⟨o, ho, rfl⟩ | ⟨x, hx, rfl⟩ | hq)
  · exact h.2 o _ (wl_get ho)
  · obtain ⟨i, hi⟩ := List.getElem?_of_mem hx
    have h1 : (wl B M ++ X)[N0 + i]? = some x := by
      rw [List.getElem?_append_right (by rw [wl_len]; omega), wl_len, Nat.add_sub_cancel_left]
      exact hi
    exact h.2 _ _ h1
  · exact hs q hq
/-! ===== METHODS AND THEIR CONTRACTS: name, code, locals, answer, depth ===== -/
abbrev Md : Type := MethodName × ByteArray × Nat × Option FieldType × Nat
abbrev Out : Type := Option Value ⊕ String
def rmD (d k n : Nat) : Room := { frames := d + 8, cells := k, slots := n, locals := 80 * d + 200 }
def QcO (B : WB) (X : va_W) (O : Out → Mem → Prop) (sz : Nat) : Array Value → State → Outcome → State → Prop := fun _ st o t => ∃ (v : Option Value) (M : Mem), o = .returned v ∧ O (.inl v) M ∧ MOK M ∧ va_P B.1 vwCl (wl B M ++ X) t.heap ∧ va_F (AA B X sz) st t
def XcO (B : WB) (X : va_W) (O : Out → Mem → Prop) (sz : Nat) : String → State → State → Prop := fun E st t => ∃ M : Mem, O (.inr E) M ∧ MOK M ∧ va_P B.1 vwCl (wl B M ++ X) t.heap ∧ va_F (AA B X sz) st t
def PcO (B : WB) (X : va_W) (M : Mem) (sz : Nat) (av : List Value) : Array Value → State → Prop := va_Pc av (fun U => U.heap.size = sz ∧ Wd B X M U)
def Ok (B : WB) (l : Launch) (md : Md) (k n : Nat) (av : List Value) (X : va_W) (M : Mem) (O : Out → Mem → Prop) : Prop :=
  MOK M → ∀ sz : Nat, vx_Met l md.1 (.code md.1 md.2.1 md.2.2.1 md.2.2.2.1 :: wAll) (rmD md.2.2.2.2 k n) (PcO B X M sz av) (QcO B X O sz) (XcO B X O sz) k n (AA B X sz)
theorem PcO_blind {B : WB} {X : va_W} {M : Mem} {sz : Nat} {av : List Value} : FrameBlind (PcO B X M sz av) := by
  intro a U g mk ⟨h1, h2, h3, h4, h5⟩
  exact ⟨h1, h2, h3, h4, Kn_blind (U := U) (V := U.calling g mk a) rfl rfl h5⟩
theorem Ok_mono {B : WB} {l : Launch} {md : Md} {k n : Nat} {av : List Value} {X : va_W} {M : Mem} {O O' : Out → Mem → Prop} (h : Ok B l md k n av X M O) (hO : ∀ o M', MOK M' → O o M' → O' o M') : Ok B l md k n av X M O' := by
  intro hM sz
  refine MetFree.mono (h hM sz) (fun _ _ h => h) (fun _ _ _ _ _ h => h) ?_
  rintro a st o t _ (⟨⟨v, M', e1, e2, e3, e4⟩, hL⟩ | ⟨q, e1, E, ce, L, ⟨M', x1, x2, x3⟩, x4⟩)
  · exact Or.inl ⟨⟨v, M', e1, hO _ _ e3 e2, e3, e4⟩, hL⟩
  · exact Or.inr ⟨q, e1, E, ce, L, ⟨M', hO _ _ x2 x1, x2, x3⟩, x4⟩
theorem Ok_met {B : WB} {l : Launch} {md : Md} {k n : Nat} {av : List Value} {X : va_W} {M : Mem} {O : Out → Mem → Prop} (h : Ok B l md k n av X M O) (hO : ∀ E M', ¬ O (.inr E) M') (hM : MOK M) (sz : Nat) :
    Met l md.1 (.code md.1 md.2.1 md.2.2.1 md.2.2.2.1 :: wAll) (rmD md.2.2.2.2 k n) (PcO B X M sz av) (QcO B X O sz) k n (AA B X sz) := by
  refine MetFree.mono (h hM sz) (fun _ _ h => h) (fun _ _ _ _ _ h => h) ?_
  rintro a st o t _ (h | ⟨q, e1, E, ce, L, ⟨M', x1, x2, x3⟩, x4⟩)
  · exact h
  · exact absurd x1 (hO E M')
/-- what a method's descriptor has to be -/
def Mk (md : Md) (n : Nat) : Prop := plainName md.1.cls = true ∧ Cond.code md.1 md.2.1 md.2.2.1 md.2.2.2.1 ∈ wAll ∧ Cond.initialized md.1.cls ∈ wAll ∧ (md.1.cls ≠ "java/lang/invoke/MethodHandle" ∧ md.1.cls ≠ "java/lang/invoke/VarHandle" ∧ (parseMethodDescriptor md.1.desc).map (fun d => d.parameters.length) = some n) ∧ md.2.2.1 ≤ 61
def Lv (own : String) (idx : Nat) (md : Md) (n : Nat) : Prop := Mk md n ∧ (Cond.methodLink own idx md.1 ∈ wAll ∨ ∃ host, Cond.methodLinkNest own idx md.1 host ∈ nestW) ∧ Cond.instanceMethod md.1 ∈ wAll ∧ Cond.selects md.1.cls md.1 md.1 ∈ wAll
def Ls (own : String) (idx : Nat) (md : Md) (n : Nat) : Prop := Mk md n ∧ (Cond.methodLink own idx md.1 ∈ wAll ∨ ∃ host, Cond.methodLinkNest own idx md.1 host ∈ nestW) ∧ Cond.static md.1 ∈ wAll
/-- a field's link: the class ci of vwCl, its field k, its descriptor -/
def Fk (own : String) (idx ci k : Nat) (dsc : String) : Prop := ∃ (C : String) (T : u_T) (N : Nat) (ty : Nat → FieldType), vwCl[ci]? = some (C, T, N) ∧ k < N ∧ (T k).2.2.1 = dsc ∧ (∀ w ∈ u_ws C T N, w ∈ wAll) ∧ (∀ k, k < N → parseFieldDescriptor (T k).2.2.1 = some (ty k)) ∧ (∀ a, a < N → ∀ b, b < N → a ≠ b → (T a).2.1 ≠ (T b).2.1) ∧ (T k).2.2.2 = false ∧
  (Cond.fieldLink own idx (T k).1 (T k).2.1 (T k).2.2.1 ∈ wAll ∨ ∃ host, Cond.fieldLinkNest own idx (T k).1 (T k).2.1 (T k).2.2.1 host ∈ nestW)
/-- .. of a final one, for reading -/
def Fr (own : String) (idx ci k : Nat) : Prop := ∃ (C : String) (T : u_T) (N : Nat), vwCl[ci]? = some (C, T, N) ∧ k < N ∧ (∀ w ∈ u_ws C T N, w ∈ wAll) ∧
  (Cond.fieldLink own idx (T k).1 (T k).2.1 (T k).2.2.1 ∈ wAll ∨ ∃ host, Cond.fieldLinkNest own idx (T k).1 (T k).2.1 (T k).2.2.1 host ∈ nestW)
theorem Fk_Fr {own : String} {idx ci k : Nat} {dsc : String} (h : Fk own idx ci k dsc) : Fr own idx ci k := by
  obtain ⟨C, T, N, ty, h1, h2, h3, h4, h5, h6, h7, h8⟩ := h
  exact ⟨C, T, N, h1, h2, h4, h8⟩
/-! ===== THE JUDGEMENT OF A WALK ===== -/
/-- p l e R s m args below meth c B A Z -/
abbrev GT : Type := Program × Launch × Env × Room × State × MethodId × Array Value × List Frame × Method × Code × WB × (Nat → Prop) × (State → Prop)
abbrev gB (G : GT) : WB := G.2.2.2.2.2.2.2.2.2.2.1
abbrev gR (G : GT) : Room := G.2.2.2.1
abbrev gl (G : GT) : Launch := G.2.1
def V (G : GT) (md : Md) (k n : Nat) (X : va_W) (M : Mem) (pc : Nat) (lv : List (Nat × Value)) (st : List Value) : Prop :=
  match G with
  | (p, l, e, R, s, m, args, below, meth, c, B, A, Z) =>
    MOK M → ∀ (H : Heap) (locs : List Loc) (ls : Array Slot), lv_has ls md.2.2.1 lv → va_P B.1 vwCl (wl B M ++ X) H → va_D A (wl B M ++ X) → va_S A s.heap H locs → W p l e R s m args below meth c H locs k n Z (F0 m pc ls st)
def Cx (G : GT) (md : Md) : Prop :=
  match G with
  | (p, l, _, _, s, m, args, _, meth, c, B, A, _) =>
    p.tables.exec = Jvm.exec ∧ c.code = md.2.1 ∧ c.maxLocals = md.2.2.1 ∧ s.vm.findClass md.1.cls = some m.cls ∧ (∀ w ∈ wAll, w.before args s = true) ∧ Kn B s ∧ meth.locks = false ∧ l.stackTraces = false ∧ (∀ q, s.heap.size ≤ q → A q) ∧ (∀ q, A q → b0 B ≤ q) ∧ meth.sig.returnType = md.2.2.2.1
section Rules
variable {G : GT} {md : Md} {k n : Nat} {X : va_W} {M : Mem} {pc : Nat} {lv lv' : List (Nat × Value)} {st : List Value}
theorem V_iconst (h : Cx G md) {a : Int} (d : decode md.2.1 pc = .ok (.iconst a, 1)) (kk : V G md k n X M (pc + 1) lv (.int (I a) :: st)) : V G md k n X M pc lv st := by
  obtain ⟨p, l, e, R, s, m, args, below, meth, c, B, A, Z⟩ := G
  exact fun hM H locs ls hl hP hD hS => lv_iconst h.1 h.2.1 d rfl (kk hM H locs ls hl hP hD hS)
theorem V_bipush (h : Cx G md) {a : Int} (d : decode md.2.1 pc = .ok (.bipush a, 2)) (ha : (Int8.ofInt a).toInt32 = I a) (kk : V G md k n X M (pc + 2) lv (.int (I a) :: st)) : V G md k n X M pc lv st := by
  obtain ⟨p, l, e, R, s, m, args, below, meth, c, B, A, Z⟩ := G
  exact fun hM H locs ls hl hP hD hS => lv_bipush h.1 h.2.1 d ha (kk hM H locs ls hl hP hD hS)
theorem V_sipush (h : Cx G md) {a : Int} (d : decode md.2.1 pc = .ok (.sipush a, 3)) (ha : (Int16.ofInt a).toInt32 = I a) (kk : V G md k n X M (pc + 3) lv (.int (I a) :: st)) : V G md k n X M pc lv st := by
  obtain ⟨p, l, e, R, s, m, args, below, meth, c, B, A, Z⟩ := G
  exact fun hM H locs ls hl hP hD hS => lv_sipush h.1 h.2.1 d ha (kk hM H locs ls hl hP hD hS)
theorem V_iload_n (h : Cx G md) {j : Fin 4} {x : Int32} (q : Nat) (hq : lv[q]? = some ((j : Nat), .int x)) (d : decode md.2.1 pc = .ok (.iload_n j, 1)) (kk : V G md k n X M (pc + 1) lv (.int x :: st)) : V G md k n X M pc lv st := by
  obtain ⟨p, l, e, R, s, m, args, below, meth, c, B, A, Z⟩ := G
  exact fun hM H locs ls hl hP hD hS => lv_iload_n h.1 h.2.1 d rfl (lv_at hl q hq) (kk hM H locs ls hl hP hD hS)
theorem V_iload (h : Cx G md) {j : Nat} {x : Int32} (q : Nat) (hq : lv[q]? = some (j, .int x)) (d : decode md.2.1 pc = .ok (.iload j, 2)) (kk : V G md k n X M (pc + 2) lv (.int x :: st)) : V G md k n X M pc lv st := by
  obtain ⟨p, l, e, R, s, m, args, below, meth, c, B, A, Z⟩ := G
  exact fun hM H locs ls hl hP hD hS => lv_iload h.1 h.2.1 d (lv_at hl q hq) (kk hM H locs ls hl hP hD hS)
theorem V_aload_n (h : Cx G md) {j : Fin 4} {x : Nat} (q : Nat) (hq : lv[q]? = some ((j : Nat), .ref x)) (d : decode md.2.1 pc = .ok (.aload_n j, 1)) (kk : V G md k n X M (pc + 1) lv (.ref x :: st)) : V G md k n X M pc lv st := by
  obtain ⟨p, l, e, R, s, m, args, below, meth, c, B, A, Z⟩ := G
  exact fun hM H locs ls hl hP hD hS => lv_aload_n h.1 h.2.1 d rfl (lv_at hl q hq) (kk hM H locs ls hl hP hD hS)
theorem V_aload (h : Cx G md) {j : Nat} {x : Nat} (q : Nat) (hq : lv[q]? = some (j, .ref x)) (d : decode md.2.1 pc = .ok (.aload j, 2)) (kk : V G md k n X M (pc + 2) lv (.ref x :: st)) : V G md k n X M pc lv st := by
  obtain ⟨p, l, e, R, s, m, args, below, meth, c, B, A, Z⟩ := G
  exact fun hM H locs ls hl hP hD hS => lv_aload h.1 h.2.1 d (lv_at hl q hq) (kk hM H locs ls hl hP hD hS)
theorem V_lload_n (h : Cx G md) {j : Fin 4} {x : Int64} (q : Nat) (hq : lv[q]? = some ((j : Nat), .long x)) (d : decode md.2.1 pc = .ok (.lload_n j, 1)) (kk : V G md k n X M (pc + 1) lv (.long x :: st)) : V G md k n X M pc lv st := by
  obtain ⟨p, l, e, R, s, m, args, below, meth, c, B, A, Z⟩ := G
  exact fun hM H locs ls hl hP hD hS => lv_lload_n h.1 h.2.1 d rfl (lv_at hl q hq) (kk hM H locs ls hl hP hD hS)
theorem V_lload (h : Cx G md) {j : Nat} {x : Int64} (q : Nat) (hq : lv[q]? = some (j, .long x)) (d : decode md.2.1 pc = .ok (.lload j, 2)) (kk : V G md k n X M (pc + 2) lv (.long x :: st)) : V G md k n X M pc lv st := by
  obtain ⟨p, l, e, R, s, m, args, below, meth, c, B, A, Z⟩ := G
  exact fun hM H locs ls hl hP hD hS => lv_lload h.1 h.2.1 d (lv_at hl q hq) (kk hM H locs ls hl hP hD hS)
theorem V_istore_n (h : Cx G md) {j : Fin 4} {x : Int32} (hn : (j : Nat) < md.2.2.1) (hlv : ((j : Nat), Value.int x) :: lv.filter (fun q => !(q.1 == (j : Nat)) && !(q.1 + 1 == (j : Nat) && q.2.category == 2)) = lv') (d : decode md.2.1 pc = .ok (.istore_n j, 1)) (kk : V G md k n X M (pc + 1) lv' st) : V G md k n X M pc lv (.int x :: st) := by
  obtain ⟨p, l, e, R, s, m, args, below, meth, c, B, A, Z⟩ := G
  exact fun hM H locs ls hl hP hD hS => lv_istore_n h.1 h.2.1 d rfl hl hn hlv (fun ls hl => kk hM H locs ls hl hP hD hS)
theorem V_istore (h : Cx G md) {j : Nat} {x : Int32} (hn : j < md.2.2.1) (hlv : (j, Value.int x) :: lv.filter (fun q => !(q.1 == j) && !(q.1 + 1 == j && q.2.category == 2)) = lv') (d : decode md.2.1 pc = .ok (.istore j, 2)) (kk : V G md k n X M (pc + 2) lv' st) : V G md k n X M pc lv (.int x :: st) := by
  obtain ⟨p, l, e, R, s, m, args, below, meth, c, B, A, Z⟩ := G
  exact fun hM H locs ls hl hP hD hS => lv_istore h.1 h.2.1 d hl hn hlv (fun ls hl => kk hM H locs ls hl hP hD hS)
theorem V_astore_n (h : Cx G md) {j : Fin 4} {x : Nat} (hn : (j : Nat) < md.2.2.1) (hlv : ((j : Nat), Value.ref x) :: lv.filter (fun q => !(q.1 == (j : Nat)) && !(q.1 + 1 == (j : Nat) && q.2.category == 2)) = lv') (d : decode md.2.1 pc = .ok (.astore_n j, 1)) (kk : V G md k n X M (pc + 1) lv' st) : V G md k n X M pc lv (.ref x :: st) := by
  obtain ⟨p, l, e, R, s, m, args, below, meth, c, B, A, Z⟩ := G
  exact fun hM H locs ls hl hP hD hS => lv_astore_n h.1 h.2.1 d rfl hl hn hlv (fun ls hl => kk hM H locs ls hl hP hD hS)
theorem V_astore (h : Cx G md) {j : Nat} {x : Nat} (hn : j < md.2.2.1) (hlv : (j, Value.ref x) :: lv.filter (fun q => !(q.1 == j) && !(q.1 + 1 == j && q.2.category == 2)) = lv') (d : decode md.2.1 pc = .ok (.astore j, 2)) (kk : V G md k n X M (pc + 2) lv' st) : V G md k n X M pc lv (.ref x :: st) := by
  obtain ⟨p, l, e, R, s, m, args, below, meth, c, B, A, Z⟩ := G
  exact fun hM H locs ls hl hP hD hS => lv_astore h.1 h.2.1 d hl hn hlv (fun ls hl => kk hM H locs ls hl hP hD hS)
theorem V_lstore_n (h : Cx G md) {j : Fin 4} {x : Int64} (hn : (j : Nat) + 1 < md.2.2.1) (hlv : ((j : Nat), Value.long x) :: lv.filter (fun q => !(q.1 == (j : Nat)) && (!(q.1 == (j : Nat) + 1) && !(q.1 + 1 == (j : Nat) && q.2.category == 2))) = lv') (d : decode md.2.1 pc = .ok (.lstore_n j, 1)) (kk : V G md k n X M (pc + 1) lv' st) : V G md k n X M pc lv (.long x :: st) := by
  obtain ⟨p, l, e, R, s, m, args, below, meth, c, B, A, Z⟩ := G
  exact fun hM H locs ls hl hP hD hS => lv_lstore_n h.1 h.2.1 d rfl hl hn hlv (fun ls hl => kk hM H locs ls hl hP hD hS)
theorem V_lstore (h : Cx G md) {j : Nat} {x : Int64} (hn : j + 1 < md.2.2.1) (hlv : (j, Value.long x) :: lv.filter (fun q => !(q.1 == j) && (!(q.1 == j + 1) && !(q.1 + 1 == j && q.2.category == 2))) = lv') (d : decode md.2.1 pc = .ok (.lstore j, 2)) (kk : V G md k n X M (pc + 2) lv' st) : V G md k n X M pc lv (.long x :: st) := by
  obtain ⟨p, l, e, R, s, m, args, below, meth, c, B, A, Z⟩ := G
  exact fun hM H locs ls hl hP hD hS => lv_lstore h.1 h.2.1 d hl hn hlv (fun ls hl => kk hM H locs ls hl hP hD hS)
theorem V_iinc (h : Cx G md) {j : Nat} {a b : Int} (q : Nat) (hq : lv[q]? = some (j, .int (I b))) (hn : j < md.2.2.1) (hlv : (j, Value.int (I (b + a))) :: lv.filter (fun q => !(q.1 == j) && !(q.1 + 1 == j && q.2.category == 2)) = lv') (d : decode md.2.1 pc = .ok (.iinc j a, 3)) (kk : V G md k n X M (pc + 3) lv' st) : V G md k n X M pc lv st := by
  obtain ⟨p, l, e, R, s, m, args, below, meth, c, B, A, Z⟩ := G
  exact fun hM H locs ls hl hP hD hS => lv_iinc h.1 h.2.1 d hl hq (I_add b a) hn hlv (fun ls hl => kk hM H locs ls hl hP hD hS)
theorem V_iadd (h : Cx G md) {a b : Int} (d : decode md.2.1 pc = .ok (.iadd, 1)) (kk : V G md k n X M (pc + 1) lv (.int (I (a + b)) :: st)) : V G md k n X M pc lv (.int (I b) :: .int (I a) :: st) := by
  obtain ⟨p, l, e, R, s, m, args, below, meth, c, B, A, Z⟩ := G
  exact fun hM H locs ls hl hP hD hS => lv_iadd h.1 h.2.1 d (by rw [I_add]; exact kk hM H locs ls hl hP hD hS)
theorem V_isub (h : Cx G md) {a b : Int} (d : decode md.2.1 pc = .ok (.isub, 1)) (kk : V G md k n X M (pc + 1) lv (.int (I (a - b)) :: st)) : V G md k n X M pc lv (.int (I b) :: .int (I a) :: st) := by
  obtain ⟨p, l, e, R, s, m, args, below, meth, c, B, A, Z⟩ := G
  exact fun hM H locs ls hl hP hD hS => lv_isub h.1 h.2.1 d (by rw [I_sub]; exact kk hM H locs ls hl hP hD hS)
theorem V_imul (h : Cx G md) {a b : Int} (d : decode md.2.1 pc = .ok (.imul, 1)) (kk : V G md k n X M (pc + 1) lv (.int (I (a * b)) :: st)) : V G md k n X M pc lv (.int (I b) :: .int (I a) :: st) := by
  obtain ⟨p, l, e, R, s, m, args, below, meth, c, B, A, Z⟩ := G
  exact fun hM H locs ls hl hP hD hS => lv_imul h.1 h.2.1 d (by rw [I_mul]; exact kk hM H locs ls hl hP hD hS)
theorem V_ineg (h : Cx G md) {a : Int} (d : decode md.2.1 pc = .ok (.ineg, 1)) (kk : V G md k n X M (pc + 1) lv (.int (I (-a)) :: st)) : V G md k n X M pc lv (.int (I a) :: st) := by
  obtain ⟨p, l, e, R, s, m, args, below, meth, c, B, A, Z⟩ := G
  exact fun hM H locs ls hl hP hD hS => lv_ineg h.1 h.2.1 d (by rw [I_neg]; exact kk hM H locs ls hl hP hD hS)
/-- division of a number that isn't negative by a positive one -/
theorem V_idiv (h : Cx G md) {a b : Int} (h0 : 0 ≤ a) (h1 : a < 2147483648) (h2 : 0 < b) (h3 : b < 2147483648) (d : decode md.2.1 pc = .ok (.idiv, 1)) (kk : V G md k n X M (pc + 1) lv (.int (I (a / b)) :: st)) : V G md k n X M pc lv (.int (I b) :: .int (I a) :: st) := by
  obtain ⟨p, l, e, R, s, m, args, below, meth, c, B, A, Z⟩ := G
  have e1 : I a / I b = I (a / b) := by
    apply Int32.toInt_inj.mp
    have hq : 0 ≤ a / b := Int.ediv_nonneg h0 (by omega)
    have hq2 : a / b ≤ a := Int.ediv_le_self b h0
    rw [Int32.toInt_div, I_toInt ⟨by omega, h1⟩, I_toInt ⟨by omega, h3⟩, I_toInt ⟨by omega, by omega⟩, Int.tdiv_eq_ediv_of_nonneg h0]
    exact Jvm.LawKit.bmod32 (by omega) (by omega)
  exact fun hM H locs ls hl hP hD hS => lv_idiv h.1 h.2.1 d (fun hz => by
    have := congrArg Int32.toInt hz
    rw [I_toInt ⟨by omega, h3⟩] at this
    have h9 : (0 : Int32).toInt = 0 := rfl
    omega) (by rw [e1]; exact kk hM H locs ls hl hP hD hS)
theorem V_ior (h : Cx G md) {a b : Int32} (d : decode md.2.1 pc = .ok (.ior, 1)) (kk : V G md k n X M (pc + 1) lv (.int (a ||| b) :: st)) : V G md k n X M pc lv (.int b :: .int a :: st) := by
  obtain ⟨p, l, e, R, s, m, args, below, meth, c, B, A, Z⟩ := G
  exact fun hM H locs ls hl hP hD hS => lv_ior h.1 h.2.1 d (kk hM H locs ls hl hP hD hS)
theorem V_iand (h : Cx G md) {a b : Int32} (d : decode md.2.1 pc = .ok (.iand, 1)) (kk : V G md k n X M (pc + 1) lv (.int (a &&& b) :: st)) : V G md k n X M pc lv (.int b :: .int a :: st) := by
  obtain ⟨p, l, e, R, s, m, args, below, meth, c, B, A, Z⟩ := G
  exact fun hM H locs ls hl hP hD hS => lv_iand h.1 h.2.1 d (kk hM H locs ls hl hP hD hS)
theorem V_dup (h : Cx G md) {v : Value} (hc : v.category = 1) (d : decode md.2.1 pc = .ok (.dup, 1)) (kk : V G md k n X M (pc + 1) lv (v :: v :: st)) : V G md k n X M pc lv (v :: st) := by
  obtain ⟨p, l, e, R, s, m, args, below, meth, c, B, A, Z⟩ := G
  exact fun hM H locs ls hl hP hD hS => lv_dup h.1 h.2.1 d hc (kk hM H locs ls hl hP hD hS)
theorem V_pop (h : Cx G md) {v : Value} (hc : v.category = 1) (d : decode md.2.1 pc = .ok (.pop, 1)) (kk : V G md k n X M (pc + 1) lv st) : V G md k n X M pc lv (v :: st) := by
  obtain ⟨p, l, e, R, s, m, args, below, meth, c, B, A, Z⟩ := G
  exact fun hM H locs ls hl hP hD hS => lv_pop h.1 h.2.1 d hc (kk hM H locs ls hl hP hD hS)
theorem V_goto (h : Cx G md) {off : Int} (tgt : Nat) (ht : (pc : Int) + off = (tgt : Int)) (d : decode md.2.1 pc = .ok (.goto off, 3)) (kk : V G md k n X M tgt lv st) : V G md k n X M pc lv st := by
  obtain ⟨p, l, e, R, s, m, args, below, meth, c, B, A, Z⟩ := G
  exact fun hM H locs ls hl hP hD hS => lv_goto h.1 h.2.1 d ht (kk hM H locs ls hl hP hD hS)
theorem V_lconst (h : Cx G md) {a : Fin 2} (v : Int64) (hv : Int64.ofNat (a : Nat) = v) (d : decode md.2.1 pc = .ok (.lconst a, 1)) (kk : V G md k n X M (pc + 1) lv (.long v :: st)) : V G md k n X M pc lv st := by
  obtain ⟨p, l, e, R, s, m, args, below, meth, c, B, A, Z⟩ := G
  exact fun hM H locs ls hl hP hD hS => lv_lconst h.1 h.2.1 d hv (kk hM H locs ls hl hP hD hS)
theorem V_ladd (h : Cx G md) {a b : Int64} (d : decode md.2.1 pc = .ok (.ladd, 1)) (kk : V G md k n X M (pc + 1) lv (.long (a + b) :: st)) : V G md k n X M pc lv (.long b :: .long a :: st) := by
  obtain ⟨p, l, e, R, s, m, args, below, meth, c, B, A, Z⟩ := G
  exact fun hM H locs ls hl hP hD hS => lv_ladd h.1 h.2.1 d (kk hM H locs ls hl hP hD hS)
theorem V_lsub (h : Cx G md) {a b : Int64} (d : decode md.2.1 pc = .ok (.lsub, 1)) (kk : V G md k n X M (pc + 1) lv (.long (a - b) :: st)) : V G md k n X M pc lv (.long b :: .long a :: st) := by
  obtain ⟨p, l, e, R, s, m, args, below, meth, c, B, A, Z⟩ := G
  exact fun hM H locs ls hl hP hD hS => lv_lsub h.1 h.2.1 d (kk hM H locs ls hl hP hD hS)
theorem V_lmul (h : Cx G md) {a b : Int64} (d : decode md.2.1 pc = .ok (.lmul, 1)) (kk : V G md k n X M (pc + 1) lv (.long (a * b) :: st)) : V G md k n X M pc lv (.long b :: .long a :: st) := by
  obtain ⟨p, l, e, R, s, m, args, below, meth, c, B, A, Z⟩ := G
  exact fun hM H locs ls hl hP hD hS => lv_lmul h.1 h.2.1 d (kk hM H locs ls hl hP hD hS)
theorem V_i2l (h : Cx G md) {a : Int32} (d : decode md.2.1 pc = .ok (.i2l, 1)) (kk : V G md k n X M (pc + 1) lv (.long a.toInt64 :: st)) : V G md k n X M pc lv (.int a :: st) := by
  obtain ⟨p, l, e, R, s, m, args, below, meth, c, B, A, Z⟩ := G
  exact fun hM H locs ls hl hP hD hS => lv_i2l h.1 h.2.1 d rfl (kk hM H locs ls hl hP hD hS)
/-! branches: over whole numbers in range -/
theorem V_icmp_eq (h : Cx G md) {a b : Int} {off : Int} (tgt : Nat) (ht : (pc : Int) + off = (tgt : Int)) (d : decode md.2.1 pc = .ok (.if_icmp .eq off, 3)) (kk : inR a ∧ inR b ∧ (a = b → V G md k n X M tgt lv st) ∧ (a ≠ b → V G md k n X M (pc + 3) lv st)) : V G md k n X M pc lv (.int (I b) :: .int (I a) :: st) := by
  obtain ⟨p, l, e, R, s, m, args, below, meth, c, B, A, Z⟩ := G
  obtain ⟨ha, hb, kt, kf⟩ := kk
  exact fun hM H locs ls hl hP hD hS => lv_icmp_eq h.1 h.2.1 d ht (fun z => kt ((I_eq ha hb).mp z) hM H locs ls hl hP hD hS) (fun z => kf (fun y => z ((I_eq ha hb).mpr y)) hM H locs ls hl hP hD hS)
theorem V_if_eq (h : Cx G md) {a : Int} {off : Int} (tgt : Nat) (ht : (pc : Int) + off = (tgt : Int)) (d : decode md.2.1 pc = .ok (.ifCond .eq off, 3)) (kk : inR a ∧ (a = 0 → V G md k n X M tgt lv st) ∧ (a ≠ 0 → V G md k n X M (pc + 3) lv st)) : V G md k n X M pc lv (.int (I a) :: st) := by
  obtain ⟨p, l, e, R, s, m, args, below, meth, c, B, A, Z⟩ := G
  obtain ⟨ha, kt, kf⟩ := kk
  have hb : inR 0 := ⟨by decide, by decide⟩
  exact fun hM H locs ls hl hP hD hS => lv_if_eq h.1 h.2.1 d ht (fun z => kt ((I_eq ha hb).mp z) hM H locs ls hl hP hD hS) (fun z => kf (fun y => z ((I_eq ha hb).mpr y)) hM H locs ls hl hP hD hS)
theorem V_icmp_ne (h : Cx G md) {a b : Int} {off : Int} (tgt : Nat) (ht : (pc : Int) + off = (tgt : Int)) (d : decode md.2.1 pc = .ok (.if_icmp .ne off, 3)) (kk : inR a ∧ inR b ∧ (a ≠ b → V G md k n X M tgt lv st) ∧ (a = b → V G md k n X M (pc + 3) lv st)) : V G md k n X M pc lv (.int (I b) :: .int (I a) :: st) := by
  obtain ⟨p, l, e, R, s, m, args, below, meth, c, B, A, Z⟩ := G
  obtain ⟨ha, hb, kt, kf⟩ := kk
  exact fun hM H locs ls hl hP hD hS => lv_icmp_ne h.1 h.2.1 d ht (fun z => kt (fun y => z ((I_eq ha hb).mpr y)) hM H locs ls hl hP hD hS) (fun z => kf ((I_eq ha hb).mp z) hM H locs ls hl hP hD hS)
theorem V_if_ne (h : Cx G md) {a : Int} {off : Int} (tgt : Nat) (ht : (pc : Int) + off = (tgt : Int)) (d : decode md.2.1 pc = .ok (.ifCond .ne off, 3)) (kk : inR a ∧ (a ≠ 0 → V G md k n X M tgt lv st) ∧ (a = 0 → V G md k n X M (pc + 3) lv st)) : V G md k n X M pc lv (.int (I a) :: st) := by
  obtain ⟨p, l, e, R, s, m, args, below, meth, c, B, A, Z⟩ := G
  obtain ⟨ha, kt, kf⟩ := kk
  have hb : inR 0 := ⟨by decide, by decide⟩
  exact fun hM H locs ls hl hP hD hS => lv_if_ne h.1 h.2.1 d ht (fun z => kt (fun y => z ((I_eq ha hb).mpr y)) hM H locs ls hl hP hD hS) (fun z => kf ((I_eq ha hb).mp z) hM H locs ls hl hP hD hS)
theorem V_icmp_lt (h : Cx G md) {a b : Int} {off : Int} (tgt : Nat) (ht : (pc : Int) + off = (tgt : Int)) (d : decode md.2.1 pc = .ok (.if_icmp .lt off, 3)) (kk : inR a ∧ inR b ∧ (a < b → V G md k n X M tgt lv st) ∧ (b ≤ a → V G md k n X M (pc + 3) lv st)) : V G md k n X M pc lv (.int (I b) :: .int (I a) :: st) := by
  obtain ⟨p, l, e, R, s, m, args, below, meth, c, B, A, Z⟩ := G
  obtain ⟨ha, hb, kt, kf⟩ := kk
  exact fun hM H locs ls hl hP hD hS => lv_icmp_lt h.1 h.2.1 d ht (fun z => kt ((I_lt ha hb).mp z) hM H locs ls hl hP hD hS) (fun z => kf (Int.not_lt.mp fun y => z ((I_lt ha hb).mpr y)) hM H locs ls hl hP hD hS)
theorem V_if_lt (h : Cx G md) {a : Int} {off : Int} (tgt : Nat) (ht : (pc : Int) + off = (tgt : Int)) (d : decode md.2.1 pc = .ok (.ifCond .lt off, 3)) (kk : inR a ∧ (a < 0 → V G md k n X M tgt lv st) ∧ (0 ≤ a → V G md k n X M (pc + 3) lv st)) : V G md k n X M pc lv (.int (I a) :: st) := by
  obtain ⟨p, l, e, R, s, m, args, below, meth, c, B, A, Z⟩ := G
  obtain ⟨ha, kt, kf⟩ := kk
  have hb : inR 0 := ⟨by decide, by decide⟩
  exact fun hM H locs ls hl hP hD hS => lv_if_lt h.1 h.2.1 d ht (fun z => kt ((I_lt ha hb).mp z) hM H locs ls hl hP hD hS) (fun z => kf (Int.not_lt.mp fun y => z ((I_lt ha hb).mpr y)) hM H locs ls hl hP hD hS)
theorem V_icmp_ge (h : Cx G md) {a b : Int} {off : Int} (tgt : Nat) (ht : (pc : Int) + off = (tgt : Int)) (d : decode md.2.1 pc = .ok (.if_icmp .ge off, 3)) (kk : inR a ∧ inR b ∧ (b ≤ a → V G md k n X M tgt lv st) ∧ (a < b → V G md k n X M (pc + 3) lv st)) : V G md k n X M pc lv (.int (I b) :: .int (I a) :: st) := by
  obtain ⟨p, l, e, R, s, m, args, below, meth, c, B, A, Z⟩ := G
  obtain ⟨ha, hb, kt, kf⟩ := kk
  exact fun hM H locs ls hl hP hD hS => lv_icmp_ge h.1 h.2.1 d ht (fun z => kt ((I_le hb ha).mp z) hM H locs ls hl hP hD hS) (fun z => kf (Int.not_le.mp fun y => z ((I_le hb ha).mpr y)) hM H locs ls hl hP hD hS)
theorem V_if_ge (h : Cx G md) {a : Int} {off : Int} (tgt : Nat) (ht : (pc : Int) + off = (tgt : Int)) (d : decode md.2.1 pc = .ok (.ifCond .ge off, 3)) (kk : inR a ∧ (0 ≤ a → V G md k n X M tgt lv st) ∧ (a < 0 → V G md k n X M (pc + 3) lv st)) : V G md k n X M pc lv (.int (I a) :: st) := by
  obtain ⟨p, l, e, R, s, m, args, below, meth, c, B, A, Z⟩ := G
  obtain ⟨ha, kt, kf⟩ := kk
  have hb : inR 0 := ⟨by decide, by decide⟩
  exact fun hM H locs ls hl hP hD hS => lv_if_ge h.1 h.2.1 d ht (fun z => kt ((I_le hb ha).mp z) hM H locs ls hl hP hD hS) (fun z => kf (Int.not_le.mp fun y => z ((I_le hb ha).mpr y)) hM H locs ls hl hP hD hS)
theorem V_icmp_gt (h : Cx G md) {a b : Int} {off : Int} (tgt : Nat) (ht : (pc : Int) + off = (tgt : Int)) (d : decode md.2.1 pc = .ok (.if_icmp .gt off, 3)) (kk : inR a ∧ inR b ∧ (b < a → V G md k n X M tgt lv st) ∧ (a ≤ b → V G md k n X M (pc + 3) lv st)) : V G md k n X M pc lv (.int (I b) :: .int (I a) :: st) := by
  obtain ⟨p, l, e, R, s, m, args, below, meth, c, B, A, Z⟩ := G
  obtain ⟨ha, hb, kt, kf⟩ := kk
  exact fun hM H locs ls hl hP hD hS => lv_icmp_gt h.1 h.2.1 d ht (fun z => kt ((I_lt hb ha).mp z) hM H locs ls hl hP hD hS) (fun z => kf (Int.not_lt.mp fun y => z ((I_lt hb ha).mpr y)) hM H locs ls hl hP hD hS)
theorem V_if_gt (h : Cx G md) {a : Int} {off : Int} (tgt : Nat) (ht : (pc : Int) + off = (tgt : Int)) (d : decode md.2.1 pc = .ok (.ifCond .gt off, 3)) (kk : inR a ∧ (0 < a → V G md k n X M tgt lv st) ∧ (a ≤ 0 → V G md k n X M (pc + 3) lv st)) : V G md k n X M pc lv (.int (I a) :: st) := by
  obtain ⟨p, l, e, R, s, m, args, below, meth, c, B, A, Z⟩ := G
  obtain ⟨ha, kt, kf⟩ := kk
  have hb : inR 0 := ⟨by decide, by decide⟩
  exact fun hM H locs ls hl hP hD hS => lv_if_gt h.1 h.2.1 d ht (fun z => kt ((I_lt hb ha).mp z) hM H locs ls hl hP hD hS) (fun z => kf (Int.not_lt.mp fun y => z ((I_lt hb ha).mpr y)) hM H locs ls hl hP hD hS)
theorem V_icmp_le (h : Cx G md) {a b : Int} {off : Int} (tgt : Nat) (ht : (pc : Int) + off = (tgt : Int)) (d : decode md.2.1 pc = .ok (.if_icmp .le off, 3)) (kk : inR a ∧ inR b ∧ (a ≤ b → V G md k n X M tgt lv st) ∧ (b < a → V G md k n X M (pc + 3) lv st)) : V G md k n X M pc lv (.int (I b) :: .int (I a) :: st) := by
  obtain ⟨p, l, e, R, s, m, args, below, meth, c, B, A, Z⟩ := G
  obtain ⟨ha, hb, kt, kf⟩ := kk
  exact fun hM H locs ls hl hP hD hS => lv_icmp_le h.1 h.2.1 d ht (fun z => kt ((I_le ha hb).mp z) hM H locs ls hl hP hD hS) (fun z => kf (Int.not_le.mp fun y => z ((I_le ha hb).mpr y)) hM H locs ls hl hP hD hS)
theorem V_if_le (h : Cx G md) {a : Int} {off : Int} (tgt : Nat) (ht : (pc : Int) + off = (tgt : Int)) (d : decode md.2.1 pc = .ok (.ifCond .le off, 3)) (kk : inR a ∧ (a ≤ 0 → V G md k n X M tgt lv st) ∧ (0 < a → V G md k n X M (pc + 3) lv st)) : V G md k n X M pc lv (.int (I a) :: st) := by
  obtain ⟨p, l, e, R, s, m, args, below, meth, c, B, A, Z⟩ := G
  obtain ⟨ha, kt, kf⟩ := kk
  have hb : inR 0 := ⟨by decide, by decide⟩
  exact fun hM H locs ls hl hP hD hS => lv_if_le h.1 h.2.1 d ht (fun z => kt ((I_le ha hb).mp z) hM H locs ls hl hP hD hS) (fun z => kf (Int.not_le.mp fun y => z ((I_le ha hb).mpr y)) hM H locs ls hl hP hD hS)
/-! fields and arrays -/
theorem V_geti (h : Cx G md) {idx ci j o : Nat} (hf : Fr md.1.cls idx ci j) (d : decode md.2.1 pc = .ok (.getfield idx, 3)) (ho : o < N0) (hs : sh o = ci) (h1 : ci < 100) (hr : R0 o j = 0) (kk : inR (M o j) → V G md k n X M (pc + 3) lv (.int (I (M o j)) :: st)) : V G md k n X M pc lv (.ref (ad (gB G) o) :: st) := by
  obtain ⟨p, l, e, R, s, m, args, below, meth, c, B, A, Z⟩ := G
  obtain ⟨hx, hb, hml, hown, hts, hKn, -⟩ := h
  obtain ⟨C, T, N, hc, hj, hin, hlink⟩ := hf
  subst hs
  intro hM H locs ls hl hP hD hS
  obtain ⟨q, hq, hN⟩ := lay_ok o ho h1
  have hjl : j < ln o := by rw [hc] at hq; cases hq; exact Nat.lt_of_lt_of_eq hj hN
  have he : (wl B M ++ X)[o]? = some (ad B o, .inr (sh o, (List.range (ln o)).map (fld B M o))) := by rw [wl_get ho, ent_obj h1]
  have hv : ((List.range (ln o)).map (fld B M o))[j]? = some (.int (I (M o j))) := by rw [fs_get hjl]; simp [fld, hr]
  rcases hlink with hlink | ⟨host, hlink⟩
  · exact va_get hx hb hts hin hown hKn.1 hP o he hc j hj (hts _ hlink) (fun _ h => h) hv d (kk (hM o j ho) hM H locs ls hl hP hD hS)
  · exact va_getN hx hb hts hin hown hKn.1 hP o he hc j hj (va_Nw.use (nest_tab hlink) (hKn.2.1 _ hlink)) (fun _ h => h) hv d (kk (hM o j ho) hM H locs ls hl hP hD hS)
theorem V_getr (h : Cx G md) {idx ci j o : Nat} (r : Nat) (hf : Fr md.1.cls idx ci j) (d : decode md.2.1 pc = .ok (.getfield idx, 3)) (ho : o < N0) (hs : sh o = ci) (h1 : ci < 100) (hr : R0 o j = r) (hr0 : r ≠ 0) (kk : V G md k n X M (pc + 3) lv (.ref (ad (gB G) r) :: st)) : V G md k n X M pc lv (.ref (ad (gB G) o) :: st) := by
  obtain ⟨p, l, e, R, s, m, args, below, meth, c, B, A, Z⟩ := G
  obtain ⟨hx, hb, hml, hown, hts, hKn, -⟩ := h
  obtain ⟨C, T, N, hc, hj, hin, hlink⟩ := hf
  subst hs
  intro hM H locs ls hl hP hD hS
  obtain ⟨q, hq, hN⟩ := lay_ok o ho h1
  have hjl : j < ln o := by rw [hc] at hq; cases hq; exact Nat.lt_of_lt_of_eq hj hN
  have he : (wl B M ++ X)[o]? = some (ad B o, .inr (sh o, (List.range (ln o)).map (fld B M o))) := by rw [wl_get ho, ent_obj h1]
  have hv : ((List.range (ln o)).map (fld B M o))[j]? = some (.ref (ad B r)) := by rw [fs_get hjl]; simp [fld, hr, hr0]
  rcases hlink with hlink | ⟨host, hlink⟩
  · exact va_get hx hb hts hin hown hKn.1 hP o he hc j hj (hts _ hlink) (fun _ h => h) hv d (kk hM H locs ls hl hP hD hS)
  · exact va_getN hx hb hts hin hown hKn.1 hP o he hc j hj (va_Nw.use (nest_tab hlink) (hKn.2.1 _ hlink)) (fun _ h => h) hv d (kk hM H locs ls hl hP hD hS)
theorem V_put (h : Cx G md) {idx ci j o : Nat} {dsc : String} {ty : FieldType} {a : Int} (hf : Fk md.1.cls idx ci j dsc) (d : decode md.2.1 pc = .ok (.putfield idx, 3)) (hty : parseFieldDescriptor dsc = some ty) (hn : narrow ty (.int (I a)) = .int (I a)) (hfit : fits ty (.int (I a)) = true) (ho : o < N0) (hs : sh o = ci) (h1 : ci < 100) (hr : R0 o j = 0) (ha : inR a) (kk : V G md k n X (up M o j a) (pc + 3) lv st) : V G md k n X M pc lv (.int (I a) :: .ref (ad (gB G) o) :: st) := by
  obtain ⟨p, l, e, R, s, m, args, below, meth, c, B, A, Z⟩ := G
  obtain ⟨hx, hb, hml, hown, hts, hKn, -⟩ := h
  obtain ⟨C, T, N, ty0, hc, hj, hds, hin, hty0, hnm, hfin, hlink⟩ := hf
  subst hs
  intro hM H locs ls hl hP hD hS
  obtain ⟨q, hq, hN⟩ := lay_ok o ho h1
  have hjl : j < ln o := by rw [hc] at hq; cases hq; exact Nat.lt_of_lt_of_eq hj hN
  have he : (wl B M ++ X)[o]? = some (ad B o, .inr (sh o, (List.range (ln o)).map (fld B M o))) := by rw [wl_get ho, ent_obj h1]
  have hset : (wl B M ++ X).set o (ad B o, .inr (sh o, ((List.range (ln o)).map (fld B M o)).set j (.int (I a)))) = wl B (up M o j a) ++ X := by
    rw [fs_set hr, ← ent_obj h1]
    exact wl_set ho (fun o' h k => up_o h)
  have kk' : ∀ (H1 : Heap) (locs1 : List Loc), va_P B.1 vwCl ((wl B M ++ X).set o (ad B o, .inr (sh o, ((List.range (ln o)).map (fld B M o)).set j (.int (I a))))) H1 → va_D A ((wl B M ++ X).set o (ad B o, .inr (sh o, ((List.range (ln o)).map (fld B M o)).set j (.int (I a))))) → va_S A s.heap H1 locs1 → W p l e R s m args below meth c H1 locs1 k n Z (F0 m (pc + 3) ls st) := by
    intro H1 locs1 hP1 hD1 hS1
    rw [hset] at hP1 hD1
    exact kk (mok_up hM ha) H1 locs1 ls hl hP1 hD1 hS1
  rcases hlink with hlink | ⟨host, hlink⟩
  · exact va_put hx hb hts hin ty0 hty0 hnm hown hKn.1 hP hD hS o he hc j hj (hts _ hlink) (fun _ h => h) hfin (by rw [hds]; exact hty) hn hfit (by simpa using hjl) d kk'
  · exact va_putN hx hb hts hin ty0 hty0 hnm hown hKn.1 hP hD hS o he hc j hj (va_Nw.use (nest_tab hlink) (hKn.2.1 _ hlink)) (fun _ h => h) hfin (by rw [hds]; exact hty) hn hfit (by simpa using hjl) d kk'
theorem V_puti (h : Cx G md) {idx ci j o : Nat} {a : Int} (hf : Fk md.1.cls idx ci j "I") (d : decode md.2.1 pc = .ok (.putfield idx, 3)) (ho : o < N0) (hs : sh o = ci) (h1 : ci < 100) (hr : R0 o j = 0) (kk : inR a ∧ V G md k n X (up M o j a) (pc + 3) lv st) : V G md k n X M pc lv (.int (I a) :: .ref (ad (gB G) o) :: st) :=
  V_put h hf d (ty := .int) (by decide +kernel) rfl rfl ho hs h1 hr kk.1 kk.2
theorem bitI {a : Int} (h : a = 0 ∨ a = 1) : narrow .boolean (.int (I a)) = .int (I a) ∧ fits .boolean (.int (I a)) = true ∧ inR a ∧ vp_nar .boolean (I a) = I a := by
  rcases h with rfl | rfl <;> decide
theorem V_putz (h : Cx G md) {idx ci j o : Nat} {a : Int} (hf : Fk md.1.cls idx ci j "Z") (d : decode md.2.1 pc = .ok (.putfield idx, 3)) (ho : o < N0) (hs : sh o = ci) (h1 : ci < 100) (hr : R0 o j = 0) (kk : (a = 0 ∨ a = 1) ∧ V G md k n X (up M o j a) (pc + 3) lv st) : V G md k n X M pc lv (.int (I a) :: .ref (ad (gB G) o) :: st) :=
  V_put h hf d (ty := .boolean) (by decide +kernel) (bitI kk.1).1 (bitI kk.1).2.1 ho hs h1 hr (bitI kk.1).2.2.1 kk.2
theorem ln_small (o : Nat) : ln o < 2147483648 := by
  unfold ln
  by_cases h : o < shT.length
  · have h1 : shT.all (fun q => decide (q.2 < 2147483648)) = true := by decide +kernel
    rw [List.getD_eq_getElem?_getD, List.getElem?_eq_getElem h]
    exact of_decide_eq_true (List.all_eq_true.mp h1 _ (List.getElem_mem h))
  · rw [List.getD_eq_getElem?_getD, List.getElem?_eq_none (by omega)]
    decide
theorem V_iald (h : Cx G md) {o : Nat} {i : Int} (d : decode md.2.1 pc = .ok (.iaload, 1)) (ho : o < N0) (hs : sh o = 100) (kk : (0 ≤ i ∧ i < ln o) ∧ (inR (M o i.toNat) → V G md k n X M (pc + 1) lv (.int (I (M o i.toNat)) :: st))) : V G md k n X M pc lv (.int (I i) :: .ref (ad (gB G) o) :: st) := by
  obtain ⟨p, l, e, R, s, m, args, below, meth, c, B, A, Z⟩ := G
  obtain ⟨hx, hb, hml, hown, hts, hKn, -⟩ := h
  obtain ⟨⟨i0, i1⟩, kk⟩ := kk
  have hsm := ln_small o
  intro hM H locs ls hl hP hD hS
  refine va_iald (D := B.1) hx hb hKn.1 hP o 0 (by rw [wl_get ho, ent_int hs]) rfl (I_in i0 i1 hsm) d ?_
  show W p l e R s m args below meth c H locs k n Z (F0 m (pc + 1) ls (.int (I (M o (I i).toNatClampNeg)) :: st))
  rw [I_cl i0 (by omega)]
  exact kk (hM _ _ ho) hM H locs ls hl hP hD hS
theorem V_zald (h : Cx G md) {o : Nat} {i : Int} (d : decode md.2.1 pc = .ok (.baload, 1)) (ho : o < N0) (hs : sh o = 101) (kk : (0 ≤ i ∧ i < ln o) ∧ (inR (M o i.toNat) → V G md k n X M (pc + 1) lv (.int (I (M o i.toNat)) :: st))) : V G md k n X M pc lv (.int (I i) :: .ref (ad (gB G) o) :: st) := by
  obtain ⟨p, l, e, R, s, m, args, below, meth, c, B, A, Z⟩ := G
  obtain ⟨hx, hb, hml, hown, hts, hKn, -⟩ := h
  obtain ⟨⟨i0, i1⟩, kk⟩ := kk
  have hsm := ln_small o
  intro hM H locs ls hl hP hD hS
  refine va_zald (D := B.1) hx hb hKn.1 hP o 1 (by rw [wl_get ho, ent_bool hs]) rfl (I_in i0 i1 hsm) d ?_
  show W p l e R s m args below meth c H locs k n Z (F0 m (pc + 1) ls (.int (I (M o (I i).toNatClampNeg)) :: st))
  rw [I_cl i0 (by omega)]
  exact kk (hM _ _ ho) hM H locs ls hl hP hD hS
theorem upd_up {B : WB} {M : Mem} {o j : Nat} {a : Int} : upd (fun q => I (M o q)) j (I a) = fun q => I (up M o j a o q) := by
  funext q
  by_cases hq : q = j
  · subst hq; simp [upd, up]
  · simp [upd, up, hq]
theorem V_iast (h : Cx G md) {o : Nat} {i a : Int} (d : decode md.2.1 pc = .ok (.iastore, 1)) (ho : o < N0) (hs : sh o = 100) (kk : (0 ≤ i ∧ i < ln o) ∧ inR a ∧ V G md k n X (up M o i.toNat a) (pc + 1) lv st) : V G md k n X M pc lv (.int (I a) :: .int (I i) :: .ref (ad (gB G) o) :: st) := by
  obtain ⟨p, l, e, R, s, m, args, below, meth, c, B, A, Z⟩ := G
  obtain ⟨hx, hb, hml, hown, hts, hKn, -⟩ := h
  obtain ⟨⟨i0, i1⟩, ha, kk⟩ := kk
  have hsm := ln_small o
  intro hM H locs ls hl hP hD hS
  have hset : (wl B M ++ X).set o (ad B o, .inl (B.2.1, ln o, .inl (upd (fun q => I (M o q)) (I i).toNatClampNeg (I a)))) = wl B (up M o i.toNat a) ++ X := by
    rw [I_cl i0 (by omega), upd_up (B := B), ← ent_int (M := up M o i.toNat a) hs]
    exact wl_set ho (fun o' h k => up_o h)
  refine va_iast (D := B.1) hx hb hKn.1 hP hD hS o 0 (by rw [wl_get ho, ent_int hs]) rfl (I_in i0 i1 hsm) d (fun H1 locs1 hP1 hD1 hS1 => ?_)
  rw [hset] at hP1 hD1
  exact kk (mok_up hM ha) H1 locs1 ls hl hP1 hD1 hS1
theorem V_zast (h : Cx G md) {o : Nat} {i a : Int} (d : decode md.2.1 pc = .ok (.bastore, 1)) (ho : o < N0) (hs : sh o = 101) (kk : (0 ≤ i ∧ i < ln o) ∧ (a = 0 ∨ a = 1) ∧ V G md k n X (up M o i.toNat a) (pc + 1) lv st) : V G md k n X M pc lv (.int (I a) :: .int (I i) :: .ref (ad (gB G) o) :: st) := by
  obtain ⟨p, l, e, R, s, m, args, below, meth, c, B, A, Z⟩ := G
  obtain ⟨hx, hb, hml, hown, hts, hKn, -⟩ := h
  obtain ⟨⟨i0, i1⟩, hbit, kk⟩ := kk
  have hsm := ln_small o
  intro hM H locs ls hl hP hD hS
  have hset : (wl B M ++ X).set o (ad B o, .inl (B.2.2.1, ln o, .inl (upd (fun q => I (M o q)) (I i).toNatClampNeg (vp_nar .boolean (I a))))) = wl B (up M o i.toNat a) ++ X := by
    rw [I_cl i0 (by omega), (bitI hbit).2.2.2, upd_up (B := B), ← ent_bool (M := up M o i.toNat a) hs]
    exact wl_set ho (fun o' h k => up_o h)
  refine va_zast (D := B.1) hx hb hKn.1 hP hD hS o 1 (by rw [wl_get ho, ent_bool hs]) rfl (I_in i0 i1 hsm) d (fun H1 locs1 hP1 hD1 hS1 => ?_)
  rw [hset] at hP1 hD1
  exact kk (mok_up hM (bitI hbit).2.2.1) H1 locs1 ls hl hP1 hD1 hS1
theorem I_nat (a : Nat) : Int32.ofNat a = I (a : Int) := by
  apply Int32.toBitVec_inj.mp
  simp [I]
theorem V_alen (h : Cx G md) {o : Nat} (d : decode md.2.1 pc = .ok (.arraylength, 1)) (ho : o < N0) (hs : sh o = 100) (kk : V G md k n X M (pc + 1) lv (.int (I (ln o)) :: st)) : V G md k n X M pc lv (.ref (ad (gB G) o) :: st) := by
  obtain ⟨p, l, e, R, s, m, args, below, meth, c, B, A, Z⟩ := G
  obtain ⟨hx, hb, hml, hown, hts, hKn, -⟩ := h
  intro hM H locs ls hl hP hD hS
  exact va_alen (D := B.1) (v := I (ln o)) hx hb hKn.1 hP o 0 (by rw [wl_get ho, ent_int hs]) rfl (I_nat (ln o)) d (kk hM H locs ls hl hP hD hS)
end Rules
/-! ===== THE END OF A METHOD ===== -/
/-- what is owed at the end of a method without handlers: its answer or its exception, by O; beside the fixed objects lies X -/
def Rt (G : GT) (X : va_W) (O : Out → Mem → Prop) : Prop :=
  match G with
  | (_, _, _, R, s, _, args, below, _, c, B, A, Z) =>
    A = AA B X s.heap.size ∧ Z = vx_MQ below (QcO B X O s.heap.size) (XcO B X O s.heap.size) args s R.cells R.slots (AA B X s.heap.size) ∧ (∀ x ∈ c.exceptionTable.toList, False)
theorem Wd_of {B : WB} {X : va_W} {M : Mem} {A : Nat → Prop} {s t : State} {H : Heap} {locs : List Loc} (hP : va_P B.1 vwCl (wl B M ++ X) H) (hD : va_D A (wl B M ++ X)) (hS : va_S A s.heap H locs) (hA : ∀ q, A q → b0 B ≤ q) (hKn : Kn B s) (ht : t.heap = H) (hW : s.WarmedH t.vm) : Wd B X M t :=
  ⟨by rw [ht]; exact hP, hD.weaken (fun _ _ _ h => hA _ h), Kn_moved hW (fun q h1 h2 => by rw [ht]; exact hS.2.1 q h1 (fun z => h2 (hA q z))) hKn⟩
section Ends
variable {G : GT} {md : Md} {k n : Nat} {X : va_W} {M : Mem} {pc : Nat} {lv : List (Nat × Value)} {st : List Value} {O : Out → Mem → Prop}
theorem V_iret (h : Cx G md) (hR : Rt G X O) {ty : FieldType} {a : Int32} (hty : md.2.2.2.1 = some ty) (hn : narrow ty (.int a) = .int a) (hk : k ≤ (gR G).cells ∧ n ≤ (gR G).slots) (d : decode md.2.1 pc = .ok (.ireturn, 1)) (kk : O (.inl (some (.int a))) M) : V G md k n X M pc lv [.int a] := by
  obtain ⟨p, l, e, R, s, m, args, below, meth, c, B, A, Z⟩ := G
  obtain ⟨hx, hb, hml, hown, hts, hKn, hlk, hfl, hA1, hA2, hret⟩ := h
  obtain ⟨hA, hZ, hT⟩ := hR
  intro hM H locs ls hl hP hD hS
  rw [hZ]
  refine W.widen hk.1 hk.2 (vx_ret ?_)
  exact W.zret hx hb (hret.trans hty) hn (fun t ht hW => ⟨_, M, rfl, kk, hM, by rw [ht]; exact hP, by rw [← hA]; exact hS.F ht⟩) (by rw [← hA]; exact hS.2.2) d
theorem V_lret (h : Cx G md) (hR : Rt G X O) {a : Int64} (hty : md.2.2.2.1 = some .long) (hk : k ≤ (gR G).cells ∧ n ≤ (gR G).slots) (d : decode md.2.1 pc = .ok (.lreturn, 1)) (kk : O (.inl (some (.long a))) M) : V G md k n X M pc lv [.long a] := by
  obtain ⟨p, l, e, R, s, m, args, below, meth, c, B, A, Z⟩ := G
  obtain ⟨hx, hb, hml, hown, hts, hKn, hlk, hfl, hA1, hA2, hret⟩ := h
  obtain ⟨hA, hZ, hT⟩ := hR
  intro hM H locs ls hl hP hD hS
  rw [hZ]
  refine W.widen hk.1 hk.2 (vx_ret ?_)
  exact W.lret hx hb (hret.trans hty) (fun t ht hW => ⟨_, M, rfl, kk, hM, by rw [ht]; exact hP, by rw [← hA]; exact hS.F ht⟩) (by rw [← hA]; exact hS.2.2) d
theorem V_dret (h : Cx G md) (hR : Rt G X O) {a : UInt64} (hty : md.2.2.2.1 = some .double) (hk : k ≤ (gR G).cells ∧ n ≤ (gR G).slots) (d : decode md.2.1 pc = .ok (.dreturn, 1)) (kk : O (.inl (some (.double a))) M) : V G md k n X M pc lv [.double a] := by
  obtain ⟨p, l, e, R, s, m, args, below, meth, c, B, A, Z⟩ := G
  obtain ⟨hx, hb, hml, hown, hts, hKn, hlk, hfl, hA1, hA2, hret⟩ := h
  obtain ⟨hA, hZ, hT⟩ := hR
  intro hM H locs ls hl hP hD hS
  rw [hZ]
  refine W.widen hk.1 hk.2 (vx_ret ?_)
  exact W.dret hx hb (hret.trans hty) (fun t ht hW => ⟨_, M, rfl, kk, hM, by rw [ht]; exact hP, by rw [← hA]; exact hS.F ht⟩) (by rw [← hA]; exact hS.2.2) d
theorem V_vret (h : Cx G md) (hR : Rt G X O) (hty : md.2.2.2.1 = none) (hk : k ≤ (gR G).cells ∧ n ≤ (gR G).slots) (d : decode md.2.1 pc = .ok (.return_, 1)) (kk : O (.inl none) M) : V G md k n X M pc lv [] := by
  obtain ⟨p, l, e, R, s, m, args, below, meth, c, B, A, Z⟩ := G
  obtain ⟨hx, hb, hml, hown, hts, hKn, hlk, hfl, hA1, hA2, hret⟩ := h
  obtain ⟨hA, hZ, hT⟩ := hR
  intro hM H locs ls hl hP hD hS
  rw [hZ]
  refine W.widen hk.1 hk.2 (vx_ret ?_)
  exact W.vret hx hb (hret.trans hty) (fun t ht hW => ⟨_, M, rfl, kk, hM, by rw [ht]; exact hP, by rw [← hA]; exact hS.F ht⟩) (by rw [← hA]; exact hS.2.2) d
theorem V_aret (h : Cx G md) (hR : Rt G X O) {a : Nat} {rt : FieldType} (hty : md.2.2.2.1 = some rt) (hrt : (∃ n, rt = .object n) ∨ ∃ t, rt = .array t) (hk : k ≤ (gR G).cells ∧ n ≤ (gR G).slots) (d : decode md.2.1 pc = .ok (.areturn, 1)) (kk : O (.inl (some (.ref a))) M) : V G md k n X M pc lv [.ref a] := by
  obtain ⟨p, l, e, R, s, m, args, below, meth, c, B, A, Z⟩ := G
  obtain ⟨hx, hb, hml, hown, hts, hKn, hlk, hfl, hA1, hA2, hret⟩ := h
  obtain ⟨hA, hZ, hT⟩ := hR
  intro hM H locs ls hl hP hD hS
  rw [hZ]
  refine W.widen hk.1 hk.2 (vx_ret ?_)
  exact W.aret hx hb (hret.trans hty) hrt (Or.inr ⟨a, rfl⟩) (fun t ht hW => ⟨_, M, rfl, kk, hM, by rw [ht]; exact hP, by rw [← hA]; exact hS.F ht⟩) (by rw [← hA]; exact hS.2.2) d
end Ends
/-- a method's contract out of the walk of its body -/
def Gm (G : GT) (md : Md) (B : WB) (l : Launch) (k n : Nat) : Prop := gB G = B ∧ gR G = rmD md.2.2.2.2 k n ∧ gl G = l
theorem Ok_start {B : WB} {l : Launch} {md : Md} {k n na : Nat} {av : List Value} {X : va_W} {M : Mem} {O : Out → Mem → Prop} (hmk : Mk md na) (hl : l.stackTraces = false) (hlen : (lg_sl av).length ≤ md.2.2.1)
    (body : ∀ G : GT, Cx G md → Rt G X O → Gm G md B l k n → V G md 0 0 X M 0 (lv_args 0 av) []) : Ok B l md k n av X M O := by
  intro hM sz
  obtain ⟨y, cc, maxL, ret, dep⟩ := md
  refine vx_ofW (cc := cc) (maxL := maxL) (ret := ret) hmk.1 rfl ?_
  intro p e s m args below meth c s₁ Bd hml hT hv
  obtain ⟨rfl, hsz, hP, hD, hKn⟩ := hv
  subst hsz
  have hts : ∀ w ∈ (Cond.code y cc maxL ret :: wAll), w.before av.toArray s = true := atoms_spec (ws := Cond.code y cc maxL ret :: wAll) Bd.pre
  have hlt : b0 B ≤ s.heap.size := Nat.le_trans (hD.2 0 _ (wl_get (by decide))) (Nat.le_of_lt (hP 0 _ (wl_get (by decide))).lt)
  have hA2 : ∀ q, AA B X s.heap.size q → b0 B ≤ q := AA_of hD (fun q h => Nat.le_trans hlt h)
  have h1 := body (p, l, e, rmD dep k n, s, m, av.toArray, below, meth, c, B, AA B X s.heap.size, vx_MQ below (QcO B X O s.heap.size) (XcO B X O s.heap.size) av.toArray s k n (AA B X s.heap.size))
    ⟨Bd.exec, Bd.bytes, hml, findClass_of_methodNamed Bd.named, fun w hw => hts w (List.mem_cons_of_mem _ hw), hKn, Bd.notSynchronized, hl, fun q h => Or.inr (Or.inr h), hA2, Bd.returns⟩
    ⟨rfl, rfl, hT⟩ ⟨rfl, rfl, rfl⟩ hM s.heap [] _ (lv_entry av hlen) hP (va_D.weaken hD (fun k q hk _ => AA_in k q hk)) va_S.rf
  rw [lg_entry_eq]
  exact h1
/-! ===== CALLS ===== -/
theorem GoodIn_md {md : Md} {n : Nat} (h : Mk md n) : GoodIn wAll (Cond.code md.1 md.2.1 md.2.2.1 md.2.2.2.1 :: wAll) := by
  intro w hw
  rcases List.mem_cons.mp hw with rfl | hw
  · exact wa_good _ h.2.1
  · exact wa_good _ hw
theorem CallB_md {md : Md} {na d k n idx : Nat} {own : String} {s : State} {args : Array Value} {R : Room} (h : Mk md na) (hts : ∀ w ∈ wAll, w.before args s = true) (hl : (Cond.methodLink own idx md.1).before args s = true) (hR : d + 8 ≤ R.frames ∧ 80 * d + 200 ≤ R.locals) (hd : md.2.2.2.2 < d) :
    CallB R s args own idx md.1 md.2.1 md.2.2.1 md.2.2.2.1 (Cond.code md.1 md.2.1 md.2.2.1 md.2.2.2.1 :: wAll) (rmD md.2.2.2.2 k n) k n na :=
  callB_of na hts (GoodIn_md h) rfl rfl rfl (hts _ h.2.2.1) hl h.2.2.2.1 ⟨by show md.2.2.2.2 + 8 + 1 ≤ R.frames; omega, by have := h.2.2.2.2; show 8 + (md.2.2.1 + 11) + (80 * md.2.2.2.2 + 200) ≤ R.locals; omega⟩
theorem CallN_md {md : Md} {na d k n idx : Nat} {own host : String} {s : State} {args : Array Value} {R : Room} (h : Mk md na) (hts : ∀ w ∈ wAll, w.before args s = true) (hl : va_Nw (Cond.methodLinkNest own idx md.1 host) s) (hR : d + 8 ≤ R.frames ∧ 80 * d + 200 ≤ R.locals) (hd : md.2.2.2.2 < d) :
    va_CN R s args own idx md.1 host md.2.1 md.2.2.1 md.2.2.2.1 (Cond.code md.1 md.2.1 md.2.2.1 md.2.2.2.1 :: wAll) (rmD md.2.2.2.2 k n) k n na :=
  va_cnB na hts (GoodIn_md h) rfl rfl rfl hl (hts _ h.2.2.1) h.2.2.2.1 ⟨by show md.2.2.2.2 + 8 + 1 ≤ R.frames; omega, by have := h.2.2.2.2; show 8 + (md.2.2.1 + 11) + (80 * md.2.2.2.2 + 200) ≤ R.locals; omega⟩
section Calls
variable {p : Program} {l : Launch} {e : Env} {R : Room} {s : State} {m : MethodId} {args : Array Value} {below : List Frame} {meth : Method} {c : Code} {H : Heap} {locs : List Loc} {B : WB} {A : Nat → Prop}
theorem pre_of {X : va_W} {M : Mem} {av : List Value} (hP : va_P B.1 vwCl (wl B M ++ X) H) (hD : va_D A (wl B M ++ X)) (hS : va_S A s.heap H locs) (hA2 : ∀ q, A q → b0 B ≤ q) (hKn : Kn B s) : FrameBlind (PcO B X M H.size av) ∧ ∀ U : State, U.heap = H → s.WarmedH U.vm → PcO B X M H.size av av.toArray U :=
  ⟨PcO_blind, fun U hU hW => ⟨rfl, by rw [hU], Wd_of hP hD hS hA2 hKn hU hW⟩⟩
/-- behind a call that returned -/
theorem after_ret {Z : State → Prop} {k n mc ms pc : Nat} {ls : Array Slot} {st st0 : List Value} {X : va_W} {M : Mem} {O : Out → Mem → Prop} {a : Array Value} (hD : va_D A (wl B M ++ X)) (hS : va_S A s.heap H locs) (hA1 : ∀ q, s.heap.size ≤ q → A q)
    (hr : va_Run p l e R s m args below meth c H locs k n mc ms (F0 m pc ls st0) st (QcO B X O H.size a) (AA B X H.size))
    (kk : ∀ (v : Option Value) (M1 : Mem) (H1 : Heap) (locs1 : List Loc), O (.inl v) M1 → MOK M1 → va_P B.1 vwCl (wl B M1 ++ X) H1 → va_D A (wl B M1 ++ X) → va_S A s.heap H1 locs1 → W p l e R s m args below meth c H1 locs1 (k + mc) (n + ms) Z (F0 m (pc + 3) ls (v.toList ++ st))) :
    W p l e R s m args below meth c H locs k n Z (F0 m pc ls st0) := by
  intro T hT XX
  obtain ⟨v, st₀, t, T', L, h0, X', hL, e1, e2, ⟨v', M1, hv, hO, hM1, hW1, hF⟩, stp⟩ := hr T hT XX
  cases hv
  have hAA : ∀ q, AA B X H.size q → A q := AA_of hD (fun q h => hA1 q (Nat.le_trans hS.1 h))
  obtain ⟨-, -, k3⟩ := vx_keep h0 e1 hS (fun q _ h => hAA q h) (fun q h => hAA q h) hL hF
  obtain ⟨t2, a1, b1⟩ := kk v M1 T'.heap (locs ++ L) hO hM1 (by rw [e1]; exact hW1) (wl_addr hD) k3 T' rfl X'
  exact ⟨t2, stp t2 a1, b1⟩
end Calls
section Calls2
variable {G : GT} {md : Md} {k n : Nat} {X : va_W} {M : Mem} {pc : Nat} {lv : List (Nat × Value)} {st : List Value}
/-- room for a callee of depth below d -/
def Rm (G : GT) (d : Nat) : Prop := d + 8 ≤ (gR G).frames ∧ 80 * d + 200 ≤ (gR G).locals
theorem V_callV (h : Cx G md) {cd : Md} {na idx d o ci kc nc : Nat} {As : List Value} {O : Out → Mem → Prop} (hl : Lv md.1.cls idx cd na) (hd : decode md.2.1 pc = .ok (.invokevirtual idx, 3)) (hdep : cd.2.2.2.2 < d) (hrm : Rm G d) (ho : o < N0) (hs : sh o = ci) (h1 : ci < 100) (hC : (vwCl[ci]?).map (·.1) = some cd.1.cls) (hn : As.length = na) (hst : (st.map fun v => v.category).sum ≤ 8) (hk : k + kc ≤ (gR G).cells ∧ n + nc ≤ (gR G).slots)
    (kk : Ok (gB G) (gl G) cd kc nc (.ref (ad (gB G) o) :: As) X M O) (hO : ∀ E M1, ¬ O (.inr E) M1) (kv : ∀ v M1, O (.inl v) M1 → V G md (k + kc) (n + nc) X M1 (pc + 3) lv (v.toList ++ st)) : V G md k n X M pc lv (As.reverse ++ .ref (ad (gB G) o) :: st) := by
  obtain ⟨p, l, e, R, s, m, args, below, meth, c, B, A, Z⟩ := G
  obtain ⟨hx, hb, hml, hown, hts, hKn, hlk, hfl, hA1, hA2, hret⟩ := h
  obtain ⟨hmk, hlink, hin, hsel⟩ := hl
  subst hs
  intro hM H locs ls hls hP hD hS
  have he : (wl B M ++ X)[o]? = some (ad B o, .inr (sh o, (List.range (ln o)).map (fld B M o))) := by rw [wl_get ho, ent_obj h1]
  obtain ⟨q, hq, -⟩ := lay_ok o ho h1
  have hqC : q.1 = cd.1.cls := by rw [hq] at hC; exact Option.some.inj hC
  have hrecv := va_recv hKn.1 hP hq he
  rw [hqC] at hrecv
  have hpre := pre_of (av := .ref (ad B o) :: As) hP hD hS hA2 hKn
  have hMet := Ok_met kk hO hM H.size
  have hrun : va_Run p l e R s m args below meth c H locs k n kc nc (F0 m pc ls (As.reverse ++ .ref (ad B o) :: st)) st (QcO B X O H.size (Value.ref (ad B o) :: As).toArray) (AA B X H.size) := by
    rcases hlink with hlink | ⟨host, hlink⟩
    · exact va_runV (C := cd.1.cls) (As := As) (rest := st) ⟨hx, hb, hml, hown, hts⟩ hMet ⟨CallB_md hmk hts (hts _ hlink) hrm hdep, hts _ hin, hts _ hsel⟩ ⟨hpre.1, hrecv, hpre.2⟩ rfl hn hls.1 rfl (lv_room hst) hd hk
    · exact va_runVN (C := cd.1.cls) (As := As) (rest := st) ⟨hx, hb, hml, hown, hts⟩ hMet ⟨CallN_md hmk hts (hKn.2.1 _ hlink) hrm hdep, hts _ hin, hts _ hsel⟩ ⟨hpre.1, hrecv, hpre.2⟩ rfl hn hls.1 rfl (lv_room hst) hd hk
  exact after_ret hD hS hA1 hrun (fun v M1 H1 locs1 a1 a2 a3 a4 a5 => kv v M1 a1 a2 H1 locs1 ls hls a3 a4 a5)
theorem V_callS (h : Cx G md) {cd : Md} {na idx d kc nc : Nat} {As : List Value} {O : Out → Mem → Prop} (hl : Ls md.1.cls idx cd na) (hd : decode md.2.1 pc = .ok (.invokestatic idx, 3)) (hdep : cd.2.2.2.2 < d) (hrm : Rm G d) (hn : As.length = na) (hst : (st.map fun v => v.category).sum ≤ 8) (hk : k + kc ≤ (gR G).cells ∧ n + nc ≤ (gR G).slots)
    (kk : Ok (gB G) (gl G) cd kc nc As X M O) (hO : ∀ E M1, ¬ O (.inr E) M1) (kv : ∀ v M1, O (.inl v) M1 → V G md (k + kc) (n + nc) X M1 (pc + 3) lv (v.toList ++ st)) : V G md k n X M pc lv (As.reverse ++ st) := by
  obtain ⟨p, l, e, R, s, m, args, below, meth, c, B, A, Z⟩ := G
  obtain ⟨hx, hb, hml, hown, hts, hKn, hlk, hfl, hA1, hA2, hret⟩ := h
  obtain ⟨hmk, hlink, hstat⟩ := hl
  intro hM H locs ls hls hP hD hS
  have hpre := pre_of (av := As) hP hD hS hA2 hKn
  have hMet := Ok_met kk hO hM H.size
  have hrun : va_Run p l e R s m args below meth c H locs k n kc nc (F0 m pc ls (As.reverse ++ st)) st (QcO B X O H.size As.toArray) (AA B X H.size) := by
    rcases hlink with hlink | ⟨host, hlink⟩
    · exact va_runS (As := As) (rest := st) ⟨hx, hb, hml, hown, hts⟩ hMet ⟨CallB_md hmk hts (hts _ hlink) hrm hdep, hts _ hstat⟩ hpre rfl hn hls.1 rfl (lv_room hst) hd hk
    · exact va_runSN (As := As) (rest := st) ⟨hx, hb, hml, hown, hts⟩ hMet ⟨CallN_md hmk hts (hKn.2.1 _ hlink) hrm hdep, hts _ hstat, trivial⟩ hpre rfl hn hls.1 rfl (lv_room hst) hd hk
  exact after_ret hD hS hA1 hrun (fun v M1 H1 locs1 a1 a2 a3 a4 a5 => kv v M1 a1 a2 H1 locs1 ls hls a3 a4 a5)
/-- a call of a method that throws here: it goes on to the caller -/
theorem V_callVX (h : Cx G md) {O : Out → Mem → Prop} (hR : Rt G X O) {cd : Md} {na idx d o ci kc nc : Nat} {As : List Value} {O1 : Out → Mem → Prop} (hl : Mk cd na ∧ Cond.methodLink md.1.cls idx cd.1 ∈ wAll ∧ Cond.instanceMethod cd.1 ∈ wAll ∧ Cond.selects cd.1.cls cd.1 cd.1 ∈ wAll) (hd : decode md.2.1 pc = .ok (.invokevirtual idx, 3)) (hdep : cd.2.2.2.2 < d) (hrm : Rm G d) (ho : o < N0) (hs : sh o = ci) (h1 : ci < 100) (hC : (vwCl[ci]?).map (·.1) = some cd.1.cls) (hn : As.length = na) (hst : (st.map fun v => v.category).sum ≤ 8) (hk : k + kc ≤ (gR G).cells ∧ n + nc ≤ (gR G).slots)
    (kk : Ok (gB G) (gl G) cd kc nc (.ref (ad (gB G) o) :: As) X M O1) (hO : ∀ v M1, ¬ O1 (.inl v) M1) (kx : ∀ E M1, O1 (.inr E) M1 → O (.inr E) M1) : V G md k n X M pc lv (As.reverse ++ .ref (ad (gB G) o) :: st) := by
  obtain ⟨p, l, e, R, s, m, args, below, meth, c, B, A, Z⟩ := G
  obtain ⟨hx, hb, hml, hown, hts, hKn, hlk, hfl, hA1, hA2, hret⟩ := h
  obtain ⟨hmk, hlink, hin, hsel⟩ := hl
  obtain ⟨hA, hZ, hT⟩ := hR
  subst hs
  intro hM H locs ls hls hP hD hS
  have he : (wl B M ++ X)[o]? = some (ad B o, .inr (sh o, (List.range (ln o)).map (fld B M o))) := by rw [wl_get ho, ent_obj h1]
  obtain ⟨q, hq, -⟩ := lay_ok o ho h1
  have hqC : q.1 = cd.1.cls := by rw [hq] at hC; exact Option.some.inj hC
  have hrecv := va_recv hKn.1 hP hq he
  rw [hqC] at hrecv
  have hpre := pre_of (av := .ref (ad B o) :: As) hP hD hS hA2 hKn
  have hMet := kk hM H.size
  have hrun : vx_Run p l e R s m args below meth c H locs k n kc nc (F0 m pc ls (As.reverse ++ .ref (ad B o) :: st)) st (QcO B X O1 H.size (Value.ref (ad B o) :: As).toArray) (XcO B X O1 H.size) (AA B X H.size) :=
    vx_runV (C := cd.1.cls) (As := As) (rest := st) ⟨hx, hb, hml, hown, hts⟩ hMet ⟨CallB_md hmk hts (hts _ hlink) hrm hdep, hts _ hin, hts _ hsel⟩ ⟨hpre.1, hrecv, hpre.2⟩ rfl hn hls.1 rfl (lv_room hst) hd hk
  intro T hT2 XX
  rcases hrun T hT2 XX with ⟨v, st₀, t, T', L, h0, X', hL, e1, e2, ⟨v', M1, hv, hO1, -⟩, stp⟩ | ⟨q9, st₀, t, T', L, E, ce, h0, X', hL, e1, e2, ⟨M1, hO1, hM1, hW1, hF⟩, hce, hcv, hcl, stp⟩
  · exact absurd hO1 (hO _ _)
  · have hAA : ∀ q, AA B X H.size q → A q := AA_of hD (fun q h => hA1 q (Nat.le_trans hS.1 h))
    obtain ⟨-, -, k3⟩ := vx_keep h0 e1 hS (fun q _ h => hAA q h) (fun q h => hAA q h) hL hF
    have hout := vx_out (p := p) (l := l) (e := e) (R := R) (s := s) (m := m) (args := args) (below := below) (meth := meth) (c := c) (H := T'.heap) (locs := locs ++ L) (cells := k + kc) (slots := n + nc) (Qc := QcO B X O s.heap.size) (XC := XcO B X O s.heap.size) (free := AA B X s.heap.size) (ls := ls) (rest := st) (pc := pc) (mc := R.cells) (ms := R.slots) (q := q9) (E := E) (ce := ce)
      (fun x hx => (hT x hx).elim) hlk (by rw [e1]; exact hce) hcv hcl (fun t2 ht2 hal => ⟨M1, kx E M1 hO1, hM1, by rw [ht2, e1]; exact hW1, by rw [← hA]; exact k3.F ht2⟩) (by rw [← hA]; exact k3.2.2) hk.1 hk.2 T' rfl X'
    rw [hZ]
    obtain ⟨t2, a1, b1⟩ := hout
    exact ⟨t2, stp.trans a1, b1⟩
end Calls2
/-! ===== THROW, COPIES, MIN ===== -/
def Tw (own : String) (ik is ic : Nat) (cls text : String) (names : List String) : Prop := Cond.classLink own ik cls ∈ wAll ∧ Cond.initialized cls ∈ wAll ∧ Cond.stringRef own is text ∈ lw_tbl ∧ (∀ w ∈ vx_atS own ic cls names, w ∈ lw_tbl) ∧ (∀ w ∈ vx_atS own ic cls names, (goodWord w || isNest w) = true) ∧ Bundle.fit cls = true ∧ (∀ n ∈ names, Bundle.fit n = true) ∧ names.length ≤ 3
section Thr
variable {G : GT} {md : Md} {k n : Nat} {X : va_W} {M : Mem} {pc : Nat} {lv : List (Nat × Value)} {st : List Value} {O : Out → Mem → Prop}
theorem V_throwSW (h : Cx G md) (hR : Rt G X O) {ik is ic : Nat} {cls text : String} {names : List String} (hw : Tw md.1.cls ik is ic cls text names) (d0 : decode md.2.1 pc = .ok (.new ik, 3)) (d3 : decode md.2.1 (pc + 3) = .ok (.dup, 1)) (d4 : decode md.2.1 (pc + 4) = .ok (.ldc_w is, 3)) (d7 : decode md.2.1 (pc + 7) = .ok (.invokespecial ic, 3)) (d10 : decode md.2.1 (pc + 10) = .ok (.athrow, 1))
    (hst : (st.map fun v => v.category).sum ≤ 8) (hrm : 8 ≤ (gR G).frames ∧ 200 ≤ (gR G).locals) (hk : k + 1 ≤ (gR G).cells ∧ n + 6 ≤ (gR G).slots) (kk : O (.inr cls) M) : V G md k n X M pc lv st := by
  obtain ⟨p, l, e, R, s, m, args, below, meth, c, B, A, Z⟩ := G
  obtain ⟨hx, hb, hml, hown, hts, hKn, hlk, hfl, hA1, hA2, hret⟩ := h
  obtain ⟨hA, hZ, hT⟩ := hR
  obtain ⟨w1, w2, w3, w4, w5, w6, w7, w8⟩ := hw
  obtain ⟨sa, hstr⟩ := hKn.2.2.2.2.1 _ _ _ w3
  intro hM H locs ls hls hP hD hS
  rw [hZ]
  have hA2' : ∀ q, AA B X s.heap.size q → b0 B ≤ q := by rw [← hA]; exact hA2
  have hnt : ∀ w ∈ vx_atS md.1.cls ic cls names, goodWord w = true ∨ w ∈ nestW := fun w hw => by
    rcases (Bool.or_eq_true _ _).mp (w5 w hw) with h | h
    · exact Or.inl h
    · exact Or.inr (List.mem_filter.mpr ⟨w4 w hw, h⟩)
  have hgood : ∀ w ∈ Cond.classLink md.1.cls ik cls :: Cond.initialized cls :: vx_atS md.1.cls ic cls names, vx_ot w = true := by
    intro w hw
    rcases List.mem_cons.mp hw with rfl | hw
    · simp [vx_ot, (List.mem_filter.mp w1).2]
    · rcases List.mem_cons.mp hw with rfl | hw
      · simp [vx_ot, (List.mem_filter.mp w2).2]
      · rcases hnt w hw with h | h
        · simp [vx_ot, h]
        · simp [vx_ot, nest_tab h]
  have hat : ∀ w ∈ vx_atS md.1.cls ic cls names, w.before args s = true := fun w hw => by
    rcases hnt w hw with h | h
    · exact hts w (List.mem_filter.mpr ⟨w4 w hw, h⟩)
    · exact va_Nw.use (nest_tab h) (hKn.2.1 w h)
  have hS' : va_S (AA B X s.heap.size) s.heap H locs := by rw [← hA]; exact hS
  exact vx_throwSW (A := AA B X s.heap.size) hx hb hfl hown w6 w7 (hts _ w1) (hts _ w2) hstr hat hgood (hKn.2.2.1.narrow hA2') (hKn.2.2.2.1.narrow hA2') hS' (hls.1.trans hml.symm) d0 d3 d4 d7 d10 (fun x hx => (hT x hx).elim)
    (by have := hrm.1; show names.length + 3 < R.frames; have : R.frames = (gR (p, l, e, R, s, m, args, below, meth, c, B, A, Z)).frames := rfl; omega) (by have := hrm.2; show _ ≤ R.locals; have : R.locals = (gR (p, l, e, R, s, m, args, below, meth, c, B, A, Z)).locals := rfl; omega)
    hk.1 hk.2 hlk (fun t hal h1 h2 => ⟨M, kk, hM, hP.kept (fun k q hq => h2 q.1 ((hP k q hq).lt)), ⟨Nat.le_trans hS.1 h1, fun q g1 g2 => by rw [h2 q (Nat.lt_of_lt_of_le g1 hS.1)]; exact hS'.2.1 q g1 g2⟩⟩) hS'.2.2 hk.1 hk.2
theorem V_throwS (h : Cx G md) (hR : Rt G X O) {ik is ic : Nat} {cls text : String} {names : List String} (hw : Tw md.1.cls ik is ic cls text names) (d0 : decode md.2.1 pc = .ok (.new ik, 3)) (d3 : decode md.2.1 (pc + 3) = .ok (.dup, 1)) (d4 : decode md.2.1 (pc + 4) = .ok (.ldc is, 2)) (d6 : decode md.2.1 (pc + 6) = .ok (.invokespecial ic, 3)) (d9 : decode md.2.1 (pc + 9) = .ok (.athrow, 1))
    (hst : (st.map fun v => v.category).sum ≤ 8) (hrm : 8 ≤ (gR G).frames ∧ 200 ≤ (gR G).locals) (hk : k + 1 ≤ (gR G).cells ∧ n + 6 ≤ (gR G).slots) (kk : O (.inr cls) M) : V G md k n X M pc lv st := by
  obtain ⟨p, l, e, R, s, m, args, below, meth, c, B, A, Z⟩ := G
  obtain ⟨hx, hb, hml, hown, hts, hKn, hlk, hfl, hA1, hA2, hret⟩ := h
  obtain ⟨hA, hZ, hT⟩ := hR
  obtain ⟨w1, w2, w3, w4, w5, w6, w7, w8⟩ := hw
  obtain ⟨sa, hstr⟩ := hKn.2.2.2.2.1 _ _ _ w3
  intro hM H locs ls hls hP hD hS
  rw [hZ]
  have hA2' : ∀ q, AA B X s.heap.size q → b0 B ≤ q := by rw [← hA]; exact hA2
  have hnt : ∀ w ∈ vx_atS md.1.cls ic cls names, goodWord w = true ∨ w ∈ nestW := fun w hw => by
    rcases (Bool.or_eq_true _ _).mp (w5 w hw) with h | h
    · exact Or.inl h
    · exact Or.inr (List.mem_filter.mpr ⟨w4 w hw, h⟩)
  have hgood : ∀ w ∈ Cond.classLink md.1.cls ik cls :: Cond.initialized cls :: vx_atS md.1.cls ic cls names, vx_ot w = true := by
    intro w hw
    rcases List.mem_cons.mp hw with rfl | hw
    · simp [vx_ot, (List.mem_filter.mp w1).2]
    · rcases List.mem_cons.mp hw with rfl | hw
      · simp [vx_ot, (List.mem_filter.mp w2).2]
      · rcases hnt w hw with h | h
        · simp [vx_ot, h]
        · simp [vx_ot, nest_tab h]
  have hat : ∀ w ∈ vx_atS md.1.cls ic cls names, w.before args s = true := fun w hw => by
    rcases hnt w hw with h | h
    · exact hts w (List.mem_filter.mpr ⟨w4 w hw, h⟩)
    · exact va_Nw.use (nest_tab h) (hKn.2.1 w h)
  have hS' : va_S (AA B X s.heap.size) s.heap H locs := by rw [← hA]; exact hS
  exact vx_throwS (A := AA B X s.heap.size) hx hb hfl hown w6 w7 (hts _ w1) (hts _ w2) hstr hat hgood (hKn.2.2.1.narrow hA2') (hKn.2.2.2.1.narrow hA2') hS' (hls.1.trans hml.symm) d0 d3 d4 d6 d9 (fun x hx => (hT x hx).elim)
    (by have := hrm.1; show names.length + 3 < R.frames; have : R.frames = (gR (p, l, e, R, s, m, args, below, meth, c, B, A, Z)).frames := rfl; omega) (by have := hrm.2; show _ ≤ R.locals; have : R.locals = (gR (p, l, e, R, s, m, args, below, meth, c, B, A, Z)).locals := rfl; omega)
    hk.1 hk.2 hlk (fun t hal h1 h2 => ⟨M, kk, hM, hP.kept (fun k q hq => h2 q.1 ((hP k q hq).lt)), ⟨Nat.le_trans hS.1 h1, fun q g1 g2 => by rw [h2 q (Nat.lt_of_lt_of_le g1 hS.1)]; exact hS'.2.1 q g1 g2⟩⟩) hS'.2.2 hk.1 hk.2
/-- memory behind System.arraycopy of n numbers -/
def cpM (M : Mem) (src sp dst dp n : Nat) : Mem := fun o j => if o = dst ∧ dp ≤ j ∧ j < dp + n then M src (sp + (j - dp)) else M o j
def Cpw (own : String) (idx : Nat) : Prop := Cond.methodLink own idx arraycopyName ∈ wAll ∧ Cond.native arraycopyName ∈ wAll ∧ Cond.static arraycopyName ∈ wAll ∧ Cond.initialized "java/lang/System" ∈ wAll
theorem V_copy (h : Cx G md) {idx o1 o2 : Nat} {sp dp c : Int} (hw : Cpw md.1.cls idx) (d : decode md.2.1 pc = .ok (.invokestatic idx, 3)) (ho1 : o1 < N0) (hs1 : sh o1 = 100) (ho2 : o2 < N0) (hs2 : sh o2 = 100) (hrm : 8 ≤ (gR G).frames ∧ 200 ≤ (gR G).locals) (hst : (st.map fun v => v.category).sum ≤ 8)
    (kk : (0 ≤ sp ∧ 0 ≤ dp ∧ 0 ≤ c ∧ sp + c ≤ ln o1 ∧ dp + c ≤ ln o2) ∧ V G md k n X (cpM M o1 sp.toNat o2 dp.toNat c.toNat) (pc + 3) lv st) : V G md k n X M pc lv (.int (I c) :: .int (I dp) :: .ref (ad (gB G) o2) :: .int (I sp) :: .ref (ad (gB G) o1) :: st) := by
  obtain ⟨p, l, e, R, s, m, args, below, meth, cd, B, A, Z⟩ := G
  obtain ⟨hx, hb, hml, hown, hts, hKn, hlk, hfl, hA1, hA2, hret⟩ := h
  obtain ⟨w1, w2, w3, w4⟩ := hw
  obtain ⟨⟨g1, g2, g3, g4, g5⟩, kk⟩ := kk
  have l1 := ln_small o1
  have l2 := ln_small o2
  have c1 : (I sp).toNatClampNeg = sp.toNat := I_cl g1 (by omega)
  have c2 : (I dp).toNatClampNeg = dp.toNat := I_cl g2 (by omega)
  have c3 : (I c).toNatClampNeg = c.toNat := I_cl g3 (by omega)
  have nn : ∀ a : Int, 0 ≤ a → a < 2147483648 → ¬ I a < 0 := fun a h1 h2 => by
    rw [← I_zero, I_lt ⟨by omega, h2⟩ ⟨by decide, by decide⟩]; omega
  intro hM H locs ls hls hP hD hS
  have hM' : MOK (cpM M o1 sp.toNat o2 dp.toNat c.toNat) := by
    intro o j hoj
    unfold cpM
    split
    · exact hM _ _ ho1
    · exact hM _ _ hoj
  have hset : (wl B M ++ X).set o2 (ad B o2, .inl (B.2.1, ln o2, .inl (va_cpy (fun q => I (M o1 q)) (fun q => I (M o2 q)) (I sp).toNatClampNeg (I dp).toNatClampNeg (I c).toNatClampNeg))) = wl B (cpM M o1 sp.toNat o2 dp.toNat c.toNat) ++ X := by
    rw [c1, c2, c3]
    have : (va_cpy (fun q => I (M o1 q)) (fun q => I (M o2 q)) sp.toNat dp.toNat c.toNat) = fun q => I (cpM M o1 sp.toNat o2 dp.toNat c.toNat o2 q) := by
      funext q
      simp only [va_cpy, cpM, true_and]
      split <;> rfl
    rw [this, ← ent_int (M := cpM M o1 sp.toNat o2 dp.toNat c.toNat) hs2]
    exact wl_set ho2 (fun o' h k => by simp [cpM, h])
  refine va_copyi (D := B.1) (f := fun q => I (M o1 q)) (g := fun q => I (M o2 q)) hx hb (hml.trans hls.1.symm) hown (hts _ w1) (hts _ w2) (hts _ w3) (hts _ w4) hKn.1 hP hD hS o1 o2 0 0 (by rw [wl_get ho1, ent_int hs1]) (by rw [wl_get ho2, ent_int hs2]) rfl rfl rfl
    (nn _ g1 (by omega)) (nn _ g2 (by omega)) (nn _ g3 (by omega)) (by rw [c1, c3]; omega) (by rw [c2, c3]; omega) (fun _ _ => rfl) (by have := hrm.1; show 1 ≤ R.frames; have : R.frames = (gR (p, l, e, R, s, m, args, below, meth, cd, B, A, Z)).frames := rfl; omega)
    (by have := hrm.2; have h9 : R.locals = (gR (p, l, e, R, s, m, args, below, meth, cd, B, A, Z)).locals := rfl; have h8 : nativeFrameWords "java/lang/System" "arraycopy" 5 ≤ 100 := by decide +kernel
        omega) d (fun H1 locs1 hP1 hD1 hS1 => ?_)
  rw [hset] at hP1 hD1
  exact kk hM' H1 locs1 ls hls hP1 hD1 hS1
def Mnw (own : String) (idx : Nat) : Prop := Cond.methodLink own idx Lib.Math.min.name ∈ wAll ∧ Cond.static Lib.Math.min.name ∈ wAll ∧ Cond.initialized "java/lang/Math" ∈ wAll ∧ Cond.code Lib.Math.min.name Lib.Math.min.code 2 (some .int) ∈ wAll
theorem V_min (h : Cx G md) {idx : Nat} {a b : Int} (hw : Mnw md.1.cls idx) (d : decode md.2.1 pc = .ok (.invokestatic idx, 3)) (hrm : 8 ≤ (gR G).frames ∧ 200 ≤ (gR G).locals) (hst : (st.map fun v => v.category).sum ≤ 8) (hk : k ≤ (gR G).cells ∧ n ≤ (gR G).slots)
    (kk : inR a ∧ inR b ∧ V G md k n X M (pc + 3) lv (.int (I (if b < a then b else a)) :: st)) : V G md k n X M pc lv (.int (I b) :: .int (I a) :: st) := by
  obtain ⟨p, l, e, R, s, m, args, below, meth, cd, B, A, Z⟩ := G
  obtain ⟨hx, hb, hml, hown, hts, hKn, hlk, hfl, hA1, hA2, hret⟩ := h
  obtain ⟨w1, w2, w3, w4⟩ := hw
  obtain ⟨ha, hbb, kk⟩ := kk
  intro hM H locs ls hls hP hD hS
  refine va_mmin hx hb (hml.trans hls.1.symm) hown (hts _ w1) (hts _ w2) (hts _ w3) (hts _ w4) (by have := hrm.1; show 1 ≤ R.frames; have : R.frames = (gR (p, l, e, R, s, m, args, below, meth, cd, B, A, Z)).frames := rfl; omega) (by have := hrm.2; have h9 : R.locals = (gR (p, l, e, R, s, m, args, below, meth, cd, B, A, Z)).locals := rfl; omega) hk.1 hk.2 d ?_
  have e1 : (if I b < I a then I b else I a) = I (if b < a then b else a) := by
    by_cases hab : b < a
    · rw [if_pos hab, if_pos ((I_lt hbb ha).mpr hab)]
    · rw [if_neg hab, if_neg (fun z => hab ((I_lt hbb ha).mp z))]
  rw [e1]
  exact kk hM H locs ls hls hP hD hS
end Thr
/-! ===== PACKED FACTS OF THE LAYOUT, AND THE ROWS THAT A PROGRAM LAYS ===== -/
def oI (Q : Int → Mem → Prop) (E : String → Mem → Prop) : Out → Mem → Prop := fun o M1 => match o with | .inl v => ∃ r : Int, v = some (.int (I r)) ∧ inR r ∧ Q r M1 | .inr c => E c M1
def oV (Q : Mem → Prop) (E : String → Mem → Prop) : Out → Mem → Prop := fun o M1 => match o with | .inl v => v = none ∧ Q M1 | .inr c => E c M1
def oR (B : WB) (Q : Nat → Mem → Prop) (E : String → Mem → Prop) : Out → Mem → Prop := fun o M1 => match o with | .inl v => ∃ r : Nat, v = some (.ref (ad B r)) ∧ Q r M1 | .inr c => E c M1
def oL (Q : Int64 → Mem → Prop) (E : String → Mem → Prop) : Out → Mem → Prop := fun o M1 => match o with | .inl v => ∃ r : Int64, v = some (.long r) ∧ Q r M1 | .inr c => E c M1
def oD (Q : UInt64 → Mem → Prop) (E : String → Mem → Prop) : Out → Mem → Prop := fun o M1 => match o with | .inl v => ∃ r : UInt64, v = some (.double r) ∧ Q r M1 | .inr c => E c M1
def OkI (B : WB) (l : Launch) (md : Md) (k n : Nat) (av : List Value) (X : va_W) (M : Mem) (Q : Int → Mem → Prop) (E : String → Mem → Prop) : Prop := Ok B l md k n av X M (oI Q E)
def OkV (B : WB) (l : Launch) (md : Md) (k n : Nat) (av : List Value) (X : va_W) (M : Mem) (Q : Mem → Prop) (E : String → Mem → Prop) : Prop := Ok B l md k n av X M (oV Q E)
def OkR (B : WB) (l : Launch) (md : Md) (k n : Nat) (av : List Value) (X : va_W) (M : Mem) (Q : Nat → Mem → Prop) (E : String → Mem → Prop) : Prop := Ok B l md k n av X M (oR B Q E)
def OkL (B : WB) (l : Launch) (md : Md) (k n : Nat) (av : List Value) (X : va_W) (M : Mem) (Q : Int64 → Mem → Prop) (E : String → Mem → Prop) : Prop := Ok B l md k n av X M (oL Q E)
def OkD (B : WB) (l : Launch) (md : Md) (k n : Nat) (av : List Value) (X : va_W) (M : Mem) (Q : UInt64 → Mem → Prop) (E : String → Mem → Prop) : Prop := Ok B l md k n av X M (oD Q E)
def NoX : String → Mem → Prop := fun _ _ => False
def bor (a b : Int) : Int := (I a ||| I b).toInt
def band (a b : Int) : Int := (I a &&& I b).toInt
def FldI (o ci j : Nat) : Prop := o < N0 ∧ sh o = ci ∧ ci < 100 ∧ R0 o j = 0
def FldR (o ci j r : Nat) : Prop := o < N0 ∧ sh o = ci ∧ ci < 100 ∧ R0 o j = r ∧ r ≠ 0
def Arr (o : Nat) (ty : Nat) (L : Int) : Prop := o < N0 ∧ sh o = ty ∧ ((ln o : Nat) : Int) = L
/-- the object o is of the class that declares cd -/
def Rcv (o : Nat) (cd : Md) : Prop := o < N0 ∧ sh o < 100 ∧ (vwCl[sh o]?).map (·.1) = some cd.1.cls
/-- all that a walk of a method's body stands on -/
def Ct (G : GT) (md : Md) (X : va_W) (O : Out → Mem → Prop) (B : WB) (l : Launch) (k n : Nat) : Prop := Cx G md ∧ Rt G X O ∧ gB G = B ∧ gR G = rmD md.2.2.2.2 k n ∧ gl G = l
section Lay
variable {G : GT} {md : Md} {k n : Nat} {X : va_W} {M : Mem} {pc : Nat} {lv : List (Nat × Value)} {st : List Value}
theorem V_gi (h : Cx G md) {idx ci j o : Nat} (hf : Fr md.1.cls idx ci j) (q : FldI o ci j) (d : decode md.2.1 pc = .ok (.getfield idx, 3)) (kk : inR (M o j) → V G md k n X M (pc + 3) lv (.int (I (M o j)) :: st)) : V G md k n X M pc lv (.ref (ad (gB G) o) :: st) := V_geti h hf d q.1 q.2.1 q.2.2.1 q.2.2.2 kk
theorem V_gr (h : Cx G md) {idx ci j o r : Nat} (hf : Fr md.1.cls idx ci j) (q : FldR o ci j r) (d : decode md.2.1 pc = .ok (.getfield idx, 3)) (kk : V G md k n X M (pc + 3) lv (.ref (ad (gB G) r) :: st)) : V G md k n X M pc lv (.ref (ad (gB G) o) :: st) := V_getr h r hf d q.1 q.2.1 q.2.2.1 q.2.2.2.1 q.2.2.2.2 kk
theorem V_pi (h : Cx G md) {idx ci j o : Nat} {a : Int} (hf : Fk md.1.cls idx ci j "I") (q : FldI o ci j) (d : decode md.2.1 pc = .ok (.putfield idx, 3)) (ha : inR a) (kk : V G md k n X (up M o j a) (pc + 3) lv st) : V G md k n X M pc lv (.int (I a) :: .ref (ad (gB G) o) :: st) := V_puti h hf d q.1 q.2.1 q.2.2.1 q.2.2.2 ⟨ha, kk⟩
theorem V_pz (h : Cx G md) {idx ci j o : Nat} {a : Int} (hf : Fk md.1.cls idx ci j "Z") (q : FldI o ci j) (d : decode md.2.1 pc = .ok (.putfield idx, 3)) (ha : a = 0 ∨ a = 1) (kk : V G md k n X (up M o j a) (pc + 3) lv st) : V G md k n X M pc lv (.int (I a) :: .ref (ad (gB G) o) :: st) := V_putz h hf d q.1 q.2.1 q.2.2.1 q.2.2.2 ⟨ha, kk⟩
theorem V_il (h : Cx G md) {o : Nat} {i L : Int} (q : Arr o 100 L) (d : decode md.2.1 pc = .ok (.iaload, 1)) (hi : 0 ≤ i ∧ i < L) (kk : inR (M o i.toNat) → V G md k n X M (pc + 1) lv (.int (I (M o i.toNat)) :: st)) : V G md k n X M pc lv (.int (I i) :: .ref (ad (gB G) o) :: st) := V_iald h d q.1 q.2.1 ⟨⟨hi.1, by rw [q.2.2]; exact hi.2⟩, kk⟩
theorem V_zl (h : Cx G md) {o : Nat} {i L : Int} (q : Arr o 101 L) (d : decode md.2.1 pc = .ok (.baload, 1)) (hi : 0 ≤ i ∧ i < L) (kk : inR (M o i.toNat) → V G md k n X M (pc + 1) lv (.int (I (M o i.toNat)) :: st)) : V G md k n X M pc lv (.int (I i) :: .ref (ad (gB G) o) :: st) := V_zald h d q.1 q.2.1 ⟨⟨hi.1, by rw [q.2.2]; exact hi.2⟩, kk⟩
theorem V_is (h : Cx G md) {o : Nat} {i a L : Int} (q : Arr o 100 L) (d : decode md.2.1 pc = .ok (.iastore, 1)) (hi : 0 ≤ i ∧ i < L) (ha : inR a) (kk : V G md k n X (up M o i.toNat a) (pc + 1) lv st) : V G md k n X M pc lv (.int (I a) :: .int (I i) :: .ref (ad (gB G) o) :: st) := V_iast h d q.1 q.2.1 ⟨⟨hi.1, by rw [q.2.2]; exact hi.2⟩, ha, kk⟩
theorem V_zs (h : Cx G md) {o : Nat} {i a L : Int} (q : Arr o 101 L) (d : decode md.2.1 pc = .ok (.bastore, 1)) (hi : 0 ≤ i ∧ i < L) (ha : a = 0 ∨ a = 1) (kk : V G md k n X (up M o i.toNat a) (pc + 1) lv st) : V G md k n X M pc lv (.int (I a) :: .int (I i) :: .ref (ad (gB G) o) :: st) := V_zast h d q.1 q.2.1 ⟨⟨hi.1, by rw [q.2.2]; exact hi.2⟩, ha, kk⟩
theorem V_al (h : Cx G md) {o : Nat} {L : Int} (q : Arr o 100 L) (d : decode md.2.1 pc = .ok (.arraylength, 1)) (kk : V G md k n X M (pc + 1) lv (.int (I L) :: st)) : V G md k n X M pc lv (.ref (ad (gB G) o) :: st) := V_alen h d q.1 q.2.1 (by rw [q.2.2]; exact kk)
theorem V_or (h : Cx G md) {a b : Int} (d : decode md.2.1 pc = .ok (.ior, 1)) (kk : inR (bor a b) → V G md k n X M (pc + 1) lv (.int (I (bor a b)) :: st)) : V G md k n X M pc lv (.int (I b) :: .int (I a) :: st) := V_ior h d (by have := kk (inR_of _); unfold bor at this; rwa [I_of] at this)
theorem V_and (h : Cx G md) {a b : Int} (d : decode md.2.1 pc = .ok (.iand, 1)) (kk : inR (band a b) → V G md k n X M (pc + 1) lv (.int (I (band a b)) :: st)) : V G md k n X M pc lv (.int (I b) :: .int (I a) :: st) := V_iand h d (by have := kk (inR_of _); unfold band at this; rwa [I_of] at this)
theorem V_cp (h : Cx G md) {idx o1 o2 : Nat} {sp dp c L1 L2 : Int} (hw : Cpw md.1.cls idx) (q1 : Arr o1 100 L1) (q2 : Arr o2 100 L2) (d : decode md.2.1 pc = .ok (.invokestatic idx, 3)) (hrm : 8 ≤ (gR G).frames ∧ 200 ≤ (gR G).locals) (hst : (st.map fun v => v.category).sum ≤ 8)
    (hi : 0 ≤ sp ∧ 0 ≤ dp ∧ 0 ≤ c ∧ sp + c ≤ L1 ∧ dp + c ≤ L2) (kk : V G md k n X (cpM M o1 sp.toNat o2 dp.toNat c.toNat) (pc + 3) lv st) : V G md k n X M pc lv (.int (I c) :: .int (I dp) :: .ref (ad (gB G) o2) :: .int (I sp) :: .ref (ad (gB G) o1) :: st) :=
  V_copy h hw d q1.1 q1.2.1 q2.1 q2.2.1 hrm hst ⟨⟨hi.1, hi.2.1, hi.2.2.1, by rw [q1.2.2]; exact hi.2.2.2.1, by rw [q2.2.2]; exact hi.2.2.2.2⟩, kk⟩
variable {cd : Md} {na idx d0 o : Nat} {As : List Value}
theorem V_cVi (h : Cx G md) (hl : Lv md.1.cls idx cd na) (hd : decode md.2.1 pc = .ok (.invokevirtual idx, 3)) (hdep : cd.2.2.2.2 < d0) (hrm : Rm G d0) (hr : Rcv o cd) (hn : As.length = na) (hst : (st.map fun v => v.category).sum ≤ 8) (hk : k ≤ (gR G).cells ∧ n ≤ (gR G).slots) {Q : Int → Mem → Prop} (kk : OkI (gB G) (gl G) cd 0 0 (.ref (ad (gB G) o) :: As) X M Q NoX) (kv : ∀ r M1, inR r → Q r M1 → V G md k n X M1 (pc + 3) lv (.int (I r) :: st)) : V G md k n X M pc lv (As.reverse ++ .ref (ad (gB G) o) :: st) :=
  V_callV h hl hd hdep hrm hr.1 rfl hr.2.1 hr.2.2 hn hst hk kk (fun _ _ q => q) (fun v M1 q => by obtain ⟨r, rfl, q1, q2⟩ := q; exact kv r M1 q1 q2)
theorem V_cVv (h : Cx G md) (hl : Lv md.1.cls idx cd na) (hd : decode md.2.1 pc = .ok (.invokevirtual idx, 3)) (hdep : cd.2.2.2.2 < d0) (hrm : Rm G d0) (hr : Rcv o cd) (hn : As.length = na) (hst : (st.map fun v => v.category).sum ≤ 8) (hk : k ≤ (gR G).cells ∧ n ≤ (gR G).slots) {Q : Mem → Prop} (kk : OkV (gB G) (gl G) cd 0 0 (.ref (ad (gB G) o) :: As) X M Q NoX) (kv : ∀ M1, Q M1 → V G md k n X M1 (pc + 3) lv st) : V G md k n X M pc lv (As.reverse ++ .ref (ad (gB G) o) :: st) :=
  V_callV h hl hd hdep hrm hr.1 rfl hr.2.1 hr.2.2 hn hst hk kk (fun _ _ q => q) (fun v M1 q => by obtain ⟨rfl, q1⟩ := q; exact kv M1 q1)
theorem V_cVr (h : Cx G md) (hl : Lv md.1.cls idx cd na) (hd : decode md.2.1 pc = .ok (.invokevirtual idx, 3)) (hdep : cd.2.2.2.2 < d0) (hrm : Rm G d0) (hr : Rcv o cd) (hn : As.length = na) (hst : (st.map fun v => v.category).sum ≤ 8) (hk : k ≤ (gR G).cells ∧ n ≤ (gR G).slots) {Q : Nat → Mem → Prop} (kk : OkR (gB G) (gl G) cd 0 0 (.ref (ad (gB G) o) :: As) X M Q NoX) (kv : ∀ r M1, Q r M1 → V G md k n X M1 (pc + 3) lv (.ref (ad (gB G) r) :: st)) : V G md k n X M pc lv (As.reverse ++ .ref (ad (gB G) o) :: st) :=
  V_callV h hl hd hdep hrm hr.1 rfl hr.2.1 hr.2.2 hn hst hk kk (fun _ _ q => q) (fun v M1 q => by obtain ⟨r, rfl, q1⟩ := q; exact kv r M1 q1)
theorem V_cVl (h : Cx G md) (hl : Lv md.1.cls idx cd na) (hd : decode md.2.1 pc = .ok (.invokevirtual idx, 3)) (hdep : cd.2.2.2.2 < d0) (hrm : Rm G d0) (hr : Rcv o cd) (hn : As.length = na) (hst : (st.map fun v => v.category).sum ≤ 8) (hk : k ≤ (gR G).cells ∧ n ≤ (gR G).slots) {Q : Int64 → Mem → Prop} (kk : OkL (gB G) (gl G) cd 0 0 (.ref (ad (gB G) o) :: As) X M Q NoX) (kv : ∀ r M1, Q r M1 → V G md k n X M1 (pc + 3) lv (.long r :: st)) : V G md k n X M pc lv (As.reverse ++ .ref (ad (gB G) o) :: st) :=
  V_callV h hl hd hdep hrm hr.1 rfl hr.2.1 hr.2.2 hn hst hk kk (fun _ _ q => q) (fun v M1 q => by obtain ⟨r, rfl, q1⟩ := q; exact kv r M1 q1)
theorem V_cSi (h : Cx G md) (hl : Ls md.1.cls idx cd na) (hd : decode md.2.1 pc = .ok (.invokestatic idx, 3)) (hdep : cd.2.2.2.2 < d0) (hrm : Rm G d0) (hn : As.length = na) (hst : (st.map fun v => v.category).sum ≤ 8) (hk : k ≤ (gR G).cells ∧ n ≤ (gR G).slots) {Q : Int → Mem → Prop} (kk : OkI (gB G) (gl G) cd 0 0 As X M Q NoX) (kv : ∀ r M1, inR r → Q r M1 → V G md k n X M1 (pc + 3) lv (.int (I r) :: st)) : V G md k n X M pc lv (As.reverse ++ st) :=
  V_callS h hl hd hdep hrm hn hst hk kk (fun _ _ q => q) (fun v M1 q => by obtain ⟨r, rfl, q1, q2⟩ := q; exact kv r M1 q1 q2)
theorem V_cSv (h : Cx G md) (hl : Ls md.1.cls idx cd na) (hd : decode md.2.1 pc = .ok (.invokestatic idx, 3)) (hdep : cd.2.2.2.2 < d0) (hrm : Rm G d0) (hn : As.length = na) (hst : (st.map fun v => v.category).sum ≤ 8) (hk : k ≤ (gR G).cells ∧ n ≤ (gR G).slots) {Q : Mem → Prop} (kk : OkV (gB G) (gl G) cd 0 0 As X M Q NoX) (kv : ∀ M1, Q M1 → V G md k n X M1 (pc + 3) lv st) : V G md k n X M pc lv (As.reverse ++ st) :=
  V_callS h hl hd hdep hrm hn hst hk kk (fun _ _ q => q) (fun v M1 q => by obtain ⟨rfl, q1⟩ := q; exact kv M1 q1)
theorem V_cSl (h : Cx G md) (hl : Ls md.1.cls idx cd na) (hd : decode md.2.1 pc = .ok (.invokestatic idx, 3)) (hdep : cd.2.2.2.2 < d0) (hrm : Rm G d0) (hn : As.length = na) (hst : (st.map fun v => v.category).sum ≤ 8) (hk : k ≤ (gR G).cells ∧ n ≤ (gR G).slots) {Q : Int64 → Mem → Prop} (kk : OkL (gB G) (gl G) cd 0 0 As X M Q NoX) (kv : ∀ r M1, Q r M1 → V G md k n X M1 (pc + 3) lv (.long r :: st)) : V G md k n X M pc lv (As.reverse ++ st) :=
  V_callS h hl hd hdep hrm hn hst hk kk (fun _ _ q => q) (fun v M1 q => by obtain ⟨r, rfl, q1⟩ := q; exact kv r M1 q1)
/-- a call that throws here -/
theorem V_cX (h : Cx G md) {O : Out → Mem → Prop} (hR : Rt G X O) (hl : Lv md.1.cls idx cd na) (hlm : Cond.methodLink md.1.cls idx cd.1 ∈ wAll) (hd : decode md.2.1 pc = .ok (.invokevirtual idx, 3)) (hdep : cd.2.2.2.2 < d0) (hrm : Rm G d0) (hr : Rcv o cd) (hn : As.length = na) (hst : (st.map fun v => v.category).sum ≤ 8) (hk : k + 1 ≤ (gR G).cells ∧ n + 6 ≤ (gR G).slots) {O1 : Out → Mem → Prop} (kk : Ok (gB G) (gl G) cd 1 6 (.ref (ad (gB G) o) :: As) X M O1) (hno : ∀ v M1, ¬ O1 (.inl v) M1) (hx : ∀ E M1, O1 (.inr E) M1 → O (.inr E) M1) : V G md k n X M pc lv (As.reverse ++ .ref (ad (gB G) o) :: st) :=
  V_callVX h hR ⟨hl.1, hlm, hl.2.2.1, hl.2.2.2⟩ hd hdep hrm hr.1 rfl hr.2.1 hr.2.2 hn hst hk kk hno hx
theorem noI {Q : Int → Mem → Prop} {E : String → Mem → Prop} (h : ∀ r M1, ¬ Q r M1) : ∀ v M1, ¬ oI Q E (.inl v) M1 := fun v M1 q => by obtain ⟨r, -, -, q2⟩ := q; exact h r M1 q2
theorem noV {Q : Mem → Prop} {E : String → Mem → Prop} (h : ∀ M1, ¬ Q M1) : ∀ v M1, ¬ oV Q E (.inl v) M1 := fun v M1 q => h M1 q.2
end Lay
theorem Rm_of {G : GT} {d k n : Nat} (h : gR G = rmD d k n) : Rm G d := by unfold Rm; rw [h]; exact ⟨Nat.le_refl _, Nat.le_refl _⟩
theorem R8_of {G : GT} {d k n : Nat} (h : gR G = rmD d k n) : 8 ≤ (gR G).frames ∧ 200 ≤ (gR G).locals := by rw [h]; exact ⟨Nat.le_add_left _ _, Nat.le_add_left _ _⟩
theorem Rk_of {G : GT} {d k n : Nat} (h : gR G = rmD d k n) (hk : 1 ≤ k ∧ 6 ≤ n) : 0 + 1 ≤ (gR G).cells ∧ 0 + 6 ≤ (gR G).slots := by rw [h]; exact ⟨by have := hk.1; show 0 + 1 ≤ k; omega, by have := hk.2; show 0 + 6 ≤ n; omega⟩
theorem zk {G : GT} : 0 ≤ (gR G).cells ∧ 0 ≤ (gR G).slots := ⟨Nat.zero_le _, Nat.zero_le _⟩
theorem V_sub {G : GT} {md : Md} {k n : Nat} {X : va_W} {M : Mem} {pc : Nat} {lv lv' : List (Nat × Value)} {st : List Value} (ks : List Nat) (hl : lv_pick lv ks = lv') (kk : V G md k n X M pc lv' st) : V G md k n X M pc lv st := by
  obtain ⟨p, l, e, R, s, m, args, below, meth, c, B, A, Z⟩ := G
  exact fun hM H locs ls hls hP hD hS => kk hM H locs ls (lv_sub hls ks hl) hP hD hS
theorem V_dup2 {G : GT} {md : Md} {k n : Nat} {X : va_W} {M : Mem} {pc : Nat} {lv : List (Nat × Value)} {st : List Value} (h : Cx G md) {v w : Value} (hv : v.category = 1) (hw : w.category = 1) (d : decode md.2.1 pc = .ok (.dup2, 1)) (kk : V G md k n X M (pc + 1) lv (v :: w :: v :: w :: st)) : V G md k n X M pc lv (v :: w :: st) := by
  obtain ⟨p, l, e, R, s, m, args, below, meth, c, B, A, Z⟩ := G
  exact fun hM H locs ls hl hP hD hS => lv_dup2_11 h.1 h.2.1 d hv hw (kk hM H locs ls hl hP hD hS)
/-- a contract out of the walk -/
theorem Ok_of {B : WB} {l : Launch} {md : Md} {k n na : Nat} {av : List Value} {X : va_W} {M : Mem} {O : Out → Mem → Prop} (hmk : Mk md na) (hl : l.stackTraces = false) (hlen : (lg_sl av).length ≤ md.2.2.1)
    (body : ∀ G : GT, Ct G md X O B l k n → V G md 0 0 X M 0 (lv_args 0 av) []) : Ok B l md k n av X M O :=
  Ok_start hmk hl hlen (fun G h1 h2 h3 => body G ⟨h1, h2, h3.1, h3.2.1, h3.2.2⟩)
theorem Ct_fl {G : GT} {md : Md} {X : va_W} {O : Out → Mem → Prop} {B : WB} {l : Launch} {k n : Nat} (h : Ct G md X O B l k n) : (gl G).stackTraces = false := by
  obtain ⟨p, l, e, R, s, m, args, below, meth, c, B, A, Z⟩ := G
  exact h.1.2.2.2.2.2.2.2.1
def RcC (o : Nat) (C : String) : Prop := o < N0 ∧ sh o < 100 ∧ (vwCl[sh o]?).map (·.1) = some C
/-- the sets of cells, the rows, the reference's memories -/
def isCS (o : Nat) : Prop := o = 33 ∨ o = 36 ∨ o = 40 ∨ o = 43 ∨ o = 47 ∨ o = 53 ∨ o = 59 ∨ o = 62 ∨ o = 65 ∨ o = 69
def isLi (o : Nat) : Prop := o = 25 ∨ o = 27
def isHp (o : Nat) : Prop := o = 80 ∨ o = 97 ∨ o = 114
section More
variable {G : GT} {md : Md} {k n : Nat} {X : va_W} {M : Mem} {pc : Nat} {lv : List (Nat × Value)} {st : List Value}
theorem V_ldc2 (h : Cx G md) {idx : Nat} {v : Int64} (hw : Cond.constantLong md.1.cls idx v ∈ wAll) (d : decode md.2.1 pc = .ok (.ldc2_w idx, 3)) (kk : V G md k n X M (pc + 3) lv (.long v :: st)) : V G md k n X M pc lv st := by
  obtain ⟨p, l, e, R, s, m, args, below, meth, c, B, A, Z⟩ := G
  exact fun hM H locs ls hl hP hD hS => lv_ldc2 h.1 h.2.1 h.2.2.2.1 (h.2.2.2.2.1 _ hw) d (kk hM H locs ls hl hP hD hS)
theorem V_dconst0 (h : Cx G md) (d : decode md.2.1 pc = .ok (.dconst 0, 1)) (kk : V G md k n X M (pc + 1) lv (.double FP.dconst0 :: st)) : V G md k n X M pc lv st := by
  obtain ⟨p, l, e, R, s, m, args, below, meth, c, B, A, Z⟩ := G
  exact fun hM H locs ls hl hP hD hS => lv_dconst0 h.1 h.2.1 d (kk hM H locs ls hl hP hD hS)
theorem V_i2d (h : Cx G md) {a : Int32} (d : decode md.2.1 pc = .ok (.i2d, 1)) (kk : V G md k n X M (pc + 1) lv (.double (FP.i2d a) :: st)) : V G md k n X M pc lv (.int a :: st) := by
  obtain ⟨p, l, e, R, s, m, args, below, meth, c, B, A, Z⟩ := G
  exact fun hM H locs ls hl hP hD hS => lv_i2d h.1 h.2.1 d (kk hM H locs ls hl hP hD hS)
theorem V_ddiv (h : Cx G md) {a b : UInt64} (hne : vf_n64 (FP.ddiv a b)) (d : decode md.2.1 pc = .ok (.ddiv, 1)) (kk : V G md k n X M (pc + 1) lv (.double (FP.ddiv a b) :: st)) : V G md k n X M pc lv (.double b :: .double a :: st) := by
  obtain ⟨p, l, e, R, s, m, args, below, meth, c, B, A, Z⟩ := G
  exact fun hM H locs ls hl hP hD hS => lv_ddiv h.1 h.2.1 d hne (kk hM H locs ls hl hP hD hS)
theorem V_lsw2 (h : Cx G md) {dflt k1 k2 o1 o2 a : Int} {len : Nat} (t1 t2 t3 : Nat) (hlt : k1 < k2) (h1 : (pc : Int) + o1 = (t1 : Int)) (h2 : (pc : Int) + o2 = (t2 : Int)) (h3 : (pc : Int) + dflt = (t3 : Int)) (d : decode md.2.1 pc = .ok (.lookupswitch dflt #[(k1, o1), (k2, o2)], len)) (ha : inR a) (kk : (a = k1 → V G md k n X M t1 lv st) ∧ (a = k2 → V G md k n X M t2 lv st) ∧ (a ≠ k1 → a ≠ k2 → V G md k n X M t3 lv st)) : V G md k n X M pc lv (.int (I a) :: st) := by
  obtain ⟨p, l, e, R, s, m, args, below, meth, c, B, A, Z⟩ := G
  intro hM H locs ls hl hP hD hS
  have hall : ((#[(k1, o1), (k2, o2)] : Array (Int × Int)).toList.zip ((#[(k1, o1), (k2, o2)] : Array (Int × Int)).toList.drop 1)).all (fun (a, next) => a.1 < next.1) = true := by simp [hlt]
  by_cases e1 : a = k1
  · exact lv_lookup (off := o1) (tgt := t1) h.1 h.2.1 d hall (by rw [I_toInt ha, e1]; simp [Op.lookupswitch.offset]) h1 (kk.1 e1 hM H locs ls hl hP hD hS)
  · by_cases e2 : a = k2
    · exact lv_lookup (off := o2) (tgt := t2) h.1 h.2.1 d hall (by rw [I_toInt ha]; have : ¬ k1 = a := fun z => e1 z.symm; simp [Op.lookupswitch.offset, e2]; intro z; omega) h2 (kk.2.1 e2 hM H locs ls hl hP hD hS)
    · exact lv_lookup (off := dflt) (tgt := t3) h.1 h.2.1 d hall (by rw [I_toInt ha]; simp [Op.lookupswitch.offset]; intros; omega) h3 (kk.2.2 e1 e2 hM H locs ls hl hP hD hS)
end More
/-! ===== METHODS THAT CATCH ===== -/
def MkW (md : Md) (hh : List (Nat × Nat × Nat × Nat)) (n : Nat) : Prop := plainName md.1.cls = true ∧ Cond.codeWith md.1 md.2.1 md.2.2.1 md.2.2.2.1 hh ∈ wAll ∧ Cond.initialized md.1.cls ∈ wAll ∧ (md.1.cls ≠ "java/lang/invoke/MethodHandle" ∧ md.1.cls ≠ "java/lang/invoke/VarHandle" ∧ (parseMethodDescriptor md.1.desc).map (fun d => d.parameters.length) = some n) ∧ md.2.2.1 ≤ 61
def NcP (E nm : String) : Prop := (E = "java/lang/IllegalArgumentException" ∧ nm = "java/lang/IndexOutOfBoundsException") ∨ (E = "java/lang/IllegalStateException" ∧ nm = "java/lang/IndexOutOfBoundsException") ∨ (E = "java/lang/IllegalStateException" ∧ nm = "java/lang/IllegalArgumentException")
theorem NcP_of {B : WB} {s : State} {E nm : String} (hKn : Kn B s) (h : NcP E nm) : va_Nc E nm s := by
  rcases h with ⟨rfl, rfl⟩ | ⟨rfl, rfl⟩ | ⟨rfl, rfl⟩
  · exact hKn.2.2.2.2.2.1
  · exact hKn.2.2.2.2.2.2.1
  · exact hKn.2.2.2.2.2.2.2.1
/-- a handler of a helper's table: the rows ahead of it name other classes -/
def Hnd (own : String) (hh : List (Nat × Nat × Nat × Nat)) (pc : Nat) (E : String) (hpc : Nat) : Prop := ∃ (pre suf : List (Nat × Nat × Nat × Nat)) (x : Nat × Nat × Nat × Nat), hh = pre ++ x :: suf ∧ (∀ z ∈ pre, z.2.2.2 ≠ 0 ∧ ∃ nm, Cond.classLink own z.2.2.2 nm ∈ wAll ∧ NcP E nm) ∧ covers ⟨x.1, x.2.1, x.2.2.1, x.2.2.2⟩ pc = true ∧ x.2.2.2 ≠ 0 ∧ Cond.classLink own x.2.2.2 E ∈ wAll ∧ Cond.castable E E ∈ nestW ∧ x.2.2.1 = hpc
/-! THE CLAIM OUT OF ONE WALK OF THE LAW'S BODY. Your part is whole_start (and what it stands on); all else here is the same for every law, but numbers. -/
def R_law : String := "RuntimeHeapLaw"
def lw_P (b : Addr) (xs : List Int32) (args : Array Value) (s : State) : Prop := args = #[.ref b] ∧ s.IntsAt b xs ∧ xs.length ≤ 260 ∧ (Jvm.Cond.and given_1 narrow_1).before args s = true
/-- what a walk over the start with the record d0 says of its end, said of the start itself -/
theorem lw_closed {s t : State} {o : Outcome} {d0 : Drawn} {L : List Loc} {k n : Nat} (hd0 : s.drawn.sameBut d0 lw_cs) (hv : ∃ v, o = .returned v) (hW : (s.setDrawn d0).WarmedH t.vm) (hs : (s.setDrawn d0).sameButNew ({ t with vm := s.vm } : State) L k n) : State.butDraws s t lw_cs (fun t1 => Framed s o t1 L k n) := by
  have h2 : t.drawn = d0 := congrArg State.drawn hs.1
  refine ⟨⟨hv, hW, State.sameButNew.setDrawn hs s.drawn⟩, ?_, by decide⟩
  rw [h2]
  exact hd0
def lw_Q (_ : Array Value) (s : State) (o : Outcome) (t : State) : Prop := o = .returned (some (.int 1)) ∧ State.butDraws s t lw_cs (fun t1 => Framed s o t1 [] 600104 7301314)
def lw_Z (below : List Frame) (a : Array Value) (s : State) : State → Prop := fun t => ∃ o, t.status = .running ∧ Ended t below o ∧ lw_Q a s o t
/-- the law's own end, with 1 on the stack, nothing written that was there before, its room as the claim has it; d0: the record of draws at this point (at the entry s.drawn: begin with 'refine W.base ?_' and 'have hd0 := Drawn.sameBut.refl s.drawn lw_cs') -/
theorem lw_ret {p : Program} {l : Launch} {e : Env} {s : State} {m : MethodId} {below : List Frame} {meth : Method} {c : Code} {b : Nat} {d0 : Drawn} (hd0 : s.drawn.sameBut d0 lw_cs) (hx : p.tables.exec = Jvm.exec) (hb : c.code = code) (hr : meth.sig.returnType = ret) (hlocks : meth.locks = false) {pc : Nat} {H : Heap} {ls : Array Slot} (hdg : decode code pc = .ok (.ireturn, 1)) : W p l e room_1 (s.setDrawn d0) m #[Value.ref b] below meth c H [] 600104 7301314 (lw_Z below #[Value.ref b] s) (F0 m pc ls [.int 1]) := by
  intro T hT X
  obtain ⟨fs, hret, hrun, hended, hW, hframe⟩ := X.leave (v := some (.int 1)) (hlocks := hlocks) (fun h => by rw [hr] at h; cases h)
  have hmeth' : T.vm.method? m = some meth := X.method'
  refine ⟨T.setFrames fs, ?_, .returned (some (.int 1)), hrun, hended, rfl, lw_closed hd0 ⟨_, rfl⟩ hW hframe⟩
  jvm_step X.here [X.here.top, hx, hb, hdg, hmeth', hr, ret, narrow_b1]
  (try refine ⟨rfl, ?_⟩); (try refine ⟨rfl, ?_⟩)
  first | (intro acts; rw [hret _ acts rfl rfl rfl]) | rw [hret _ _ rfl rfl rfl]
  exact Steps.refl _
/-- what holds at the law's entry: the machine, the code, the tables' words (any of lw_tbl by 'hts w (by decide +kernel)'), the script of L ints xs at the cell b, what the Statement gives of the start (any of its parts by flat_of_before) -/
def lw_At (p : Program) (s : State) (m : MethodId) (meth : Method) (c : Code) (b L : Nat) (xs : Nat → Int32) : Prop :=
  p.tables.exec = Jvm.exec ∧ c.code = code ∧ meth.sig.returnType = ret ∧ c.maxLocals = 8 ∧ s.vm.findClass R_law = some m.cls ∧ (∀ w ∈ lw_tbl, w.before #[Value.ref b] s = true) ∧ va_X b L xs s s.heap ∧ b < s.heap.size ∧ meth.locks = false ∧ (Jvm.Cond.and given_1 narrow_1).before #[Value.ref b] s = true
/-! ===== THE LAW'S OWN WALK ===== -/
theorem va_D_fst {A : Nat → Prop} {ws ws' : va_W} (h : ws'.map (·.1) = ws.map (·.1)) (hD : va_D A ws) : va_D A ws' := by
  have key : ∀ (k : Nat) (q : Nat × va_E), ws'[k]? = some q → ∃ q0, ws[k]? = some q0 ∧ q0.1 = q.1 := by
    intro k q hk
    have h1 : (ws'.map (·.1))[k]? = some q.1 := by rw [List.getElem?_map, hk]; rfl
    rw [h, List.getElem?_map] at h1
    cases hq : ws[k]? with
    | none => rw [hq] at h1; cases h1
    | some q0 => rw [hq] at h1; exact ⟨q0, rfl, Option.some.inj h1⟩
  refine ⟨fun i j x y hi hj hxy => ?_, fun k q hk => ?_⟩
  · obtain ⟨x0, h1, h2⟩ := key i x hi
    obtain ⟨y0, h3, h4⟩ := key j y hj
    exact hD.1 i j x0 y0 h1 h3 (h2.trans (hxy.trans h4.symm))
  · obtain ⟨q0, h1, h2⟩ := key k q hk
    rw [← h2]
    exact hD.2 k q0 h1
/-- G walks the law: the script of L ints xs at b, the claim's room and end -/
def Lz (G : GT) (b L : Nat) (xs : Nat → Int32) : Prop :=
  match G with
  | (_, _, _, R, s, _, args, below, meth, _, _, A, Z) => args = #[.ref b] ∧ R = room_1 ∧ Z = lw_Z below #[.ref b] s ∧ A = (fun q => s.heap.size ≤ q) ∧ meth.sig.returnType = ret ∧ va_X b L xs s s.heap ∧ b < s.heap.size ∧ L ≤ 260
abbrev md_law : Md := (yL_law, code, 8, ret, 60)
section Law
variable {G : GT} {md : Md} {k n : Nat} {X : va_W} {M : Mem} {pc : Nat} {lv lv' : List (Nat × Value)} {st : List Value} {b L : Nat} {xs : Nat → Int32} 
theorem V_widen {k' n' : Nat} (h1 : k ≤ k') (h2 : n ≤ n') (kk : V G md k' n' X M pc lv st) : V G md k n X M pc lv st := by
  obtain ⟨p, l, e, R, s, m, args, below, meth, c, B, A, Z⟩ := G
  exact fun hM H locs ls hl hP hD hS => W.widen h1 h2 (kk hM H locs ls hl hP hD hS)
theorem V_lend (h : Cx G md_law) (hz : Lz G b L xs) (hk : k ≤ 600104 ∧ n ≤ 7301314) (d : decode code pc = .ok (.ireturn, 1)) : V G md_law k n X M pc lv [.int (I 1)] := by
  obtain ⟨p, l, e, R, s, m, args, below, meth, c, B, A, Z⟩ := G
  obtain ⟨hx, hb, hml, hown, hts, hKn, hlk, hfl, hA1, hA2, hret⟩ := h
  obtain ⟨rfl, rfl, rfl, rfl, hr, hX, hbl, hL⟩ := hz
  intro hM H locs ls hl hP hD hS
  refine va_forget (fun q hq => hS.2.2 q hq) ?_
  refine W.widen hk.1 hk.2 ?_
  exact lw_ret (s := s) (d0 := s.drawn) (Drawn.sameBut.refl s.drawn lw_cs) hx hb hr hlk d
theorem V_sld (h : Cx G md) (hz : Lz G b L xs) {i : Int} (hi : 0 ≤ i ∧ i < L) (d : decode md.2.1 pc = .ok (.iaload, 1)) (kk : inR ((xs i.toNat).toInt) → V G md k n X M (pc + 1) lv (.int (I ((xs i.toNat).toInt)) :: st)) : V G md k n X M pc lv (.int (I i) :: .ref b :: st) := by
  obtain ⟨p, l, e, R, s, m, args, below, meth, c, B, A, Z⟩ := G
  obtain ⟨hx, hb, hml, hown, hts, hKn, hlk, hfl, hA1, hA2, hret⟩ := h
  obtain ⟨rfl, rfl, rfl, rfl, hr, hX, hbl, hL⟩ := hz
  intro hM H locs ls hl hP hD hS
  refine va_sld hx hb hX hbl (Nat.not_le.mpr hbl) hS (I_in hi.1 hi.2 (by omega)) d ?_
  rw [I_cl hi.1 (by omega)]
  have h1 := kk (inR_of _) hM H locs ls hl hP hD hS
  rwa [I_of] at h1
theorem V_slen (h : Cx G md) (hz : Lz G b L xs) (d : decode md.2.1 pc = .ok (.arraylength, 1)) (kk : V G md k n X M (pc + 1) lv (.int (I (L : Int)) :: st)) : V G md k n X M pc lv (.ref b :: st) := by
  obtain ⟨p, l, e, R, s, m, args, below, meth, c, B, A, Z⟩ := G
  obtain ⟨hx, hb, hml, hown, hts, hKn, hlk, hfl, hA1, hA2, hret⟩ := h
  obtain ⟨rfl, rfl, rfl, rfl, hr, hX, hbl, hL⟩ := hz
  intro hM H locs ls hl hP hD hS
  refine va_slen hx hb hX hbl (Nat.not_le.mpr hbl) hS d ?_
  rw [I_nat]
  exact kk hM H locs ls hl hP hD hS
/-- two longs are compared, and a branch is taken where they are the same -/
theorem V_lcmp (h : Cx G md) {x y : Int64} (d : decode md.2.1 pc = .ok (.lcmp, 1)) (kk : ∀ z : Int, inR z → (z = 0 ↔ x = y) → V G md k n X M (pc + 1) lv (.int (I z) :: st)) : V G md k n X M pc lv (.long y :: .long x :: st) := by
  obtain ⟨p, l, e, R, s, m, args, below, meth, c, B, A, Z⟩ := G
  intro hM H locs ls hl hP hD hS
  refine W.lcmp h.1 h.2.1 d ?_
  have h1 := kk (lg_cmp x y).toInt (inR_of _) (by
    constructor
    · intro hz
      have h0 : lg_cmp x y = 0 := by rw [← I_of (lg_cmp x y), hz]; rfl
      exact (lg_cmp_eq x y).mp h0
    · intro hxy
      have h0 : lg_cmp x y = 0 := (lg_cmp_eq x y).mpr hxy
      rw [h0]; rfl) hM H locs ls hl hP hD hS
  rwa [I_of] at h1
/-- a double compared with itself that is no NaN -/
theorem V_dcmp (h : Cx G md) {x y : UInt64} {op : CmpOp} (d : decode md.2.1 pc = .ok (.dcmp op, 1)) (kk : V G md k n X M (pc + 1) lv (.int (Op.cmpValue (FP.dcmp x y) op) :: st)) : V G md k n X M pc lv (.double y :: .double x :: st) := by
  obtain ⟨p, l, e, R, s, m, args, below, meth, c, B, A, Z⟩ := G
  exact fun hM H locs ls hl hP hD hS => lv_dcmp h.1 h.2.1 d (kk hM H locs ls hl hP hD hS)
theorem V_dstore (h : Cx G md) {j : Nat} {x : UInt64} (hn : j + 1 < md.2.2.1) (hlv : (j, Value.double x) :: lv.filter (fun q => !(q.1 == j) && (!(q.1 == j + 1) && !(q.1 + 1 == j && q.2.category == 2))) = lv') (d : decode md.2.1 pc = .ok (.dstore j, 2)) (kk : V G md k n X M (pc + 2) lv' st) : V G md k n X M pc lv (.double x :: st) := by
  obtain ⟨p, l, e, R, s, m, args, below, meth, c, B, A, Z⟩ := G
  exact fun hM H locs ls hl hP hD hS => lv_dstore h.1 h.2.1 d hl hn hlv (fun ls hl => kk hM H locs ls hl hP hD hS)
theorem V_dload (h : Cx G md) {j : Nat} {x : UInt64} (q : Nat) (hq : lv[q]? = some (j, .double x)) (d : decode md.2.1 pc = .ok (.dload j, 2)) (kk : V G md k n X M (pc + 2) lv (.double x :: st)) : V G md k n X M pc lv st := by
  obtain ⟨p, l, e, R, s, m, args, below, meth, c, B, A, Z⟩ := G
  exact fun hM H locs ls hl hP hD hS => lv_dload h.1 h.2.1 d (lv_at hl q hq) (kk hM H locs ls hl hP hD hS)
theorem V_tsw (h : Cx G md) {dflt lo hi : Int} {offs : Array Int} {len : Nat} {a : Int} (d : decode md.2.1 pc = .ok (.tableswitch dflt lo hi offs, len)) (ha : inR a) (kk : (a < lo ∨ hi < a → ∀ t : Nat, (pc : Int) + dflt = t → V G md k n X M t lv st) ∧ (lo ≤ a → a ≤ hi → ∀ (off : Int) (t : Nat), offs[(a - lo).toNat]? = some off → (pc : Int) + off = t → V G md k n X M t lv st)) (hd0 : ∃ t : Nat, (pc : Int) + dflt = t) (hd1 : ∀ j : Nat, j ≤ (hi - lo).toNat → ∃ off, offs[j]? = some off ∧ ∃ t : Nat, (pc : Int) + off = t) : V G md k n X M pc lv (.int (I a) :: st) := by
  obtain ⟨p, l, e, R, s, m, args, below, meth, c, B, A, Z⟩ := G
  intro hM H locs ls hl hP hD hS
  by_cases h1 : a < lo ∨ hi < a
  · obtain ⟨t, ht⟩ := hd0
    exact lv_tableOut (tgt := t) h.1 h.2.1 d (by rw [I_toInt ha]; exact h1) ht (kk.1 h1 t ht hM H locs ls hl hP hD hS)
  · have h2 : lo ≤ a := by omega
    have h3 : a ≤ hi := by omega
    obtain ⟨off, ho, t, ht⟩ := hd1 (a - lo).toNat (by omega)
    exact lv_tableIn (off := off) (tgt := t) h.1 h.2.1 d (by rw [I_toInt ha]; omega) (by rw [I_toInt ha]; omega) (by rw [I_toInt ha]; exact ho) ht (kk.2 h2 h3 off t ho ht hM H locs ls hl hP hD hS)
end Law
