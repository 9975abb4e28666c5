/-! ===== THE LAW'S OWN OBJECTS: they lie beside the fixed ones, each at its address, by which it is known; 0 is null ===== -/
abbrev Sh : Type := List (Nat × Nat × Nat × Nat)
/-- what is known of the object at a: its role, whose it is, its length -/
def lk : Sh → Nat → Option (Nat × Nat × Nat)
  | [], _ => none
  | e :: S, a => if e.1 = a then some e.2 else lk S a
/-- the shape of a role: 12 Sim, 13 Thing; rows of 100 int, 101 boolean, 102 Thing, 103 Thing[], 104 int[] -/
def shD (r : Nat) : Nat := if r = 0 then 12 else if r = 1 then 13 else if r < 12 then 102 else if r = 12 then 103 else if r = 13 then 104 else if r < 18 then 100 else 101
def isRc (c j : Nat) : Bool := if c = 12 then (Nat.beq j 0 || Nat.beq j 3 || Nat.beq j 5 || Nat.beq j 7 || Nat.beq j 8 || Nat.beq j 10 || Nat.beq j 15 || Nat.beq j 19) else ((Nat.ble 4 j && Nat.ble j 8) || (Nat.ble 15 j && Nat.ble j 18) || Nat.beq j 23)
def lnC (c : Nat) : Nat := if c = 12 then 21 else 24
def rfo (v : Int) : Option Nat := if v.toNat = 0 then none else some v.toNat
def rv (t : Nat) : Value := va_rf (if t = 0 then none else some t)
def dfd (c : Nat) (D : Mem) (a j : Nat) : Value := if isRc c j = true then rv (D a j).toNat else .int (I (D a j))
def arB (B : WB) (c : Nat) : ClassId := if c = 100 then B.2.1 else if c = 101 then B.2.2.1 else if c = 102 then B.2.2.2.1.1 else if c = 103 then B.2.2.2.1.2.1 else B.2.2.2.1.2.2
def denE (B : WB) (D : Mem) (a c n : Nat) : va_E := if c < 100 then .inr (c, (List.range (lnC c)).map (dfd c D a)) else .inl (arB B c, n, if c < 102 then .inl (fun j => I (D a j)) else .inr (.inr (.inr (.inr (fun j => rfo (D a j))))))
def dl (B : WB) (S : Sh) (D : Mem) : va_W := S.map (fun e => (e.1, denE B D e.1 (shD e.2.1) e.2.2.2))
def ity (c j : Nat) : Bool := if c < 100 then !isRc c j else Nat.blt c 102
/-- nothing lies at 0; rows are short; numbers are in range -/
def SOK (S : Sh) (D : Mem) : Prop := lk S 0 = none ∧ ∀ a r o n, lk S a = some (r, o, n) → n < 100000 ∧ ∀ j, ity (shD r) j = true → inR (D a j)
def IsC (S : Sh) (t c : Nat) : Prop := ∃ r o n, lk S t = some (r, o, n) ∧ shD r = c
def IsA (S : Sh) (t c n : Nat) : Prop := ∃ r o, lk S t = some (r, o, n) ∧ shD r = c
def lnS (S : Sh) (t : Nat) : Nat := match lk S t with | some x => x.2.2 | none => 0
def Xs (S S' : Sh) : Prop := ∃ S2, S' = S ++ S2
def zr (D : Mem) (q : Nat) : Mem := fun a j => if a = q then 0 else D a j
theorem Xs.rf {S : Sh} : Xs S S := ⟨[], (List.append_nil S).symm⟩
theorem Xs.tr {S S1 S2 : Sh} (h : Xs S S1) (g : Xs S1 S2) : Xs S S2 := by
  obtain ⟨a, rfl⟩ := h
  obtain ⟨b, rfl⟩ := g
  exact ⟨a ++ b, List.append_assoc _ _ _⟩
theorem Xs.one {S : Sh} {e : Nat × Nat × Nat × Nat} : Xs S (S ++ [e]) := ⟨[e], rfl⟩
theorem lk_app {S S2 : Sh} {a : Nat} {x : Nat × Nat × Nat} (h : lk S a = some x) : lk (S ++ S2) a = some x := by
  induction S with
  | nil => exact absurd h (by simp [lk])
  | cons e S ih =>
    show (if e.1 = a then some e.2 else lk (S ++ S2) a) = some x
    by_cases he : e.1 = a
    · rw [if_pos he]
      have h1 : (if e.1 = a then some e.2 else lk S a) = some x := h
      rw [if_pos he] at h1
      exact h1
    · rw [if_neg he]
      have h1 : (if e.1 = a then some e.2 else lk S a) = some x := h
      rw [if_neg he] at h1
      exact ih h1
theorem lk_x {S S' : Sh} {a : Nat} {x : Nat × Nat × Nat} (hx : Xs S S') (h : lk S a = some x) : lk S' a = some x := by
  obtain ⟨S2, rfl⟩ := hx
  exact lk_app h
theorem lk_one {S : Sh} {q a : Nat} {x : Nat × Nat × Nat} (h : lk S q = none) : lk (S ++ [(q, x)]) a = if q = a then some x else lk S a := by
  induction S with
  | nil => rfl
  | cons e S ih =>
    have h1 : (if e.1 = q then some e.2 else lk S q) = none := h
    have hq : e.1 ≠ q := fun z => by rw [if_pos z] at h1; cases h1
    rw [if_neg hq] at h1
    show (if e.1 = a then some e.2 else lk (S ++ [(q, x)]) a) = (if q = a then some x else (if e.1 = a then some e.2 else lk S a))
    rw [ih h1]
    by_cases h2 : q = a
    · rw [if_pos h2, if_pos h2, if_neg (fun z => hq (z.trans h2.symm))]
    · rw [if_neg h2, if_neg h2]
theorem lk_new {S : Sh} {q : Nat} {x : Nat × Nat × Nat} (h : lk S q = none) : lk (S ++ [(q, x)]) q = some x := by rw [lk_one h, if_pos rfl]
theorem lk_get {S : Sh} {a : Nat} {x : Nat × Nat × Nat} (h : lk S a = some x) : ∃ k : Nat, S[k]? = some (a, x) := by
  induction S with
  | nil => exact absurd h (by simp [lk])
  | cons e S ih =>
    have h1 : (if e.1 = a then some e.2 else lk S a) = some x := h
    by_cases he : e.1 = a
    · rw [if_pos he] at h1
      refine ⟨0, ?_⟩
      subst he
      cases h1
      rfl
    · rw [if_neg he] at h1
      obtain ⟨k, hk⟩ := ih h1
      exact ⟨k + 1, hk⟩
theorem isa_c {S : Sh} {t c n : Nat} (h : IsA S t c n) : IsC S t c := by
  obtain ⟨r, o, h1, h2⟩ := h
  exact ⟨r, o, n, h1, h2⟩
theorem isa_x {S S' : Sh} {t c n : Nat} (hx : Xs S S') (h : IsA S t c n) : IsA S' t c n := by
  obtain ⟨r, o, h1, h2⟩ := h
  exact ⟨r, o, lk_x hx h1, h2⟩
theorem isc_x {S S' : Sh} {t c : Nat} (hx : Xs S S') (h : IsC S t c) : IsC S' t c := by
  obtain ⟨r, o, n, h1, h2⟩ := h
  exact ⟨r, o, n, lk_x hx h1, h2⟩
theorem lnS_of {S : Sh} {t r o n : Nat} (h : lk S t = some (r, o, n)) : lnS S t = n := by unfold lnS; rw [h]
theorem sok_ne {S : Sh} {D : Mem} {t : Nat} {x : Nat × Nat × Nat} (hs : SOK S D) (h : lk S t = some x) : t ≠ 0 := fun z => by
  rw [z, hs.1] at h
  cases h
theorem rv_ne {t : Nat} (h : t ≠ 0) : rv t = .ref t := by
  unfold rv
  rw [if_neg h]
  rfl
theorem rvnull : rv 0 = .null := rfl
theorem rv_cat (t : Nat) : (rv t).category = 1 := by
  unfold rv
  split <;> rfl
theorem sok_up {S : Sh} {D : Mem} {t j r o n : Nat} {a : Int} (hs : SOK S D) (h : lk S t = some (r, o, n)) (ha : ity (shD r) j = true → inR a) : SOK S (up D t j a) := by
  refine ⟨hs.1, fun b r' o' n' hb => ⟨(hs.2 b r' o' n' hb).1, fun i hi => ?_⟩⟩
  unfold up
  split
  · rename_i hh
    obtain ⟨rfl, rfl⟩ := hh
    rw [h] at hb
    cases hb
    exact ha hi
  · exact (hs.2 b r' o' n' hb).2 i hi
theorem denE_cong {B : WB} {D D' : Mem} {a c n : Nat} (h : ∀ j, D' a j = D a j) : denE B D' a c n = denE B D a c n := by
  have h1 : D' a = D a := funext h
  have h2 : dfd c D' a = dfd c D a := by funext j; unfold dfd; rw [h1]
  unfold denE
  rw [h1, h2]
theorem dl_at {B : WB} {M D : Mem} {S : Sh} {k : Nat} {e : Nat × Nat × Nat × Nat} (h : S[k]? = some e) : (wl B M ++ dl B S D)[N0 + k]? = some (e.1, denE B D e.1 (shD e.2.1) e.2.2.2) := by
  rw [List.getElem?_append_right (by rw [wl_len]; omega), wl_len, Nat.add_sub_cancel_left]
  unfold dl
  rw [List.getElem?_map, h]
  rfl
theorem dl_set {B : WB} {M D D' : Mem} {S : Sh} {A : Nat → Prop} (hD : va_D A (wl B M ++ dl B S D)) {k : Nat} {e : Nat × Nat × Nat × Nat} (h : S[k]? = some e) {E : va_E} (hE : E = denE B D' e.1 (shD e.2.1) e.2.2.2) (hne : ∀ a, a ≠ e.1 → ∀ j, D' a j = D a j) : (wl B M ++ dl B S D).set (N0 + k) (e.1, E) = wl B M ++ dl B S D' := by
  have hkl : k < S.length := (List.getElem?_eq_some_iff.mp h).1
  apply List.ext_getElem?
  intro i
  by_cases hi : i = N0 + k
  · subst hi
    rw [List.getElem?_set_self (by rw [List.length_append, wl_len]; unfold dl; rw [List.length_map]; omega), dl_at h, hE]
  · rw [List.getElem?_set_ne (fun z => hi z.symm)]
    by_cases hl : i < N0
    · rw [List.getElem?_append_left (by rw [wl_len]; exact hl), List.getElem?_append_left (by rw [wl_len]; exact hl)]
    · obtain ⟨j, rfl⟩ : ∃ j, i = N0 + j := ⟨i - N0, by omega⟩
      cases hj : S[j]? with
      | none =>
        have hj2 : S.length ≤ j := List.getElem?_eq_none_iff.mp hj
        rw [List.getElem?_eq_none (by rw [List.length_append, wl_len]; unfold dl; rw [List.length_map]; omega), List.getElem?_eq_none (by rw [List.length_append, wl_len]; unfold dl; rw [List.length_map]; omega)]
      | some e2 =>
        have hne2 : e2.1 ≠ e.1 := fun z => hi (hD.1 _ _ _ _ (dl_at hj) (dl_at h) z)
        rw [dl_at hj, dl_at hj, denE_cong (hne e2.1 hne2)]
theorem dl_fst {B : WB} {M M' D D' : Mem} {S : Sh} : (wl B M' ++ dl B S D').map (·.1) = (wl B M ++ dl B S D).map (·.1) := by simp [wl, dl, Function.comp_def]
theorem dl_addr {B : WB} {M M' D D' : Mem} {S : Sh} {A : Nat → Prop} (h : va_D A (wl B M ++ dl B S D)) : va_D A (wl B M' ++ dl B S D') := va_D_fst dl_fst h
theorem dl_lt {B : WB} {M D : Mem} {S : Sh} {H : Heap} (hP : va_P B.1 vwCl (wl B M ++ dl B S D) H) {a : Nat} {x : Nat × Nat × Nat} (h : lk S a = some x) : a < H.size := by
  obtain ⟨k, hk⟩ := lk_get h
  exact (hP _ _ (dl_at hk)).lt
theorem dl_pos {B : WB} {M : Mem} {X : va_W} {H : Heap} (hP : va_P B.1 vwCl (wl B M ++ X) H) : 0 < H.size := Nat.lt_of_le_of_lt (Nat.zero_le _) (hP 0 _ (wl_get (by decide))).lt
theorem lk_mem {S : Sh} {e : Nat × Nat × Nat × Nat} (h : e ∈ S) : ∃ x, lk S e.1 = some x := by
  induction S with
  | nil => exact absurd h List.not_mem_nil
  | cons f S ih =>
    by_cases hf : f.1 = e.1
    · exact ⟨f.2, if_pos hf⟩
    · rcases List.mem_cons.mp h with rfl | h
      · exact absurd rfl hf
      · obtain ⟨x, hx⟩ := ih h
        exact ⟨x, (if_neg hf).trans hx⟩
theorem dl_zr {B : WB} {D : Mem} {S : Sh} {q : Nat} (h : lk S q = none) : dl B S (zr D q) = dl B S D := by
  unfold dl
  refine List.map_congr_left (fun e he => ?_)
  have hne : e.1 ≠ q := fun z => by
    obtain ⟨x, hx⟩ := lk_mem he
    rw [z, h] at hx
    cases hx
  rw [denE_cong (fun j => if_neg hne)]
theorem dl_new {B : WB} {M D : Mem} {S : Sh} {q r o L : Nat} (h : lk S q = none) : (wl B M ++ dl B S D) ++ [(q, denE B (zr D q) q (shD r) L)] = wl B M ++ dl B (S ++ [(q, r, o, L)]) (zr D q) := by
  rw [List.append_assoc, ← dl_zr (D := D) h]
  congr 1
  unfold dl
  rw [List.map_append]
  rfl
theorem sok_new {S : Sh} {D : Mem} {q r o L : Nat} (hs : SOK S D) (hq : q ≠ 0) (h : lk S q = none) (hL : L < 100000) : SOK (S ++ [(q, r, o, L)]) (zr D q) := by
  refine ⟨?_, fun a r' o' n' ha => ?_⟩
  · rw [lk_one h, if_neg hq]
    exact hs.1
  · rw [lk_one h] at ha
    by_cases hqa : q = a
    · rw [if_pos hqa] at ha
      cases ha
      refine ⟨hL, fun j _ => ?_⟩
      show inR (if a = q then 0 else D a j)
      rw [if_pos hqa.symm]
      exact ⟨by decide, by decide⟩
    · rw [if_neg hqa] at ha
      refine ⟨(hs.2 a r' o' n' ha).1, fun j hj => ?_⟩
      show inR (if a = q then 0 else D a j)
      rw [if_neg (fun z => hqa z.symm)]
      exact (hs.2 a r' o' n' ha).2 j hj
theorem dfd_set {c L j t : Nat} {D : Mem} {a : Int} {v : Value} (hv : dfd c (up D t j a) t j = v) : ((List.range L).map (dfd c D t)).set j v = (List.range L).map (dfd c (up D t j a) t) := by
  apply List.ext_getElem?
  intro i
  by_cases hi : i < L
  · by_cases hij : i = j
    · subst hij
      rw [List.getElem?_set_self (by simpa using hi)]
      simp [hi, hv]
    · rw [List.getElem?_set_ne (Ne.symm hij)]
      simp [hi, dfd, up, hij]
  · rw [List.getElem?_eq_none (by simp; omega), List.getElem?_eq_none (by simp; omega)]
/-! rules for the law's own objects -/
def Ff (own : String) (idx ci j : Nat) (ty : FieldType) : Prop := ∃ (C : String) (T : u_T) (N : Nat) (ty0 : Nat → FieldType), vwCl[ci]? = some (C, T, N) ∧ j < N ∧ (∀ w ∈ u_ws C T N, w ∈ wAll) ∧ (∀ k, k < N → parseFieldDescriptor (T k).2.2.1 = some (ty0 k)) ∧ (∀ a, a < N → ∀ b, b < N → a ≠ b → (T a).2.1 ≠ (T b).2.1) ∧ (T j).2.2.2 = true ∧ (T j).1 = own ∧ parseFieldDescriptor (T j).2.2.1 = some ty ∧ Cond.fieldLink own idx (T j).1 (T j).2.1 (T j).2.2.1 ∈ wAll
def InM (G : GT) : Prop := match G with | (_, _, _, _, _, _, _, _, meth, _, _, _, _) => meth.name = "<init>"
theorem dcl {c j : Nat} {C : String} {T : u_T} {N : Nat} (hc : c = 12 ∨ c = 13) (h : vwCl[c]? = some (C, T, N)) : N = lnC c := by
  rcases hc with rfl | rfl
  · cases h; rfl
  · cases h; rfl
theorem den_obj {B : WB} {D : Mem} {a c n : Nat} (hc : c = 12 ∨ c = 13) : denE B D a c n = .inr (c, (List.range (lnC c)).map (dfd c D a)) := by
  unfold denE
  rw [if_pos (by omega)]
theorem den_int {B : WB} {D : Mem} {a c n : Nat} (h : c = 100 ∨ c = 101) : denE B D a c n = .inl (arB B c, n, .inl (fun j => I (D a j))) := by
  unfold denE
  rw [if_neg (by omega), if_pos (by omega)]
theorem den_ref {B : WB} {D : Mem} {a c n : Nat} (h : c = 102 ∨ c = 103 ∨ c = 104) : denE B D a c n = .inl (arB B c, n, .inr (.inr (.inr (.inr (fun j => rfo (D a j)))))) := by
  unfold denE
  rw [if_neg (by omega), if_neg (by omega)]
section DynRules
variable {G : GT} {md : Md} {k n : Nat} {S : Sh} {D M : Mem} {pc : Nat} {lv : List (Nat × Value)} {st : List Value}
theorem V_dget (h : Cx G md) {idx c j t : Nat} {v : Value} (hf : Fr md.1.cls idx c j) (hc : c = 12 ∨ c = 13) (hv : dfd c D t j = v) (d : decode md.2.1 pc = .ok (.getfield idx, 3)) (hS : SOK S D) (hi : IsC S t c) (kk : V G md k n (dl (gB G) S D) M (pc + 3) lv (v :: st)) : V G md k n (dl (gB G) S D) M pc lv (rv t :: st) := by
  obtain ⟨p, l, e, R, s, m, args, below, meth, cd, B, A, Z⟩ := G
  obtain ⟨hx, hb, hml, hown, hts, hKn, -⟩ := h
  obtain ⟨C, T, N, hcl, hj, hin, hlink⟩ := hf
  obtain ⟨r, o, n0, hl, hr⟩ := hi
  rw [rv_ne (sok_ne hS hl)]
  obtain ⟨q, hq⟩ := lk_get hl
  intro hM H locs ls hls hP hD hSS
  have he : (wl B M ++ dl B S D)[N0 + q]? = some (t, .inr (c, (List.range (lnC c)).map (dfd c D t))) := by
    rw [dl_at hq]
    show some (t, denE B D t (shD r) n0) = _
    rw [hr, den_obj hc]
  have hjl : j < lnC c := dcl (j := j) hc hcl ▸ hj
  have hv' : ((List.range (lnC c)).map (dfd c D t))[j]? = some v := by simp [hjl, hv]
  rcases hlink with hlink | ⟨host, hlink⟩
  · exact va_get hx hb hts hin hown hKn.1 hP (N0 + q) he hcl j hj (hts _ hlink) (fun _ h => h) hv' d (kk hM H locs ls hls hP hD hSS)
  · exact va_getN hx hb hts hin hown hKn.1 hP (N0 + q) he hcl j hj (va_Nw.use (nest_tab hlink) (hKn.2.1 _ hlink)) (fun _ h => h) hv' d (kk hM H locs ls hls hP hD hSS)
theorem V_dgi (h : Cx G md) {idx c j t : Nat} (hf : Fr md.1.cls idx c j) (hc : c = 12 ∨ c = 13) (hj : isRc c j = false) (d : decode md.2.1 pc = .ok (.getfield idx, 3)) (hS : SOK S D) (hi : IsC S t c) (kk : inR (D t j) → V G md k n (dl (gB G) S D) M (pc + 3) lv (.int (I (D t j)) :: st)) : V G md k n (dl (gB G) S D) M pc lv (rv t :: st) := by
  have hin : inR (D t j) := by
    obtain ⟨r, o, n0, hl, hr⟩ := hi
    refine (hS.2 _ _ _ _ hl).2 j ?_
    rw [hr]
    unfold ity
    rw [if_pos (by omega), hj]
    rfl
  exact V_dget h hf hc (by unfold dfd; rw [hj]; rfl) d hS hi (kk hin)
theorem V_dgr (h : Cx G md) {idx c j t : Nat} (hf : Fr md.1.cls idx c j) (hc : c = 12 ∨ c = 13) (hj : isRc c j = true) (d : decode md.2.1 pc = .ok (.getfield idx, 3)) (hS : SOK S D) (hi : IsC S t c) (kk : V G md k n (dl (gB G) S D) M (pc + 3) lv (rv (D t j).toNat :: st)) : V G md k n (dl (gB G) S D) M pc lv (rv t :: st) :=
  V_dget h hf hc (by unfold dfd; rw [hj]; rfl) d hS hi kk
theorem V_dput (h : Cx G md) {idx c j t : Nat} {dsc : String} {ty : FieldType} {a : Int} {v : Value} (hf : Fk md.1.cls idx c j dsc) (hc : c = 12 ∨ c = 13) (hty : parseFieldDescriptor dsc = some ty) (hn : narrow ty v = v) (hfit : fits ty v = true) (hv : dfd c (up D t j a) t j = v) (ha : isRc c j = false → inR a) (d : decode md.2.1 pc = .ok (.putfield idx, 3)) (hS : SOK S D) (hi : IsC S t c) (kk : SOK S (up D t j a) → V G md k n (dl (gB G) S (up D t j a)) M (pc + 3) lv st) : V G md k n (dl (gB G) S D) M pc lv (v :: rv t :: st) := by
  obtain ⟨p, l, e, R, s, m, args, below, meth, cd, B, A, Z⟩ := G
  obtain ⟨hx, hb, hml, hown, hts, hKn, -⟩ := h
  obtain ⟨C, T, N, ty0, hcl, hj, hds, hin, hty0, hnm, hfin, hlink⟩ := hf
  obtain ⟨r, o, n0, hl, hr⟩ := hi
  rw [rv_ne (sok_ne hS hl)]
  obtain ⟨q, hq⟩ := lk_get hl
  intro hM H locs ls hls hP hD hSS
  have he : (wl B M ++ dl B S D)[N0 + q]? = some (t, .inr (c, (List.range (lnC c)).map (dfd c D t))) := by
    rw [dl_at hq]
    show some (t, denE B D t (shD r) n0) = _
    rw [hr, den_obj hc]
  have hjl : j < lnC c := dcl (j := j) hc hcl ▸ hj
  have hset : (wl B M ++ dl B S D).set (N0 + q) (t, .inr (c, ((List.range (lnC c)).map (dfd c D t)).set j v)) = wl B M ++ dl B S (up D t j a) := by
    rw [dfd_set hv]
    refine dl_set hD hq ?_ (fun b hb i => up_o hb)
    show _ = denE B (up D t j a) t (shD r) n0
    rw [hr, den_obj hc]
  have hok : SOK S (up D t j a) := sok_up hS hl (fun hi => ha (by
    rw [hr] at hi
    unfold ity at hi
    rw [if_pos (by omega)] at hi
    cases hz : isRc c j
    · rfl
    · rw [hz] at hi; cases hi))
  have kk' : ∀ (H1 : Heap) (locs1 : List Loc), va_P B.1 vwCl ((wl B M ++ dl B S D).set (N0 + q) (t, .inr (c, ((List.range (lnC c)).map (dfd c D t)).set j v))) H1 → va_D A ((wl B M ++ dl B S D).set (N0 + q) (t, .inr (c, ((List.range (lnC c)).map (dfd c D t)).set j v))) → va_S A s.heap H1 locs1 → W p l e R s m args below meth cd H1 locs1 k n Z (F0 m (pc + 3) ls st) := by
    intro H1 locs1 hP1 hD1 hS1
    rw [hset] at hP1 hD1
    exact kk hok hM H1 locs1 ls hls hP1 hD1 hS1
  rcases hlink with hlink | ⟨host, hlink⟩
  · exact va_put hx hb hts hin ty0 hty0 hnm hown hKn.1 hP hD hSS (N0 + q) he hcl j hj (hts _ hlink) (fun _ h => h) hfin (by rw [hds]; exact hty) hn hfit (by simpa using hjl) d kk'
  · exact va_putN hx hb hts hin ty0 hty0 hnm hown hKn.1 hP hD hSS (N0 + q) he hcl j hj (va_Nw.use (nest_tab hlink) (hKn.2.1 _ hlink)) (fun _ h => h) hfin (by rw [hds]; exact hty) hn hfit (by simpa using hjl) d kk'
theorem dfd_i {c j t : Nat} {a : Int} (hj : isRc c j = false) : dfd c (up D t j a) t j = .int (I a) := by
  unfold dfd
  rw [hj, up_s]
  rfl
theorem dfd_r {c j t u : Nat} (hj : isRc c j = true) : dfd c (up D t j (u : Int)) t j = rv u := by
  unfold dfd
  rw [hj, up_s]
  rfl
theorem V_dpi (h : Cx G md) {idx c j t : Nat} {a : Int} (hf : Fk md.1.cls idx c j "I") (hc : c = 12 ∨ c = 13) (hj : isRc c j = false) (d : decode md.2.1 pc = .ok (.putfield idx, 3)) (hS : SOK S D) (hi : IsC S t c) (ha : inR a) (kk : SOK S (up D t j a) → V G md k n (dl (gB G) S (up D t j a)) M (pc + 3) lv st) : V G md k n (dl (gB G) S D) M pc lv (.int (I a) :: rv t :: st) :=
  V_dput h hf hc (ty := .int) (by decide +kernel) rfl rfl (dfd_i hj) (fun _ => ha) d hS hi kk
theorem V_dpz (h : Cx G md) {idx c j t : Nat} {a : Int} (hf : Fk md.1.cls idx c j "Z") (hc : c = 12 ∨ c = 13) (hj : isRc c j = false) (d : decode md.2.1 pc = .ok (.putfield idx, 3)) (hS : SOK S D) (hi : IsC S t c) (ha : a = 0 ∨ a = 1) (kk : SOK S (up D t j a) → V G md k n (dl (gB G) S (up D t j a)) M (pc + 3) lv st) : V G md k n (dl (gB G) S D) M pc lv (.int (I a) :: rv t :: st) :=
  V_dput h hf hc (ty := .boolean) (by decide +kernel) (bitI ha).1 (bitI ha).2.1 (dfd_i hj) (fun _ => (bitI ha).2.2.1) d hS hi kk
theorem rv_fit {ty : FieldType} {u : Nat} (h : (∃ n, ty = .object n) ∨ ∃ t, ty = .array t) : narrow ty (rv u) = rv u ∧ fits ty (rv u) = true := by
  unfold rv
  by_cases hu : u = 0
  · rw [if_pos hu]
    rcases h with ⟨n, rfl⟩ | ⟨t, rfl⟩ <;> exact ⟨rfl, rfl⟩
  · rw [if_neg hu]
    rcases h with ⟨n, rfl⟩ | ⟨t, rfl⟩ <;> exact ⟨rfl, rfl⟩
theorem V_dpr (h : Cx G md) {idx c j t u : Nat} {dsc : String} {ty : FieldType} (hf : Fk md.1.cls idx c j dsc) (hc : c = 12 ∨ c = 13) (hj : isRc c j = true) (hty : parseFieldDescriptor dsc = some ty) (hrt : (∃ n, ty = .object n) ∨ ∃ t, ty = .array t) (d : decode md.2.1 pc = .ok (.putfield idx, 3)) (hS : SOK S D) (hi : IsC S t c) (kk : SOK S (up D t j (u : Int)) → V G md k n (dl (gB G) S (up D t j (u : Int))) M (pc + 3) lv st) : V G md k n (dl (gB G) S D) M pc lv (rv u :: rv t :: st) :=
  V_dput h hf hc hty (rv_fit hrt).1 (rv_fit hrt).2 (dfd_r hj) (fun z => absurd (hj.symm.trans z) (by decide)) d hS hi kk
/-- a final field in its class's own constructor -/
theorem V_dpF (h : Cx G md) (hi0 : InM G) {idx c j t : Nat} {ty : FieldType} {a : Int} {v : Value} (hf : Ff md.1.cls idx c j ty) (hc : c = 12 ∨ c = 13) (hn : narrow ty v = v) (hfit : fits ty v = true) (hv : dfd c (up D t j a) t j = v) (ha : isRc c j = false → inR a) (d : decode md.2.1 pc = .ok (.putfield idx, 3)) (hS : SOK S D) (hi : IsC S t c) (kk : SOK S (up D t j a) → V G md k n (dl (gB G) S (up D t j a)) M (pc + 3) lv st) : V G md k n (dl (gB G) S D) M pc lv (v :: rv t :: st) := by
  obtain ⟨p, l, e, R, s, m, args, below, meth, cd, B, A, Z⟩ := G
  obtain ⟨hx, hb, hml, hown, hts, hKn, -⟩ := h
  obtain ⟨C, T, N, ty0, hcl, hj, hin, hty0, hnm, hfin, hdec, hpd, hlink⟩ := hf
  obtain ⟨r, o, n0, hl, hr⟩ := hi
  rw [rv_ne (sok_ne hS hl)]
  obtain ⟨q, hq⟩ := lk_get hl
  intro hM H locs ls hls hP hD hSS
  have he : (wl B M ++ dl B S D)[N0 + q]? = some (t, .inr (c, (List.range (lnC c)).map (dfd c D t))) := by
    rw [dl_at hq]
    show some (t, denE B D t (shD r) n0) = _
    rw [hr, den_obj hc]
  have hjl : j < lnC c := dcl (j := j) hc hcl ▸ hj
  have hset : (wl B M ++ dl B S D).set (N0 + q) (t, .inr (c, ((List.range (lnC c)).map (dfd c D t)).set j v)) = wl B M ++ dl B S (up D t j a) := by
    rw [dfd_set hv]
    refine dl_set hD hq ?_ (fun b hb i => up_o hb)
    show _ = denE B (up D t j a) t (shD r) n0
    rw [hr, den_obj hc]
  have hok : SOK S (up D t j a) := sok_up hS hl (fun hi => ha (by
    rw [hr] at hi
    unfold ity at hi
    rw [if_pos (by omega)] at hi
    cases hz : isRc c j
    · rfl
    · rw [hz] at hi; cases hi))
  refine va_putF hx hb hts hin ty0 hty0 hnm hown hKn.1 hP hD hSS (N0 + q) he hcl j hj (hts _ hlink) (fun _ h => h) hfin hi0 hdec hpd (v := v) hn hfit (by simpa using hjl) d (fun H1 locs1 hP1 hD1 hS1 => ?_)
  rw [hset] at hP1 hD1
  exact kk hok hM H1 locs1 ls hls hP1 hD1 hS1
theorem V_dpFi (h : Cx G md) (hi0 : InM G) {idx c j t : Nat} {a : Int} (hf : Ff md.1.cls idx c j .int) (hc : c = 12 ∨ c = 13) (hj : isRc c j = false) (d : decode md.2.1 pc = .ok (.putfield idx, 3)) (hS : SOK S D) (hi : IsC S t c) (ha : inR a) (kk : SOK S (up D t j a) → V G md k n (dl (gB G) S (up D t j a)) M (pc + 3) lv st) : V G md k n (dl (gB G) S D) M pc lv (.int (I a) :: rv t :: st) :=
  V_dpF h hi0 hf hc rfl rfl (dfd_i hj) (fun _ => ha) d hS hi kk
theorem V_dpFr (h : Cx G md) (hi0 : InM G) {idx c j t u : Nat} {ty : FieldType} (hf : Ff md.1.cls idx c j ty) (hrt : (∃ n, ty = .object n) ∨ ∃ t, ty = .array t) (hc : c = 12 ∨ c = 13) (hj : isRc c j = true) (d : decode md.2.1 pc = .ok (.putfield idx, 3)) (hS : SOK S D) (hi : IsC S t c) (kk : SOK S (up D t j (u : Int)) → V G md k n (dl (gB G) S (up D t j (u : Int))) M (pc + 3) lv st) : V G md k n (dl (gB G) S D) M pc lv (rv u :: rv t :: st) :=
  V_dpF h hi0 hf hc (rv_fit hrt).1 (rv_fit hrt).2 (dfd_r hj) (fun z => absurd (hj.symm.trans z) (by decide)) d hS hi kk
/-! rows of references -/
theorem ty_of {B : WB} {s : State} {c : Nat} (hKn : Kn B s) (hc : c = 102 ∨ c = 103 ∨ c = 104) : ∃ ty : FieldType, ty.isReference = true ∧ ArrOfT s (arB B c) ty := by
  rcases hc with rfl | rfl | rfl
  · exact ⟨_, rfl, (hKn.1.2 2 _ rfl).1⟩
  · exact ⟨_, rfl, (hKn.1.2 3 _ rfl).1⟩
  · exact ⟨_, rfl, (hKn.1.2 4 _ rfl).1⟩
theorem V_dar (h : Cx G md) {c t : Nat} {i : Int} (hc : c = 102 ∨ c = 103 ∨ c = 104) (d : decode md.2.1 pc = .ok (.aaload, 1)) (hS : SOK S D) (hi : ∃ L : Nat, IsA S t c L ∧ 0 ≤ i ∧ i < L) (kk : V G md k n (dl (gB G) S D) M (pc + 1) lv (rv (D t i.toNat).toNat :: st)) : V G md k n (dl (gB G) S D) M pc lv (.int (I i) :: rv t :: st) := by
  obtain ⟨p, l, e, R, s, m, args, below, meth, cd, B, A, Z⟩ := G
  obtain ⟨hx, hb, hml, hown, hts, hKn, -⟩ := h
  obtain ⟨L, ⟨r, o, hl, hr⟩, h0, h1⟩ := hi
  have hL := (hS.2 _ _ _ _ hl).1
  rw [rv_ne (sok_ne hS hl)]
  obtain ⟨q, hq⟩ := lk_get hl
  intro hM H locs ls hls hP hD hSS
  have he : (wl B M ++ dl B S D)[N0 + q]? = some (t, .inl (arB B c, L, .inr (.inr (.inr (.inr (fun j => rfo (D t j))))))) := by
    rw [dl_at hq]
    show some (t, denE B D t (shD r) L) = _
    rw [hr, den_ref hc]
  obtain ⟨ty, hty, hA⟩ := ty_of hKn hc
  have hin : vp_in (I i) L := I_in h0 h1 (by omega)
  have hlt : (I i).toNatClampNeg < L := Nat.not_le.mp fun q => hin (Or.inr q)
  have kk1 := kk hM H locs ls hls hP hD hSS
  have e1 : rv (D t i.toNat).toNat = va_rf (rfo (D t (I i).toNatClampNeg)) := by rw [I_cl h0 (by omega)]; rfl
  refine W.aald (v := va_rf (rfo (D t (I i).toNatClampNeg))) (ty := ty) hx hb (hP _ _ he) (hA L (fun j => va_rf (rfo (D t j)))) hty (fun q => by cases q) (by show ¬ (I i < 0 ∨ (arrV _ _ _).slots.size ≤ _); rw [arrV_size]; exact hin) (by show (arrV _ _ _).slots[_]? = _; rw [arrV_read _ _ hlt]) rfl rfl d ?_
  rw [← e1]
  exact kk1
/-- what may be stored in a row of Things: null or a Thing -/
theorem V_das (h : Cx G md) {t u : Nat} {i : Int} (d : decode md.2.1 pc = .ok (.aastore, 1)) (hS : SOK S D) (hi : ∃ L : Nat, IsA S t 102 L ∧ 0 ≤ i ∧ i < L) (hu : u = 0 ∨ IsC S u 13) (kk : SOK S (up D t i.toNat (u : Int)) → V G md k n (dl (gB G) S (up D t i.toNat (u : Int))) M (pc + 1) lv st) : V G md k n (dl (gB G) S D) M pc lv (rv u :: .int (I i) :: rv t :: st) := by
  obtain ⟨p, l, e, R, s, m, args, below, meth, cd, B, A, Z⟩ := G
  obtain ⟨hx, hb, hml, hown, hts, hKn, -⟩ := h
  obtain ⟨L, ⟨r, o, hl, hr⟩, h0, h1⟩ := hi
  have hL := (hS.2 _ _ _ _ hl).1
  rw [rv_ne (sok_ne hS hl)]
  obtain ⟨q, hq⟩ := lk_get hl
  intro hM H locs ls hls hP hD hSS
  have he : (wl B M ++ dl B S D)[N0 + q]? = some (t, .inl (arB B 102, L, .inr (.inr (.inr (.inr (fun j => rfo (D t j))))))) := by
    rw [dl_at hq]
    show some (t, denE B D t (shD r) L) = _
    rw [hr, den_ref (Or.inl rfl)]
  have hin : vp_in (I i) L := I_in h0 h1 (by omega)
  have hok : SOK S (up D t i.toNat (u : Int)) := sok_up hS hl (fun hi => by rw [hr] at hi; cases hi)
  have e1 : ∀ x : Option Nat, x = rfo (u : Int) → va_up (fun j => rfo (D t j)) (I i).toNatClampNeg x = fun j => rfo (up D t i.toNat (u : Int) t j) := by
    intro x hx
    funext j
    rw [I_cl h0 (by omega)]
    unfold va_up up
    by_cases hj : j = i.toNat
    · rw [if_pos hj, if_pos ⟨rfl, hj⟩, hx]
    · rw [if_neg hj, if_neg (fun z => hj z.2)]
  have hset : ∀ x : Option Nat, x = rfo (u : Int) → (wl B M ++ dl B S D).set (N0 + q) (t, .inl (arB B 102, L, .inr (.inr (.inr (.inr (va_up (fun j => rfo (D t j)) (I i).toNatClampNeg x)))))) = wl B M ++ dl B S (up D t i.toNat (u : Int)) := by
    intro x hx
    rw [e1 x hx]
    refine dl_set hD hq ?_ (fun b hb i => up_o hb)
    show _ = denE B (up D t i.toNat (u : Int)) t (shD r) L
    rw [hr, den_ref (Or.inl rfl)]
  by_cases hu0 : u = 0
  · subst hu0
    show W p l e R s m args below meth cd H locs k n Z (F0 m pc ls (.null :: .int (I i) :: .ref t :: st))
    refine va_astqN hx hb hKn.1 hP hD hSS (N0 + q) 2 he rfl hin d (fun H1 locs1 hP1 hD1 hS1 => ?_)
    rw [hset none rfl] at hP1 hD1
    exact kk hok hM H1 locs1 ls hls hP1 hD1 hS1
  · rcases hu with hu | ⟨r2, o2, n2, hl2, hr2⟩
    · exact absurd hu hu0
    · rw [rv_ne hu0]
      obtain ⟨q2, hq2⟩ := lk_get hl2
      have he2 : (wl B M ++ dl B S D)[N0 + q2]? = some (u, .inr (13, (List.range (lnC 13)).map (dfd 13 D u))) := by
        rw [dl_at hq2]
        show some (u, denE B D u (shD r2) n2) = _
        rw [hr2, den_obj (Or.inr rfl)]
      refine va_astq (r := (RX13, TX13, 24)) hx hb hKn.1 hP hD hSS (N0 + q) 2 (N0 + q2) 13 he rfl he2 rfl hin d (fun H1 locs1 hP1 hD1 hS1 => ?_)
      rw [hset (some u) (by unfold rfo; rw [Int.toNat_natCast, if_neg hu0])] at hP1 hD1
      exact kk hok hM H1 locs1 ls hls hP1 hD1 hS1
end DynRules
