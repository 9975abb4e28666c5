section DynRules2
variable {G : GT} {md : Md} {k n : Nat} {S : Sh} {D M : Mem} {pc : Nat} {lv : List (Nat × Value)} {st : List Value}
theorem shD_row {r : Nat} (h : 100 ≤ shD r) : shD r = 100 ∨ shD r = 101 ∨ shD r = 102 ∨ shD r = 103 ∨ shD r = 104 := by
  unfold shD at h ⊢
  by_cases h0 : r = 0
  · rw [if_pos h0] at h; omega
  · rw [if_neg h0] at h ⊢
    by_cases h1 : r = 1
    · rw [if_pos h1] at h; omega
    · rw [if_neg h1] at h ⊢
      repeat' split
      all_goals omega
/-- a row put into a row of rows -/
def thA : FieldType := .array (.object "RuntimeHeapLaw$Thing")
theorem row_cls {B : WB} {s : State} {c : Nat} (hKn : Kn B s) (hc : c = 103 ∨ c = 104) : ∃ (kA : Class) (t : FieldType) (kE : Class), t.isReference = true ∧ s.vm.classes[arB B c]? = some kA ∧ kA.kind = .array (arB B (if c = 103 then 102 else 100)) t ∧ s.vm.classes[arB B (if c = 103 then 102 else 100)]? = some kE := by
  rcases hc with rfl | rfl
  · obtain ⟨comp, c0, k0, h1, h2, h3, h4, h5⟩ := arrayOverA_spec hKn.2.2.2.2.2.2.2.2.2.1
    have hB3 : s.vm.findClass ("[" ++ (FieldType.array (.object "RuntimeHeapLaw$Thing")).toString) = some (arB B 103) := (hKn.1.2 3 _ rfl).2
    obtain ⟨kE, cE, g1, g2, g3, g4⟩ := (hKn.1.2 2 _ rfl).2
    have hc0 : c0 = arB B 103 := Option.some.inj (h5.symm.trans hB3)
    have hcomp : comp = arB B 102 := Option.some.inj (h1.symm.trans g4)
    subst hc0 hcomp
    exact ⟨k0, _, kE, rfl, h3, h4, g1⟩
  · obtain ⟨comp, c0, k0, h1, h2, h3, h4, h5⟩ := arrayOverA_spec hKn.2.2.2.2.2.2.2.2.2.2
    have hB3 : s.vm.findClass ("[" ++ (FieldType.array .int).toString) = some (arB B 104) := (hKn.1.2 4 _ rfl).2
    have hB0 : s.vm.findClass ("[" ++ FieldType.int.toString) = some (arB B 100) := (hKn.1.2 0 _ rfl).2
    obtain ⟨-, kE, g1, -⟩ := (hKn.1.2 0 _ rfl).1 0 (fun _ => .null)
    have hc0 : c0 = arB B 104 := Option.some.inj (h5.symm.trans hB3)
    have hcomp : comp = arB B 100 := Option.some.inj (h1.symm.trans hB0)
    subst hc0 hcomp
    exact ⟨k0, _, kE, rfl, h3, h4, g1⟩
theorem V_dasA (h : Cx G md) {c t u : Nat} {i : Int} (hc : c = 103 ∨ c = 104) (d : decode md.2.1 pc = .ok (.aastore, 1)) (hS : SOK S D) (hi : ∃ L : Nat, IsA S t c L ∧ 0 ≤ i ∧ i < L) (hu : IsC S u (if c = 103 then 102 else 100)) (kk : SOK S (up D t i.toNat (u : Int)) → V G md k n (dl (gB G) S (up D t i.toNat (u : Int))) M (pc + 1) lv st) : V G md k n (dl (gB G) S D) M pc lv (rv u :: .int (I i) :: rv t :: st) := by
  obtain ⟨p, l, e, R, s, m, args, below, meth, cd, B, A, Z⟩ := G
  obtain ⟨hx, hb, hml, hown, hts, hKn, -⟩ := h
  obtain ⟨L, ⟨r, o, hl, hr⟩, h0, h1⟩ := hi
  have hL := (hS.2 _ _ _ _ hl).1
  have hc3 : c = 102 ∨ c = 103 ∨ c = 104 := Or.inr hc
  obtain ⟨r2, o2, n2, hl2, hr2⟩ := hu
  have hu0 := sok_ne hS hl2
  rw [rv_ne (sok_ne hS hl), rv_ne hu0]
  obtain ⟨q, hq⟩ := lk_get hl
  obtain ⟨q2, hq2⟩ := lk_get hl2
  obtain ⟨kA, ty, kE, hty, hkA, hkind, hkE⟩ := row_cls hKn hc
  intro hM H locs ls hls hP hD hSS
  have he : (wl B M ++ dl B S D)[N0 + q]? = some (t, .inl (arB B c, L, .inr (.inr (.inr (.inr (fun j => rfo (D t j))))))) := by
    rw [dl_at hq]
    show some (t, denE B D t (shD r) L) = _
    rw [hr, den_ref hc3]
  have he2 : ∃ cv : Cell, H[u]? = some cv ∧ cv.cls = arB B (if c = 103 then 102 else 100) ∧ (∀ q, cv.vm ≠ .statics q) := by
    have h2 := hP _ _ (dl_at hq2)
    rcases hc with rfl | rfl
    · have hE : denE B D u (shD r2) n2 = .inl (arB B 102, n2, .inr (.inr (.inr (.inr (fun j => rfo (D u j)))))) := by rw [hr2]; exact den_ref (Or.inl rfl)
      have h3 : va_at B.1 vwCl (u, denE B D u (shD r2) n2) H := h2
      rw [hE] at h3
      exact ⟨_, h3, rfl, fun q h => by cases h⟩
    · have hE : denE B D u (shD r2) n2 = .inl (arB B 100, n2, .inl (fun j => I (D u j))) := by rw [hr2]; exact den_int (Or.inl rfl)
      have h3 : va_at B.1 vwCl (u, denE B D u (shD r2) n2) H := h2
      rw [hE] at h3
      exact ⟨_, h3, rfl, fun q h => by cases h⟩
  obtain ⟨cv, g1, g2, g3⟩ := he2
  have hin : vp_in (I i) L := I_in h0 h1 (by omega)
  have hlt : (I i).toNatClampNeg < L := Nat.not_le.mp fun q => hin (Or.inr q)
  have hn0 : ¬ I i < 0 := fun q => hin (Or.inl q)
  have hok : SOK S (up D t i.toNat (u : Int)) := sok_up hS hl (fun hi => by rw [hr] at hi; rcases hc with rfl | rfl <;> cases hi)
  refine W.aast hx hb (hP _ _ he) (fun q h => by cases h) (fun h => by cases h) hkA hkind hty hkE ⟨hn0, by show _ < (arrV _ _ _).slots.size; rw [arrV_size]; exact hlt⟩ g1 g3 (by rw [g2]; exact hkE) (by rw [g2]; exact va_asg _ _) rfl rfl d fun H1 e1 z oq => ?_
  have hset : (wl B M ++ dl B S D).set (N0 + q) (t, .inl (arB B c, L, .inr (.inr (.inr (.inr (fun j => rfo (up D t i.toNat (u : Int) t j))))))) = wl B M ++ dl B S (up D t i.toNat (u : Int)) := by
    refine dl_set hD hq ?_ (fun b hb i => up_o hb)
    show _ = denE B (up D t i.toNat (u : Int)) t (shD r) L
    rw [hr, den_ref hc3]
  have hcell : H1[t]? = some (vp_cell (arB B c) (L, .inr (.inr (.inr (.inr (fun j => rfo (up D t i.toNat (u : Int) t j))))))) := by
    rw [e1, vp_cell_q, vp_cell_q, arrV_store]
    congr 2
    funext j
    rw [I_cl h0 (by omega)]
    unfold updV up
    by_cases hj : j = i.toNat
    · rw [if_pos hj, if_pos ⟨rfl, hj⟩]
      unfold rfo
      rw [Int.toNat_natCast, if_neg hu0]
      rfl
    · rw [if_neg hj, if_neg (fun z => hj z.2)]
  have hP1 := hP.set hD he (show va_at B.1 vwCl (t, .inl (arB B c, L, .inr (.inr (.inr (.inr (fun j => rfo (up D t i.toNat (u : Int) t j))))))) H1 from hcell) oq
  have hD1 := hD.set (e := .inl (arB B c, L, .inr (.inr (.inr (.inr (fun j => rfo (up D t i.toNat (u : Int) t j))))))) he
  rw [hset] at hP1 hD1
  exact kk hok hM H1 _ ls hls hP1 hD1 (hSS.put z oq (hD.2 _ _ he))
/-! rows of numbers -/
theorem V_dil (h : Cx G md) {t : Nat} {i : Int} (d : decode md.2.1 pc = .ok (.iaload, 1)) (hS : SOK S D) (hi : ∃ L : Nat, IsA S t 100 L ∧ 0 ≤ i ∧ i < L) (kk : inR (D t i.toNat) → V G md k n (dl (gB G) S D) M (pc + 1) lv (.int (I (D t i.toNat)) :: st)) : V G md k n (dl (gB G) S D) M pc lv (.int (I i) :: rv t :: st) := by
  obtain ⟨p, l, e, R, s, m, args, below, meth, cd, B, A, Z⟩ := G
  obtain ⟨hx, hb, hml, hown, hts, hKn, -⟩ := h
  obtain ⟨L, ⟨r, o, hl, hr⟩, h0, h1⟩ := hi
  have hL := (hS.2 _ _ _ _ hl).1
  rw [rv_ne (sok_ne hS hl)]
  obtain ⟨q, hq⟩ := lk_get hl
  have hir : inR (D t i.toNat) := (hS.2 _ _ _ _ hl).2 _ (by rw [hr]; rfl)
  intro hM H locs ls hls hP hD hSS
  have he : (wl B M ++ dl B S D)[N0 + q]? = some (t, .inl (B.2.1, L, .inl (fun j => I (D t j)))) := by
    rw [dl_at hq]
    show some (t, denE B D t (shD r) L) = _
    rw [hr, den_int (Or.inl rfl)]
    rfl
  refine va_iald (D := B.1) hx hb hKn.1 hP (N0 + q) 0 he rfl (I_in h0 h1 (by omega)) d ?_
  show W p l e R s m args below meth cd H locs k n Z (F0 m (pc + 1) ls (.int (I (D t (I i).toNatClampNeg)) :: st))
  rw [I_cl h0 (by omega)]
  exact kk hir hM H locs ls hls hP hD hSS
theorem upd_d {D : Mem} {o j : Nat} {a : Int} : upd (fun q => I (D o q)) j (I a) = fun q => I (up D o j a o q) := by
  funext q
  unfold upd up
  by_cases hq : q = j
  · rw [if_pos hq, if_pos ⟨rfl, hq⟩]
  · rw [if_neg hq, if_neg (fun z => hq z.2)]
theorem V_dis (h : Cx G md) {t : Nat} {i a : Int} (d : decode md.2.1 pc = .ok (.iastore, 1)) (hS : SOK S D) (hi : ∃ L : Nat, IsA S t 100 L ∧ 0 ≤ i ∧ i < L) (ha : inR a) (kk : SOK S (up D t i.toNat a) → V G md k n (dl (gB G) S (up D t i.toNat a)) M (pc + 1) lv st) : V G md k n (dl (gB G) S D) M pc lv (.int (I a) :: .int (I i) :: rv t :: st) := by
  obtain ⟨p, l, e, R, s, m, args, below, meth, cd, B, A, Z⟩ := G
  obtain ⟨hx, hb, hml, hown, hts, hKn, -⟩ := h
  obtain ⟨L, ⟨r, o, hl, hr⟩, h0, h1⟩ := hi
  have hL := (hS.2 _ _ _ _ hl).1
  rw [rv_ne (sok_ne hS hl)]
  obtain ⟨q, hq⟩ := lk_get hl
  intro hM H locs ls hls hP hD hSS
  have he : (wl B M ++ dl B S D)[N0 + q]? = some (t, .inl (B.2.1, L, .inl (fun j => I (D t j)))) := by
    rw [dl_at hq]
    show some (t, denE B D t (shD r) L) = _
    rw [hr, den_int (Or.inl rfl)]
    rfl
  have hok : SOK S (up D t i.toNat a) := sok_up hS hl (fun _ => ha)
  have hset : (wl B M ++ dl B S D).set (N0 + q) (t, .inl (B.2.1, L, .inl (upd (fun j => I (D t j)) (I i).toNatClampNeg (I a)))) = wl B M ++ dl B S (up D t i.toNat a) := by
    rw [I_cl h0 (by omega), upd_d]
    refine dl_set hD hq ?_ (fun b hb i => up_o hb)
    show _ = denE B (up D t i.toNat a) t (shD r) L
    rw [hr, den_int (Or.inl rfl)]
    rfl
  refine va_iast (D := B.1) hx hb hKn.1 hP hD hSS (N0 + q) 0 he rfl (I_in h0 h1 (by omega)) d (fun H1 locs1 hP1 hD1 hS1 => ?_)
  have hP2 := hset ▸ (show va_P B.1 vwCl ((wl B M ++ dl B S D).set (N0 + q) (t, .inl (B.2.1, L, .inl (upd (fun j => I (D t j)) (I i).toNatClampNeg (I a))))) H1 from hP1)
  have hD2 := hset ▸ (show va_D A ((wl B M ++ dl B S D).set (N0 + q) (t, .inl (B.2.1, L, .inl (upd (fun j => I (D t j)) (I i).toNatClampNeg (I a))))) from hD1)
  exact kk hok hM H1 locs1 ls hls hP2 hD2 hS1
theorem V_dzl (h : Cx G md) {t : Nat} {i : Int} (d : decode md.2.1 pc = .ok (.baload, 1)) (hS : SOK S D) (hi : ∃ L : Nat, IsA S t 101 L ∧ 0 ≤ i ∧ i < L) (kk : inR (D t i.toNat) → V G md k n (dl (gB G) S D) M (pc + 1) lv (.int (I (D t i.toNat)) :: st)) : V G md k n (dl (gB G) S D) M pc lv (.int (I i) :: rv t :: st) := by
  obtain ⟨p, l, e, R, s, m, args, below, meth, cd, B, A, Z⟩ := G
  obtain ⟨hx, hb, hml, hown, hts, hKn, -⟩ := h
  obtain ⟨L, ⟨r, o, hl, hr⟩, h0, h1⟩ := hi
  have hL := (hS.2 _ _ _ _ hl).1
  rw [rv_ne (sok_ne hS hl)]
  obtain ⟨q, hq⟩ := lk_get hl
  have hir : inR (D t i.toNat) := (hS.2 _ _ _ _ hl).2 _ (by rw [hr]; rfl)
  intro hM H locs ls hls hP hD hSS
  have he : (wl B M ++ dl B S D)[N0 + q]? = some (t, .inl (B.2.2.1, L, .inl (fun j => I (D t j)))) := by
    rw [dl_at hq]
    show some (t, denE B D t (shD r) L) = _
    rw [hr, den_int (Or.inr rfl)]
    rfl
  refine va_zald (D := B.1) hx hb hKn.1 hP (N0 + q) 1 he rfl (I_in h0 h1 (by omega)) d ?_
  show W p l e R s m args below meth cd H locs k n Z (F0 m (pc + 1) ls (.int (I (D t (I i).toNatClampNeg)) :: st))
  rw [I_cl h0 (by omega)]
  exact kk hir hM H locs ls hls hP hD hSS
theorem V_dzs (h : Cx G md) {t : Nat} {i a : Int} (d : decode md.2.1 pc = .ok (.bastore, 1)) (hS : SOK S D) (hi : ∃ L : Nat, IsA S t 101 L ∧ 0 ≤ i ∧ i < L) (ha : a = 0 ∨ a = 1) (kk : SOK S (up D t i.toNat a) → V G md k n (dl (gB G) S (up D t i.toNat a)) M (pc + 1) lv st) : V G md k n (dl (gB G) S D) M pc lv (.int (I a) :: .int (I i) :: rv t :: st) := by
  obtain ⟨p, l, e, R, s, m, args, below, meth, cd, B, A, Z⟩ := G
  obtain ⟨hx, hb, hml, hown, hts, hKn, -⟩ := h
  obtain ⟨L, ⟨r, o, hl, hr⟩, h0, h1⟩ := hi
  have hL := (hS.2 _ _ _ _ hl).1
  rw [rv_ne (sok_ne hS hl)]
  obtain ⟨q, hq⟩ := lk_get hl
  intro hM H locs ls hls hP hD hSS
  have he : (wl B M ++ dl B S D)[N0 + q]? = some (t, .inl (B.2.2.1, L, .inl (fun j => I (D t j)))) := by
    rw [dl_at hq]
    show some (t, denE B D t (shD r) L) = _
    rw [hr, den_int (Or.inr rfl)]
    rfl
  have hok : SOK S (up D t i.toNat a) := sok_up hS hl (fun _ => (bitI ha).2.2.1)
  have hset : (wl B M ++ dl B S D).set (N0 + q) (t, .inl (B.2.2.1, L, .inl (upd (fun j => I (D t j)) (I i).toNatClampNeg (I a)))) = wl B M ++ dl B S (up D t i.toNat a) := by
    rw [I_cl h0 (by omega), upd_d]
    refine dl_set hD hq ?_ (fun b hb i => up_o hb)
    show _ = denE B (up D t i.toNat a) t (shD r) L
    rw [hr, den_int (Or.inr rfl)]
    rfl
  have hb4 := (bitI ha).2.2.2
  refine va_zast (D := B.1) hx hb hKn.1 hP hD hSS (N0 + q) 1 he rfl (I_in h0 h1 (by omega)) d (fun H1 locs1 hP1 hD1 hS1 => ?_)
  rw [hb4] at hP1 hD1
  have hP2 := hset ▸ (show va_P B.1 vwCl ((wl B M ++ dl B S D).set (N0 + q) (t, .inl (B.2.2.1, L, .inl (upd (fun j => I (D t j)) (I i).toNatClampNeg (I a))))) H1 from hP1)
  have hD2 := hset ▸ (show va_D A ((wl B M ++ dl B S D).set (N0 + q) (t, .inl (B.2.2.1, L, .inl (upd (fun j => I (D t j)) (I i).toNatClampNeg (I a))))) from hD1)
  exact kk hok hM H1 locs1 ls hls hP2 hD2 hS1
theorem V_dlen (h : Cx G md) {t : Nat} (d : decode md.2.1 pc = .ok (.arraylength, 1)) (hS : SOK S D) (hi : ∃ c L : Nat, IsA S t c L ∧ 100 ≤ c) (kk : V G md k n (dl (gB G) S D) M (pc + 1) lv (.int (I ((lnS S t : Nat) : Int)) :: st)) : V G md k n (dl (gB G) S D) M pc lv (rv t :: st) := by
  obtain ⟨p, l, e, R, s, m, args, below, meth, cd, B, A, Z⟩ := G
  obtain ⟨hx, hb, hml, hown, hts, hKn, -⟩ := h
  obtain ⟨c, L, ⟨r, o, hl, hr⟩, hc⟩ := hi
  have e1 := lnS_of hl
  rw [e1] at kk
  rw [rv_ne (sok_ne hS hl)]
  obtain ⟨q, hq⟩ := lk_get hl
  intro hM H locs ls hls hP hD hSS
  have hcc : c = 100 ∨ c = 101 ∨ c = 102 ∨ c = 103 ∨ c = 104 := by
    subst hr
    exact shD_row hc
  have hP0 := hP _ _ (dl_at hq)
  rcases hcc with rfl | rfl | rfl | rfl | rfl
  · have he : (wl B M ++ dl B S D)[N0 + q]? = some (t, .inl (arB B 100, L, .inl (fun j => I (D t j)))) := by
      rw [dl_at hq]; show some (t, denE B D t (shD r) L) = _; rw [hr, den_int (Or.inl rfl)]
    exact va_alen (D := B.1) (v := I L) hx hb hKn.1 hP (N0 + q) 0 he rfl (I_nat L) d (kk hM H locs ls hls hP hD hSS)
  · have he : (wl B M ++ dl B S D)[N0 + q]? = some (t, .inl (arB B 101, L, .inl (fun j => I (D t j)))) := by
      rw [dl_at hq]; show some (t, denE B D t (shD r) L) = _; rw [hr, den_int (Or.inr rfl)]
    exact va_alen (D := B.1) (v := I L) hx hb hKn.1 hP (N0 + q) 1 he rfl (I_nat L) d (kk hM H locs ls hls hP hD hSS)
  · have he : (wl B M ++ dl B S D)[N0 + q]? = some (t, .inl (arB B 102, L, .inr (.inr (.inr (.inr (fun j => rfo (D t j))))))) := by
      rw [dl_at hq]; show some (t, denE B D t (shD r) L) = _; rw [hr, den_ref (Or.inl rfl)]
    exact va_alen (D := B.1) (v := I L) hx hb hKn.1 hP (N0 + q) 2 he rfl (I_nat L) d (kk hM H locs ls hls hP hD hSS)
  · have he : (wl B M ++ dl B S D)[N0 + q]? = some (t, .inl (arB B 103, L, .inr (.inr (.inr (.inr (fun j => rfo (D t j))))))) := by
      rw [dl_at hq]; show some (t, denE B D t (shD r) L) = _; rw [hr, den_ref (Or.inr (Or.inl rfl))]
    exact va_alen (D := B.1) (v := I L) hx hb hKn.1 hP (N0 + q) 3 he rfl (I_nat L) d (kk hM H locs ls hls hP hD hSS)
  · have he : (wl B M ++ dl B S D)[N0 + q]? = some (t, .inl (arB B 104, L, .inr (.inr (.inr (.inr (fun j => rfo (D t j))))))) := by
      rw [dl_at hq]; show some (t, denE B D t (shD r) L) = _; rw [hr, den_ref (Or.inr (Or.inr rfl))]
    exact va_alen (D := B.1) (v := I L) hx hb hKn.1 hP (N0 + q) 4 he rfl (I_nat L) d (kk hM H locs ls hls hP hD hSS)
/-! making -/
theorem dyn_fresh {B : WB} {H : Heap} (hP : va_P B.1 vwCl (wl B M ++ dl B S D) H) : lk S H.size = none ∧ H.size ≠ 0 := by
  refine ⟨?_, Nat.pos_iff_ne_zero.mp (dl_pos hP)⟩
  cases h : lk S H.size with
  | none => rfl
  | some x => exact absurd (dl_lt hP h) (Nat.lt_irrefl _)
theorem dyn_push {B : WB} {A : Nat → Prop} {H0 H H1 : Heap} {locs : List Loc} {r o L : Nat} (hP : va_P B.1 vwCl (wl B M ++ dl B S D) H) (hD : va_D A (wl B M ++ dl B S D)) (hA1 : ∀ q, H0.size ≤ q → A q) (hSS : va_S A H0 H locs) (z1 : H1.size = H.size + 1) (o1 : ∀ q : Nat, q < H.size → H1[q]? = H[q]?) (hc : va_at B.1 vwCl (H.size, denE B (zr D H.size) H.size (shD r) L) H1) : va_P B.1 vwCl (wl B M ++ dl B (S ++ [(H.size, r, o, L)]) (zr D H.size)) H1 ∧ va_D A (wl B M ++ dl B (S ++ [(H.size, r, o, L)]) (zr D H.size)) ∧ va_S A H0 H1 locs := by
  have hf := (dyn_fresh hP).1
  have hk : ∀ (k : Nat) (x : Nat × va_E), (wl B M ++ dl B S D)[k]? = some x → H1[x.1]? = H[x.1]? := fun k x hx => o1 x.1 ((hP k x hx).lt)
  rw [← dl_new (D := D) hf]
  refine ⟨(hP.kept hk).app (fun k x hx => ?_), hD.push hP rfl (hA1 _ hSS.1), ⟨Nat.le_trans hSS.1 (by omega), fun x h1 h2 => (o1 x (Nat.lt_of_lt_of_le h1 hSS.1)).trans (hSS.2.1 x h1 h2), hSS.2.2⟩⟩
  have hz : k < 1 := (List.getElem?_eq_some_iff.mp hx).1
  rw [show k = 0 by omega] at hx
  cases hx
  exact hc
theorem zr_q {q j : Nat} : zr D q q j = 0 := if_pos rfl
theorem zr_ne {q a j : Nat} (h : a ≠ q) : zr D q a j = D a j := if_neg h
theorem V_dnI (h : Cx G md) (r o : Nat) {x : Int} (hr : shD r = 100) (d : decode md.2.1 pc = .ok (.newarray .int, 2)) (hw : Cond.arrayClass .int ∈ wAll) (hS : SOK S D) (h0 : 0 ≤ x) (hx : x < 100000) (hk : k + 1 ≤ (gR G).cells ∧ n + x.toNat ≤ (gR G).slots) (kk : ∀ q, q ≠ 0 → lk S q = none → SOK (S ++ [(q, r, o, x.toNat)]) (zr D q) → V G md (k + 1) (n + x.toNat) (dl (gB G) (S ++ [(q, r, o, x.toNat)]) (zr D q)) M (pc + 2) lv (rv q :: st)) : V G md k n (dl (gB G) S D) M pc lv (.int (I x) :: st) := by
  obtain ⟨p, l, e, R, s, m, args, below, meth, cd, B, A, Z⟩ := G
  obtain ⟨hx', hb, hml, hown, hts, hKn, hlk, hfl, hA1, hA2, hret⟩ := h
  intro hM H locs ls hls hP hD hSS
  have hc : (I x).toNatClampNeg = x.toNat := I_cl h0 (by omega)
  obtain ⟨f1, f2⟩ := dyn_fresh hP
  refine va_newaK (atype := .int) hx' hb (hts _ hw) (g := F0 m pc ls (.int (I x) :: st)) rfl d (rest := st) rfl (by rw [← I_zero, I_lt ⟨by omega, by omega⟩ ⟨by decide, by decide⟩]; omega) hc (by show x.toNat * 4 ≤ 536870912; omega) hk.1 hk.2 rfl (fun H1 cA e1 z1 o1 hAr hNm => ?_)
  have hcA : cA = B.2.1 := Option.some.inj (hNm.symm.trans (hKn.1.2 0 _ rfl).2)
  subst hcA
  obtain ⟨a1, a2, a3⟩ := dyn_push (r := r) (o := o) (L := x.toNat) hP hD hA1 hSS z1 o1 (by
    rw [hr, den_int (Or.inl rfl)]
    show H1[H.size]? = some (vp_cell _ _)
    rw [e1]
    have e9 : (fun j => I (zr D H.size H.size j)) = fun _ => (0 : Int32) := by funext j; rw [zr_q]; rfl
    rw [e9]
    rfl)
  have := kk H.size f2 f1 (sok_new hS f2 f1 (by omega)) hM H1 locs ls hls a1 a2 a3
  rwa [rv_ne f2] at this
theorem V_dnZ (h : Cx G md) (r o : Nat) {x : Int} (hr : shD r = 101) (d : decode md.2.1 pc = .ok (.newarray .boolean, 2)) (hw : Cond.arrayClass .boolean ∈ wAll) (hS : SOK S D) (h0 : 0 ≤ x) (hx : x < 100000) (hk : k + 1 ≤ (gR G).cells ∧ n + x.toNat ≤ (gR G).slots) (kk : ∀ q, q ≠ 0 → lk S q = none → SOK (S ++ [(q, r, o, x.toNat)]) (zr D q) → V G md (k + 1) (n + x.toNat) (dl (gB G) (S ++ [(q, r, o, x.toNat)]) (zr D q)) M (pc + 2) lv (rv q :: st)) : V G md k n (dl (gB G) S D) M pc lv (.int (I x) :: st) := by
  obtain ⟨p, l, e, R, s, m, args, below, meth, cd, B, A, Z⟩ := G
  obtain ⟨hx', hb, hml, hown, hts, hKn, hlk, hfl, hA1, hA2, hret⟩ := h
  intro hM H locs ls hls hP hD hSS
  have hc : (I x).toNatClampNeg = x.toNat := I_cl h0 (by omega)
  obtain ⟨f1, f2⟩ := dyn_fresh hP
  refine va_newaK (atype := .boolean) hx' hb (hts _ hw) (g := F0 m pc ls (.int (I x) :: st)) rfl d (rest := st) rfl (by rw [← I_zero, I_lt ⟨by omega, by omega⟩ ⟨by decide, by decide⟩]; omega) hc (by show x.toNat * 1 ≤ 536870912; omega) hk.1 hk.2 rfl (fun H1 cA e1 z1 o1 hAr hNm => ?_)
  have hcA : cA = B.2.2.1 := Option.some.inj (hNm.symm.trans (hKn.1.2 1 _ rfl).2)
  subst hcA
  obtain ⟨a1, a2, a3⟩ := dyn_push (r := r) (o := o) (L := x.toNat) hP hD hA1 hSS z1 o1 (by
    rw [hr, den_int (Or.inr rfl)]
    show H1[H.size]? = some (vp_cell _ _)
    rw [e1]
    have e9 : (fun j => I (zr D H.size H.size j)) = fun _ => (0 : Int32) := by funext j; rw [zr_q]; rfl
    rw [e9]
    rfl)
  have := kk H.size f2 f1 (sok_new hS f2 f1 (by omega)) hM H1 locs ls hls a1 a2 a3
  rwa [rv_ne f2] at this
theorem push_facts {H H1 : Heap} {cA : ClassId} {L : Nat} (hH1 : H.push ({ cls := cA, slots := Array.replicate L .null, vm := .none } : Cell) = H1) : H1.size = H.size + 1 ∧ H1[H.size]? = some (arrV cA L (fun _ => .null)) ∧ ∀ q : Nat, q < H.size → H1[q]? = H[q]? :=
  ⟨by rw [← hH1, Array.size_push], by rw [← hH1, Array.getElem?_push_size, ← arrV_new], fun q hq => by rw [← hH1, Array.getElem?_push, if_neg (Nat.ne_of_lt hq)]⟩
theorem V_dnT (h : Cx G md) (r o : Nat) {x : Int} {idx : Nat} (hr : shD r = 102) (d : decode md.2.1 pc = .ok (.anewarray idx, 3)) (hw : Cond.classLink md.1.cls idx "RuntimeHeapLaw$Thing" ∈ wAll) (hS : SOK S D) (h0 : 0 ≤ x) (hx : x < 100000) (hk : k + 1 ≤ (gR G).cells ∧ n + x.toNat ≤ (gR G).slots) (kk : ∀ q, q ≠ 0 → lk S q = none → SOK (S ++ [(q, r, o, x.toNat)]) (zr D q) → V G md (k + 1) (n + x.toNat) (dl (gB G) (S ++ [(q, r, o, x.toNat)]) (zr D q)) M (pc + 3) lv (rv q :: st)) : V G md k n (dl (gB G) S D) M pc lv (.int (I x) :: st) := by
  obtain ⟨p, l, e, R, s, m, args, below, meth, cd, B, A, Z⟩ := G
  obtain ⟨hx', hb, hml, hown, hts, hKn, hlk, hfl, hA1, hA2, hret⟩ := h
  intro hM H locs ls hls hP hD hSS
  have hc : (I x).toNatClampNeg = x.toNat := I_cl h0 (by omega)
  obtain ⟨f1, f2⟩ := dyn_fresh hP
  refine W.anew hx' hb hown (hts _ hw) (va_AO.use hKn.2.2.2.2.2.2.2.2.1) rfl d rfl (by rw [← I_zero, I_lt ⟨by omega, by omega⟩ ⟨by decide, by decide⟩]; omega) (by rw [hc]; omega) hk.1 (by rw [hc]; exact hk.2) fun cA kA comp g1 g2 g3 g4 => ?_
  rw [hc]
  generalize hH1 : H.push ({ cls := cA, slots := Array.replicate x.toNat .null, vm := .none } : Cell) = H1
  obtain ⟨z1, e1, o1⟩ := push_facts hH1
  obtain ⟨-, -, -, -, -, g5⟩ := (hKn.1.2 2 _ rfl).2
  have hcA : cA = arB B 102 := Option.some.inj (g1.symm.trans g5)
  subst hcA
  obtain ⟨a1, a2, a3⟩ := dyn_push (r := r) (o := o) (L := x.toNat) hP hD hA1 hSS z1 o1 (by
    rw [hr, den_ref (Or.inl rfl)]
    show H1[H.size]? = some (vp_cell _ _)
    rw [e1, vp_cell_q]
    have e9 : (fun j => va_rf (rfo (zr D H.size H.size j))) = fun _ => (.null : Value) := by funext j; rw [zr_q]; rfl
    rw [e9])
  have := kk H.size f2 f1 (sok_new hS f2 f1 (by omega)) hM H1 locs ls hls a1 a2 a3
  rwa [rv_ne f2] at this
theorem V_dnA (h : Cx G md) (r o : Nat) {x : Int} {idx c : Nat} {ty : FieldType} (hc3 : (c = 103 ∧ ty = .object "RuntimeHeapLaw$Thing") ∨ (c = 104 ∧ ty = .int)) (hr : shD r = c) (d : decode md.2.1 pc = .ok (.anewarray idx, 3)) (hw : Cond.classLink md.1.cls idx (FieldType.array ty).toString ∈ wAll) (hS : SOK S D) (h0 : 0 ≤ x) (hx : x < 100000) (hk : k + 1 ≤ (gR G).cells ∧ n + x.toNat ≤ (gR G).slots) (kk : ∀ q, q ≠ 0 → lk S q = none → SOK (S ++ [(q, r, o, x.toNat)]) (zr D q) → V G md (k + 1) (n + x.toNat) (dl (gB G) (S ++ [(q, r, o, x.toNat)]) (zr D q)) M (pc + 3) lv (rv q :: st)) : V G md k n (dl (gB G) S D) M pc lv (.int (I x) :: st) := by
  obtain ⟨p, l, e, R, s, m, args, below, meth, cd, B, A, Z⟩ := G
  obtain ⟨hx', hb, hml, hown, hts, hKn, hlk, hfl, hA1, hA2, hret⟩ := h
  intro hM H locs ls hls hP hD hSS
  have hc : (I x).toNatClampNeg = x.toNat := I_cl h0 (by omega)
  obtain ⟨f1, f2⟩ := dyn_fresh hP
  have hao : AoA ty s := by
    rcases hc3 with ⟨-, rfl⟩ | ⟨-, rfl⟩
    · exact hKn.2.2.2.2.2.2.2.2.2.1
    · exact hKn.2.2.2.2.2.2.2.2.2.2
  refine W.anewA hx' hb hown (hts _ hw) (show _ from hao) rfl d rfl (by rw [← I_zero, I_lt ⟨by omega, by omega⟩ ⟨by decide, by decide⟩]; omega) (by rw [hc]; omega) hk.1 (by rw [hc]; exact hk.2) fun cA kA comp g1 g2 g3 g4 => ?_
  rw [hc]
  generalize hH1 : H.push ({ cls := cA, slots := Array.replicate x.toNat .null, vm := .none } : Cell) = H1
  obtain ⟨z1, e1, o1⟩ := push_facts hH1
  have hcA : cA = arB B c := by
    rcases hc3 with ⟨rfl, rfl⟩ | ⟨rfl, rfl⟩
    · exact Option.some.inj (g1.symm.trans (hKn.1.2 3 _ rfl).2)
    · exact Option.some.inj (g1.symm.trans (hKn.1.2 4 _ rfl).2)
  subst hcA
  obtain ⟨a1, a2, a3⟩ := dyn_push (r := r) (o := o) (L := x.toNat) hP hD hA1 hSS z1 o1 (by
    rw [hr, den_ref (by rcases hc3 with ⟨rfl, -⟩ | ⟨rfl, -⟩; exact Or.inr (Or.inl rfl); exact Or.inr (Or.inr rfl))]
    show H1[H.size]? = some (vp_cell _ _)
    rw [e1, vp_cell_q]
    have e9 : (fun j => va_rf (rfo (zr D H.size H.size j))) = fun _ => (.null : Value) := by funext j; rw [zr_q]; rfl
    rw [e9])
  have := kk H.size f2 f1 (sok_new hS f2 f1 (by omega)) hM H1 locs ls hls a1 a2 a3
  rwa [rv_ne f2] at this
/-- an object of the law's own: its words -/
def Nd (own : String) (idx c : Nat) : Prop := ∃ (C : String) (T : u_T) (N : Nat) (ty : Nat → FieldType), vwCl[c]? = some (C, T, N) ∧ (c = 12 ∨ c = 13) ∧ (∀ w ∈ u_ws C T N, w ∈ wAll) ∧ (∀ k, k < N → parseFieldDescriptor (T k).2.2.1 = some (ty k)) ∧ Cond.classLink own idx C ∈ wAll ∧ Cond.instantiable C N ∈ wAll ∧ Cond.initialized C ∈ wAll ∧ ∀ j, j < N → defaultValue (ty j) = if isRc c j = true then .null else .int 0
theorem V_dnew (h : Cx G md) (r o : Nat) {idx c : Nat} (hr : shD r = c) (hw : Nd md.1.cls idx c) (d : decode md.2.1 pc = .ok (.new idx, 3)) (hS : SOK S D) (hk : k + 1 ≤ (gR G).cells ∧ n + lnC c ≤ (gR G).slots) (kk : ∀ q, q ≠ 0 → lk S q = none → SOK (S ++ [(q, r, o, lnC c)]) (zr D q) → V G md (k + 1) (n + lnC c) (dl (gB G) (S ++ [(q, r, o, lnC c)]) (zr D q)) M (pc + 3) lv (rv q :: st)) : V G md k n (dl (gB G) S D) M pc lv st := by
  obtain ⟨p, l, e, R, s, m, args, below, meth, cd, B, A, Z⟩ := G
  obtain ⟨hx', hb, hml, hown, hts, hKn, hlk, hfl, hA1, hA2, hret⟩ := h
  obtain ⟨C, T, N, ty, hcl, hcc, hin, hty, w1, w2, w3, hdef⟩ := hw
  have hN : N = lnC c := dcl (j := 0) hcc hcl
  intro hM H locs ls hls hP hD hSS
  obtain ⟨f1, f2⟩ := dyn_fresh hP
  have hKc := hKn.1.1 c _ hcl
  refine W.newcK hx' hb hown (hts _ w1) (hts _ w2) (hts _ w3) rfl d hk.1 (by rw [hN]; exact hk.2) hKc.2.1 rfl fun H1 kC hkC e1 z1 o1 => ?_
  obtain ⟨a1, a2, a3⟩ := dyn_push (r := r) (o := o) (L := lnC c) hP hD hA1 hSS z1 o1 (by
    rw [hr, den_obj hcc]
    refine ⟨_, hcl, (u_born ty (fun w hw => hts w hw) hin hKc hkC e1 hty).to (fun j hj => ?_)⟩
    have hj : j < N := hj
    rw [hdef j hj]
    have hj2 : j < lnC c := hN ▸ hj
    show _ = ((List.range (lnC c)).map (dfd c (zr D H.size) H.size)).getD j .null
    have : dfd c (zr D H.size) H.size j = if isRc c j = true then .null else .int 0 := by
      unfold dfd
      rw [zr_q]
      rfl
    simp [hj2, this])
  have := kk H.size f2 f1 (sok_new hS f2 f1 (by unfold lnC; split <;> omega)) hM H1 locs ls hls a1 a2 a3
  rwa [rv_ne f2, ← hN] at this
theorem V_dOi (h : Cx G md) {idx : Nat} {t : Nat} (ht : t ≠ 0) (hw : Cond.methodLink md.1.cls idx Lib.objectInit ∈ wAll ∧ Cond.instanceMethod Lib.objectInit ∈ wAll ∧ Cond.code Lib.objectInit ⟨#[0xb1]⟩ 1 none ∈ wAll) (d : decode md.2.1 pc = .ok (.invokespecial idx, 3)) (hrm : 8 ≤ (gR G).frames ∧ 200 ≤ (gR G).locals) (hst : (st.map fun v => v.category).sum ≤ 8) {X : va_W} (kk : V G md k n X M (pc + 3) lv st) : V G md k n X M pc lv (rv t :: st) := by
  obtain ⟨p, l, e, R, s, m, args, below, meth, cd, B, A, Z⟩ := G
  obtain ⟨hx, hb, hml, hown, hts, hKn, -⟩ := h
  obtain ⟨w1, w2, w3⟩ := hw
  rw [rv_ne ht]
  intro hM H locs ls hl hP hD hSS
  exact W.objInit hx hb hown (hts _ w1) (hts _ w2) (hts _ w3) (g := F0 m pc ls (.ref t :: st)) rfl (hl.1.trans hml.symm) rfl d (by have := hrm.1; have h9 : R.frames = (gR (p, l, e, R, s, m, args, below, meth, cd, B, A, Z)).frames := rfl; omega) (by have := hrm.2; have h9 : R.locals = (gR (p, l, e, R, s, m, args, below, meth, cd, B, A, Z)).locals := rfl; show 2 * 0 + _ + 12 ≤ R.locals; omega) (kk hM H locs ls hl hP hD hSS)
/-! references compared, numbers mixed -/
variable {X : va_W}
theorem V_null (h : Cx G md) (d : decode md.2.1 pc = .ok (.aconst_null, 1)) (kk : V G md k n X M (pc + 1) lv (rv 0 :: st)) : V G md k n X M pc lv st := by
  obtain ⟨p, l, e, R, s, m, args, below, meth, cd, B, A, Z⟩ := G
  exact fun hM H locs ls hl hP hD hS => lv_null h.1 h.2.1 d (kk hM H locs ls hl hP hD hS)
theorem V_ifnull (h : Cx G md) {t : Nat} {off : Int} (tgt : Nat) (ht : (pc : Int) + off = (tgt : Int)) (d : decode md.2.1 pc = .ok (.ifnull off, 3)) (kt : t = 0 → V G md k n X M tgt lv st) (kf : t ≠ 0 → V G md k n X M (pc + 3) lv st) : V G md k n X M pc lv (rv t :: st) := by
  obtain ⟨p, l, e, R, s, m, args, below, meth, cd, B, A, Z⟩ := G
  intro hM H locs ls hl hP hD hS
  by_cases h0 : t = 0
  · subst h0
    exact lv_ifnullN h.1 h.2.1 d ht (kt rfl hM H locs ls hl hP hD hS)
  · rw [rv_ne h0]
    exact lv_ifnull h.1 h.2.1 d (kf h0 hM H locs ls hl hP hD hS)
theorem V_ifnonnull (h : Cx G md) {t : Nat} {off : Int} (tgt : Nat) (ht : (pc : Int) + off = (tgt : Int)) (d : decode md.2.1 pc = .ok (.ifnonnull off, 3)) (kt : t ≠ 0 → V G md k n X M tgt lv st) (kf : t = 0 → V G md k n X M (pc + 3) lv st) : V G md k n X M pc lv (rv t :: st) := by
  obtain ⟨p, l, e, R, s, m, args, below, meth, cd, B, A, Z⟩ := G
  intro hM H locs ls hl hP hD hS
  by_cases h0 : t = 0
  · subst h0
    exact lv_ifnonnullN h.1 h.2.1 d (kf rfl hM H locs ls hl hP hD hS)
  · rw [rv_ne h0]
    exact lv_ifnonnull h.1 h.2.1 d ht (kt h0 hM H locs ls hl hP hD hS)
theorem rfq {t u : Nat} : ((if t = 0 then none else some t) = (if u = 0 then none else some u)) ↔ t = u := by
  by_cases h : t = 0
  · by_cases g : u = 0
    · rw [if_pos h, if_pos g]; exact ⟨fun _ => h.trans g.symm, fun _ => rfl⟩
    · rw [if_pos h, if_neg g]; exact ⟨fun z => (by cases z), fun z => absurd (z.symm.trans h) g⟩
  · by_cases g : u = 0
    · rw [if_neg h, if_pos g]; exact ⟨fun z => (by cases z), fun z => absurd (z.trans g) h⟩
    · rw [if_neg h, if_neg g]; exact ⟨fun z => Option.some.inj z, fun z => by rw [z]⟩
theorem V_acmp_eq (h : Cx G md) {t u : Nat} {off : Int} (tgt : Nat) (ht : (pc : Int) + off = (tgt : Int)) (d : decode md.2.1 pc = .ok (.if_acmp .eq off, 3)) (kt : t = u → V G md k n X M tgt lv st) (kf : t ≠ u → V G md k n X M (pc + 3) lv st) : V G md k n X M pc lv (rv u :: rv t :: st) := by
  obtain ⟨p, l, e, R, s, m, args, below, meth, cd, B, A, Z⟩ := G
  exact fun hM H locs ls hl hP hD hS => lv_acmp_eq h.1 h.2.1 d ht (fun z => kt (rfq.mp z) hM H locs ls hl hP hD hS) (fun z => kf (fun y => z (rfq.mpr y)) hM H locs ls hl hP hD hS)
theorem V_acmp_ne (h : Cx G md) {t u : Nat} {off : Int} (tgt : Nat) (ht : (pc : Int) + off = (tgt : Int)) (d : decode md.2.1 pc = .ok (.if_acmp .ne off, 3)) (kt : t ≠ u → V G md k n X M tgt lv st) (kf : t = u → V G md k n X M (pc + 3) lv st) : V G md k n X M pc lv (rv u :: rv t :: st) := by
  obtain ⟨p, l, e, R, s, m, args, below, meth, cd, B, A, Z⟩ := G
  exact fun hM H locs ls hl hP hD hS => lv_acmp_ne h.1 h.2.1 d ht (fun z => kt (fun y => z (rfq.mpr y)) hM H locs ls hl hP hD hS) (fun z => kf (rfq.mp z) hM H locs ls hl hP hD hS)
/-- a number anew: whatever it is, it is one in range -/
theorem V_any (f : Int32 → List Value) {x : Int32} (kk : ∀ z : Int, inR z → I z = x → V G md k n X M pc lv (f (I z))) : V G md k n X M pc lv (f x) := by
  have := kk x.toInt (inR_of x) (I_of x)
  rwa [I_of] at this
theorem V_irem (h : Cx G md) {a b : Int} (h0 : 0 ≤ a) (h1 : a < 2147483648) (h2 : 0 < b) (h3 : b < 2147483648) (d : decode md.2.1 pc = .ok (.irem, 1)) (kk : V G md k n X M (pc + 1) lv (.int (I (a % b)) :: st)) : V G md k n X M pc lv (.int (I b) :: .int (I a) :: st) := by
  obtain ⟨p, l, e, R, s, m, args, below, meth, c, B, A, Z⟩ := G
  have hb0 : ¬ (I b = 0) := fun hz => by
    have := congrArg Int32.toInt hz
    rw [I_toInt ⟨by omega, h3⟩] at this
    have h9 : (0 : Int32).toInt = 0 := rfl
    omega
  have e1 : I a - (I a / I b) * I b = I (a % b) := by
    apply Int32.toInt_inj.mp
    have hq : 0 ≤ a % b := Int.emod_nonneg a (by omega)
    have hq2 : a % b < b := Int.emod_lt_of_pos a h2
    rw [rem_toInt, I_toInt ⟨by omega, h1⟩, I_toInt ⟨by omega, h3⟩, I_toInt ⟨by omega, by omega⟩, Int.tmod_eq_emod_of_nonneg h0]
  exact fun hM H locs ls hl hP hD hS => lv_irem h.1 h.2.1 d hb0 (by rw [e1]; exact kk hM H locs ls hl hP hD hS)
theorem V_ishr (h : Cx G md) {a b : Int32} (d : decode md.2.1 pc = .ok (.ishr, 1)) (kk : ∀ z : Int, inR z → V G md k n X M (pc + 1) lv (.int (I z) :: st)) : V G md k n X M pc lv (.int b :: .int a :: st) := by
  obtain ⟨p, l, e, R, s, m, args, below, meth, c, B, A, Z⟩ := G
  exact fun hM H locs ls hl hP hD hS => lv_ishr h.1 h.2.1 d (V_any (G := (p, l, e, R, s, m, args, below, meth, c, B, A, Z)) (fun y => .int y :: st) (fun z hz _ => kk z hz) hM H locs ls hl hP hD hS)
theorem V_iushr (h : Cx G md) {a b : Int32} (d : decode md.2.1 pc = .ok (.iushr, 1)) (kk : ∀ z : Int, inR z → V G md k n X M (pc + 1) lv (.int (I z) :: st)) : V G md k n X M pc lv (.int b :: .int a :: st) := by
  obtain ⟨p, l, e, R, s, m, args, below, meth, c, B, A, Z⟩ := G
  exact fun hM H locs ls hl hP hD hS => lv_iushr h.1 h.2.1 d rfl (V_any (G := (p, l, e, R, s, m, args, below, meth, c, B, A, Z)) (fun y => .int y :: st) (fun z hz _ => kk z hz) hM H locs ls hl hP hD hS)
theorem V_ixor (h : Cx G md) {a b : Int32} (d : decode md.2.1 pc = .ok (.ixor, 1)) (kk : ∀ z : Int, inR z → V G md k n X M (pc + 1) lv (.int (I z) :: st)) : V G md k n X M pc lv (.int b :: .int a :: st) := by
  obtain ⟨p, l, e, R, s, m, args, below, meth, c, B, A, Z⟩ := G
  exact fun hM H locs ls hl hP hD hS => lv_ixor h.1 h.2.1 d (V_any (G := (p, l, e, R, s, m, args, below, meth, c, B, A, Z)) (fun y => .int y :: st) (fun z hz _ => kk z hz) hM H locs ls hl hP hD hS)
theorem V_ldci (h : Cx G md) {idx : Nat} {v : Int32} (hw : Cond.constant md.1.cls idx v ∈ wAll) (d : decode md.2.1 pc = .ok (.ldc idx, 2)) (kk : V G md k n X M (pc + 2) lv (.int (I v.toInt) :: st)) : V G md k n X M pc lv st := by
  obtain ⟨p, l, e, R, s, m, args, below, meth, c, B, A, Z⟩ := G
  rw [I_of] at kk
  exact fun hM H locs ls hl hP hD hS => lv_ldc h.1 h.2.1 h.2.2.2.1 (h.2.2.2.2.1 _ hw) d (kk hM H locs ls hl hP hD hS)
end DynRules2
