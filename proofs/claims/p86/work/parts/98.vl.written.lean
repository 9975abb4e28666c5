/-! ===== the IMAGE is written, by hand ===== -/
def Ord (S : Sh) (N D : Mem) (c : SC) (q4 : Nat) (L : List (Nat × Int)) (D1 : Mem) : Prop := (∀ a y, lk S a = some y → ∀ j, D1 a j = D a j) ∧ (∀ (j : Nat) (e : Nat × Int), L[j]? = some e → (D1 q4 j).toNat = tg c D e.1) ∧ NdL (N 80 0) L ∧ ∀ (j : Nat) (e : Nat × Int), L[j]? = some e → N 82 e.1 ≤ 2
def RkV (N : Mem) (L : List (Nat × Int)) (n r : Int) : Prop := (∃ (k : Nat) (e : Nat × Int), L[k]? = some e ∧ N 81 e.1 = n ∧ r = (k : Int) + 1) ∨ (r = 0 ∧ ∀ (k : Nat) (e : Nat × Int), L[k]? = some e → N 81 e.1 ≠ n)
def ImD (q : Nat) (Z : List Int) (D : Mem) : Prop := ∀ (j : Nat) (v : Int), Z[j]? = some v → D q j = v
noncomputable def rkF (L : List (Nat × Int)) (q : Nat) : Int := @dite _ (∃ k : Nat, ∃ e, L[k]? = some e ∧ e.1 = q) (Classical.propDecidable _) (fun h => ((Classical.choose h : Nat) : Int) + 1) (fun _ => 0)
section Wrt
variable {B : WB} {l : Launch} {S S1 : Sh} {D D1 D2 M N : Mem} {c : SC} {i kc nc : Nat} {a b e9 x : Int} {q : Nat} {Z : List Int} {L : List (Nat × Int)} {R R' : Nat → Int}
theorem rkF_ok (h : NdL (N 80 0) L) : RkL N L (rkF L) := by
  refine ⟨fun k e hk => ?_, fun q _ hq => ?_⟩
  · have hex : ∃ k' : Nat, ∃ e', L[k']? = some e' ∧ e'.1 = e.1 := ⟨k, e, hk, rfl⟩
    unfold rkF
    rw [dif_pos hex]
    obtain ⟨e', h1, h2⟩ := Classical.choose_spec hex
    rcases Nat.lt_trichotomy (Classical.choose hex) k with y | y | y
    · exact absurd h2 (h.2 _ _ _ _ y h1 hk)
    · rw [y]
    · exact absurd h2.symm (h.2 _ _ _ _ y hk h1)
  · unfold rkF
    rw [dif_neg]
    rintro ⟨k, e, h1, h2⟩
    exact hq (nd_mem.mpr ⟨k, e, h1, h2⟩)
theorem rk_uni (h : RkL N L R) (h' : RkL N L R') (q : Nat) (hq : (q : Int) < N 80 0) : R q = R' q := by
  by_cases hin : q ∈ L.map Prod.fst
  · obtain ⟨k, e, h1, h2⟩ := nd_mem.mp hin
    have g1 := h.1 k e h1
    have g2 := h'.1 k e h1
    rw [h2] at g1 g2
    omega
  · rw [h.2 q hq hin, h'.2 q hq hin]
theorem celV_u (hn : Num N 80) (h : ∀ q : Nat, (q : Int) < N 80 0 → R q = R' q) {p k : Nat} : celV N R p k = celV N R' p k := by
  by_cases hk : (k : Int) < lnkR N 80 p
  · cases hf : fd N 80 (N 87 ((N 84 p).toNat + k)) with
    | none => rw [celV_n hk hf, celV_n hk hf]
    | some q => rw [celV_s hk hf, celV_s hk hf, h q ((fd_some hn).mp hf).1]
  · rw [celV_d hk, celV_d hk]
theorem thI_u (hn : Num N 80) (h : ∀ q : Nat, (q : Int) < N 80 0 → R q = R' q) {p : Nat} : ∀ k, thI N R p k = thI N R' p k := by
  intro k
  induction k with
  | zero => rfl
  | succ k ih =>
    show thI N R p k ++ [celV N R p k] = thI N R' p k ++ [celV N R' p k]
    rw [ih, celV_u hn h]
theorem zI_u (hn : Num N 80) (h : ∀ q : Nat, (q : Int) < N 80 0 → R q = R' q) : ∀ t, zI N R L t = zI N R' L t := by
  intro t
  induction t with
  | zero => rfl
  | succ t ih =>
    show zI N R L t ++ thI N R (plc L t) (sizR N 80 (plc L t)).toNat = zI N R' L t ++ thI N R' (plc L t) (sizR N 80 (plc L t)).toNat
    rw [ih, thI_u hn h]
theorem imd_app (h : ImD q Z D) : ImD q (Z ++ [x]) (up D q Z.length x) := by
  intro j v hj
  rcases zapp hj with h9 | ⟨h1, h2⟩
  · have := zlt h9
    rw [up_k (by omega)]
    exact h j v h9
  · rw [h1, h2, up_s]
theorem siz_ln {p : Nat} (h : 0 ≤ N 82 p ∧ N 82 p ≤ 2) : sizR N 80 p = lnkR N 80 p + numR N p := by
  show (if N 82 p = 0 then N 74 (N 83 p).toNat + N 75 (N 83 p).toNat else if N 82 p = 6 then 2 * N 83 p else N 83 p) = (if N 82 p = 0 then N 74 (N 83 p).toNat else if N 82 p = 1 then N 83 p else 0) + numR N p
  unfold numR
  by_cases h0 : N 82 p = 0
  · rw [if_pos h0, if_pos h0, if_pos h0]
  · rw [if_neg h0, if_neg h0, if_neg h0, if_neg (by omega : ¬ N 82 p = 6)]
    by_cases h1 : N 82 p = 1
    · rw [if_pos h1, if_neg (by omega : ¬ N 82 p = 2)]
      omega
    · rw [if_neg h1, if_pos (by omega : N 82 p = 2)]
      omega
theorem ord_add {q4 q : Nat} {d : Int} (hn : lk S q4 = none) (h : Ord S N D c q4 L D1) (hq : (q : Int) < N 80 0) (hnot : ¬ q ∈ L.map Prod.fst) (h2 : N 82 q ≤ 2) (hd : 0 ≤ d ∧ d ≤ L.length) : Ord S N D c q4 (ad1 L d q) (up D1 q4 L.length ((tg c D q : Nat) : Int)) := by
  obtain ⟨h1, h3, h4, h5⟩ := h
  have e : ad1 L d q = L ++ [(q, d)] := if_neg hnot
  refine ⟨fun a y ha j => ?_, fun j e' hj => ?_, nd_ad1 h4 hq hd, fun j e' hj => ?_⟩
  · rw [up_ad (fun z => by rw [z, hn] at ha; cases ha)]
    exact h1 a y ha j
  · rw [e] at hj
    rcases app_get hj with g | ⟨g1, g2⟩
    · have := get_lt g
      rw [up_k (by omega)]
      exact h3 j e' g
    · rw [g1, g2, up_s, Int.toNat_natCast]
  · rw [e] at hj
    rcases app_get hj with g | ⟨g1, g2⟩
    · exact h5 j e' g
    · rw [g2]
      exact h2
theorem w_place {t0 u L0 : Nat} {n : Int} (hl : l.stackTraces = false) (hS0 : SOK S D) (hI : Inv i N) (hR : SR N S D c) (ht0 : lk S1 t0 = some (11, 0, L0)) (hlen : L.length ≤ L0) (hL0 : L0 ≤ 1000) (hord : ∀ (j : Nat) (e : Nat × Int), L[j]? = some e → (D1 t0 j).toNat = tg c D e.1) (hnd : NdL (N 80 0) L) (hn : Nr N D c u n) {Q : Int → Prop} (hq : ∀ r, RkV N L n r → inR r → Q r) : OkU B l md_X12_place [] 0 0 [rv t0, .int (I (L.length : Int)), rv u] S1 D1 M (uN kI S1 D1 M Q) := by
  refine ok_X12_place hl (fun G hG hS => go_X12_place_0 hG ?_ hS)
  have key : ∀ r k : Nat, k + r = L.length → (∀ (j : Nat) (e : Nat × Int), j < k → L[j]? = some e → N 81 e.1 ≠ n) → L_X12_place_2 G S1 D1 M t0 (L.length : Int) u k := by
    intro r
    induction r with
    | zero =>
      intro k hk hno
      exact go_X12_place_2 hG ⟨⟨by omega, by omega⟩, ⟨by omega, by omega⟩, fun _ => ⟨⟨by decide, by decide⟩, hq 0 (Or.inr ⟨rfl, fun j e he => hno j e (by have := get_lt he; omega) he⟩) ⟨by decide, by decide⟩⟩, fun z => absurd z (by omega)⟩
    | succ r ih =>
      intro k hk hno
      have e1 : L[k]? = some (L[k]'(by omega)) := List.getElem?_eq_getElem (by omega)
      have hp := (hnd.1 k _ e1).1
      have ho := hord k _ e1
      have hiff := nr_iff hS0 (obI_of hI.ob) hR.o hn hp
      refine go_X12_place_2 hG ⟨⟨by omega, by omega⟩, ⟨by omega, by omega⟩, fun z => absurd z (by omega), fun _ => ⟨⟨_, ⟨11, _, ht0, rfl⟩, by omega, by omega⟩, fun u2 hu2 => ?_⟩⟩
      have hu2 : u2 = tg c D (L[k]'(by omega)).1 := hu2.trans ho
      refine ⟨fun hne => ih (k + 1) (by omega) (fun j e hj he => ?_), fun he => ⟨⟨by omega, by omega⟩, hq _ (Or.inl ⟨k, _, e1, hiff.mp (he.symm.trans hu2), rfl⟩) ⟨by omega, by omega⟩⟩⟩
      rcases Nat.lt_or_ge j k with y | y
      · exact hno j e y he
      · have : j = k := by omega
        subst this
        rw [e1] at he
        cases he
        exact fun z => hne (hu2.trans (hiff.mpr z).symm)
  exact key L.length 0 (by omega) (fun j e hj => absurd hj (Nat.not_lt_zero _))
theorem rkv_cel (hn : Num N 80) (hk : RkL N L R) {p k : Nat} (hl : (k : Int) < lnkR N 80 p) {r : Int} (h : RkV N L (N 87 ((N 84 p).toNat + k)) r) (hnd : NdL (N 80 0) L) : r = celV N R p k := by
  rcases h with ⟨j, e, h1, h2, h3⟩ | ⟨h1, h2⟩
  · have hf : fd N 80 (N 87 ((N 84 p).toNat + k)) = some e.1 := (fd_some hn).mpr ⟨(hnd.1 j e h1).1, h2⟩
    rw [celV_s hl hf, hk.1 j e h1, h3]
  · cases hf : fd N 80 (N 87 ((N 84 p).toNat + k)) with
    | none => rw [celV_n hl hf, h1]
    | some q =>
      obtain ⟨g1, g2⟩ := (fd_some hn).mp hf
      rw [celV_s hl hf, h1, hk.2 q g1]
      intro hin
      obtain ⟨j, e, g3, g4⟩ := nd_mem.mp hin
      exact h2 j e g3 (by rw [g4]; exact g2)
theorem adA_len {d : Int} : ∀ (a : List Nat) (L : List (Nat × Int)), L.length ≤ (adA d L a).length := by
  intro a
  induction a with
  | nil => intro L; exact Nat.le_refl _
  | cons q a ih => intro L; exact Nat.le_trans ad1_len (ih (ad1 L d q))
theorem nd_le208 (hI : Inv i N) (h : NdL (N 80 0) L) : (L.length : Int) ≤ N 80 0 := by
  have hn := hI.ob.1
  have h2 : NdL ((N 80 0).toNat : Int) L := by rw [show ((N 80 0).toNat : Int) = N 80 0 by omega]; exact h
  have := nd_len h2
  omega
theorem nd_rm208 (hI : Inv i N) (h : NdL (N 80 0) L) (hq : (q : Int) < N 80 0) (hnot : ¬ q ∈ L.map Prod.fst) : (L.length : Int) < N 80 0 := by
  have hn := hI.ob.1
  have h2 : NdL ((N 80 0).toNat : Int) L := by rw [show ((N 80 0).toNat : Int) = N 80 0 by omega]; exact h
  have := nd_room h2 (by omega) hnot
  omega
section Wr1
variable {G : GT} {Q : Nat → Sh → Mem → Prop} {K n9 : Nat}
/-- what a Thing holds comes into the row -/
theorem wr67 {q4 t k n : Nat} {Lt : List (Nat × Int)} {e : Nat × Int} {sz : Int} (hG : CtU G md_X12_written [] S (uS kR M Q) B l K n9) (hS0 : SOK S D) (hI : Inv i N) (hR : SR N S D c) (hbk : k ≤ K ∧ n ≤ n9) (hX : Xs S S1) (hq4 : lk S q4 = none) (l4 : lk S1 q4 = some (11, 0, (N 80 0).toNat)) (he : Lt[t]? = some e) (hsz : inR sz) (hlt : NdL (N 80 0) Lt)
    (nx : ∀ D2, Ord S N D c q4 (adA (e.2 + 1) Lt (sucL N 2 e.1 (lnkR N 80 e.1).toNat)) D2 → L_X12_written_20 G S1 D2 M k n (s_m c) q4 ((adA (e.2 + 1) Lt (sucL N 2 e.1 (lnkR N 80 e.1).toNat)).length : Int) sz ((t : Int) + 1)) :
    ∀ r j : Nat, (j : Int) + r = lnkR N 80 e.1 → ∀ D1, Ord S N D c q4 (adA (e.2 + 1) Lt (sucL N 2 e.1 j)) D1 → L_X12_written_67 G S1 D1 M k n (s_m c) q4 ((adA (e.2 + 1) Lt (sucL N 2 e.1 j)).length : Int) sz t (D (tg c D e.1) 4).toNat (lnkR N 80 e.1) j := by
  have hL := hR.l
  have hob := obI_of hI.ob
  have hn := hI.ob.1
  obtain ⟨hp, hd1, hd2⟩ := hlt.1 t e he
  have htl := get_lt he
  have ht := hR.o.2.2 e.1 hp
  have h4 := ht.2.2.1.1
  have hC := smC hL
  obtain ⟨z1, z2⟩ := hX
  have hX : Xs S S1 := ⟨z1, z2⟩
  have hsm : IsC S1 (s_m c) 12 := ⟨0, 0, 21, lk_x hX hL.1, rfl⟩
  have hlk := (lnk_bd hI hp).1
  have N1 : Num N 80 := ob_num hI.ob
  intro r
  induction r with
  | zero =>
    intro j hj D1 hO1
    have hlen := nd_le208 hI hO1.2.2.1
    have ej : (lnkR N 80 e.1).toNat = j := by omega
    rw [ej] at nx
    exact go_X12_written_67 hG hX hsm ⟨⟨by omega, by omega⟩, ⟨by omega, by omega⟩, fun _ => nx D1 hO1, fun z => absurd z (by omega)⟩
  | succ r ih =>
    intro j hj D1 hO1
    have hlen := nd_le208 hI hO1.2.2.1
    have hcn := ht.2.2.2.2.1 j (by omega)
    have hval : D1 (D (tg c D e.1) 4).toNat j = D (D (tg c D e.1) 4).toNat j := hO1.1 _ _ h4 j
    have hge : Lt.length ≤ (adA (e.2 + 1) Lt (sucL N 2 e.1 j)).length := adA_len _ _
    have nxt := ih (j + 1) (by push_cast at hj ⊢; omega)
    have skip : fdL N 2 (N 87 ((N 84 e.1).toNat + j)) = none → sucL N 2 e.1 (j + 1) = sucL N 2 e.1 j := fun h => col_none (g := fun k => fdL N 2 (N 87 ((N 84 e.1).toNat + k))) h
    refine go_X12_written_67 hG hX hsm ⟨⟨by omega, by omega⟩, ⟨by omega, by omega⟩, fun z => absurd z (by omega), fun _ => ⟨⟨_, ⟨7, _, lk_x hX h4, rfl⟩, by omega, by omega⟩, fun u hu => ?_⟩⟩
    have hu : u = (D (D (tg c D e.1) 4).toNat j).toNat := hu.trans (by show (D1 _ j).toNat = _; rw [hval])
    rw [hu]
    rcases hcn with ⟨y1, y2⟩ | ⟨q, y1, y2, y3⟩
    · rw [y1]
      have hs : sucL N 2 e.1 (j + 1) = sucL N 2 e.1 j := skip (fdL_none ((fd_none N1).mpr (fun q hq => by have := hob.2.2 q hq; show N 81 q ≠ _; omega)))
      rw [hs] at nxt
      exact ⟨fun _ => nxt D1 hO1, fun z => absurd rfl z⟩
    · rw [y2]
      have htq := hR.o.2.2 q y1
      have hne := tg_ne hS0 hR.o y1
      have hf : fd N 80 (N 87 ((N 84 e.1).toNat + j)) = some q := (fd_some N1).mpr ⟨y1, y3.symm⟩
      have hfm : D1 (tg c D q) 1 = N 82 q := (hO1.1 _ _ htq.1 1).trans htq.2.1.2.1
      have hfb := frm_b hI y1
      refine ⟨fun z => absurd z hne, fun _ => ⟨⟨1, 0, 24, lk_x hX htq.1, rfl⟩, fun z3 => ?_⟩⟩
      rw [hfm]
      refine ⟨⟨by omega, by omega⟩, ⟨by decide, by decide⟩, fun h2 => ?_, fun h2 => ⟨hbk, ?_⟩⟩
      · have hs : sucL N 2 e.1 (j + 1) = sucL N 2 e.1 j := skip ((fdL_some hf).trans (if_neg (by omega)))
        rw [hs] at nxt
        exact nxt D1 hO1
      · have hs : sucL N 2 e.1 (j + 1) = sucL N 2 e.1 j ++ [q] := col_some (g := fun k => fdL N 2 (N 87 ((N 84 e.1).toNat + k))) ((fdL_some hf).trans (if_pos h2))
        have ha : adA (e.2 + 1) Lt (sucL N 2 e.1 (j + 1)) = ad1 (adA (e.2 + 1) Lt (sucL N 2 e.1 j)) (e.2 + 1) q := by rw [hs, adA_app]; rfl
        rw [ha] at nxt
        refine w_place (CtU_fl hG) hS0 hI hR l4 (by omega) (by omega) hO1.2.1 hO1.2.2.1 (n := N 81 q) (Or.inr ⟨q, y1, rfl, rfl⟩) (fun r9 hr zr => fun z5 => ⟨zr, fun hle => ?_, fun hgt => ?_⟩)
        · have hnot : ¬ q ∈ (adA (e.2 + 1) Lt (sucL N 2 e.1 j)).map Prod.fst := fun hin => by
            obtain ⟨k9, e', g1, g2⟩ := nd_mem.mp hin
            rcases hr with ⟨k8, e8, -, -, g3⟩ | ⟨-, g3⟩
            · omega
            · exact g3 k9 e' g1 (by rw [g2])
          have hrm := nd_rm208 hI hO1.2.2.1 y1 hnot
          have hord := ord_add hq4 hO1 y1 hnot h2 (d := e.2 + 1) ⟨by omega, by omega⟩
          have hl1 : ((ad1 (adA (e.2 + 1) Lt (sucL N 2 e.1 j)) (e.2 + 1) q).length : Int) = ((adA (e.2 + 1) Lt (sucL N 2 e.1 j)).length : Int) + 1 := by
            unfold ad1
            rw [if_neg hnot, List.length_append]
            rfl
          refine ⟨⟨_, ⟨11, _, l4, rfl⟩, by omega, by omega⟩, Or.inr ⟨1, 0, 24, lk_x hX htq.1, rfl⟩, fun D2 hD2 => ?_⟩
          have := nxt D2 (by rw [hD2]; exact hord)
          rw [hl1] at this
          exact this
        · have hin : q ∈ (adA (e.2 + 1) Lt (sucL N 2 e.1 j)).map Prod.fst := by
            rcases hr with ⟨k8, e8, g1, g2, g3⟩ | ⟨g1, -⟩
            · have : e8.1 = q := nu_inj hob (hO1.2.2.1.1 k8 e8 g1).1 y1 g2
              exact nd_mem.mpr ⟨k8, e8, g1, this⟩
            · omega
          have e1 : ad1 (adA (e.2 + 1) Lt (sucL N 2 e.1 j)) (e.2 + 1) q = adA (e.2 + 1) Lt (sucL N 2 e.1 j) := if_pos hin
          rw [e1] at nxt
          exact nxt D1 hO1
end Wr1
end Wrt
