/-! ===== distance, asked of the class ===== -/
def farL (M : Mem) : List (Nat × Int) := bfs M 6 209 (prL (sc (-1) [] (rtL M 80))) 0
def DsV (M : Mem) (x v : Int) : Prop := (∃ p : Nat, (p : Int) < M 80 0 ∧ M 81 p = x ∧ ((∃ k : Nat, (farL M)[k]? = some (p, v)) ∨ (v = -1 ∧ ¬ p ∈ (farL M).map Prod.fst))) ∨ ((∀ p : Nat, (p : Int) < M 80 0 → M 81 p ≠ x) ∧ v = -1)
section Ask7
variable {B : WB} {l : Launch} {X : va_W} {M M1 : Mem} {i p q : Nat} {x v : Int}
theorem bfs_get {lf : Int} {k : Nat} {e : Nat × Int} : ∀ (f : Nat) (L : List (Nat × Int)) (t : Nat), L[k]? = some e → (bfs M lf f L t)[k]? = some e := by
  intro f
  induction f with
  | zero => intro L t h; exact h
  | succ f ih =>
    intro L t h
    cases he : L[t]? with
    | none => rw [bfs_none he]; exact h
    | some e' => rw [bfs_some he]; exact ih _ _ (adA_get _ _ h)
theorem cs_distance (hl : l.stackTraces = false) (hI : Inv i M) (hx : inR x) {Q : Int → Mem → Prop} (hq : ∀ v M1, Inv i M1 → Agr rel M1 M → inR v → DsV M x v → NdL (M 80 0) (farL M) → Q v M1) : OkI B l md_X11_distance 0 0 [.ref (ad B 0), .int (I x)] X M Q NoX := by
  have ho := hI.ob
  have R := inv_rep hI
  have h62 : isSc 62 := Or.inr (Or.inr (Or.inr (Or.inr (Or.inr (Or.inl rfl)))))
  have c62 := sc_cs h62
  refine ok_X11_distance hl (fun G1 h1 => go_X11_distance_0 h1 (cs_findNear (i := i) (Ct_fl h1) hI (fun M1 w1 => ?_)))
  have I1 := inv_fw h62 hI w1.2.1 w1.1
  have c1 := fw_agr h62 w1.2.1
  have hnd : NdL (M 80 0) (farL M) := w1.2.2.2.2
  have hln : (((farL M).length : Nat) : Int) = M1 62 2 := w1.2.2.1
  have hfar : ∀ (p : Nat), (p : Int) < M 80 0 → ∃ v : Int, inR v ∧ ((∃ k : Nat, (farL M)[k]? = some (p, v)) ∨ (v = -1 ∧ ¬ p ∈ (farL M).map Prod.fst)) ∧ ((Sm M1 62 (M 19 p) ∧ M1 30 (M 19 p).toNat = v) ∨ (¬ Sm M1 62 (M 19 p) ∧ v = -1)) := by
    intro p hp
    have hm := wk_mem R w1 hp
    by_cases hin : p ∈ (farL M).map Prod.fst
    · obtain ⟨k', e, h1, h2⟩ := nd_mem.mp hin
      have h3 := (w1.2.2.2.1 k' e h1).2
      have h4 := hnd.1 k' e h1
      have h5' := get_lt h1
      have h7 := w1.1.1
      have e9 : e = (p, e.2) := by rw [← h2]
      rw [h2] at h3
      exact ⟨e.2, ⟨by omega, by omega⟩, Or.inl ⟨k', h1.trans (congrArg some e9)⟩, Or.inl ⟨hm.mpr hin, h3⟩⟩
    · exact ⟨-1, ⟨by decide, by decide⟩, Or.inr ⟨rfl, hin⟩, Or.inr ⟨fun z => hin (hm.mp z), rfl⟩⟩
  refine cs_cellOf (i := i) (Ct_fl h1) hx I1.ob (fun p hp he z => ?_) (fun hno z => ?_)
  · have en : (p : Int) < M 80 0 := by rw [← c1 80 0 rfl]; exact hp
    have ep : M 81 p = x := (c1 81 p rfl).symm.trans he
    have e19 : M1 19 p = M 19 p := c1 19 p rfl
    obtain ⟨v, hv, h7, h8⟩ := hfar p en
    have hcp := R.2.1 p (by have := R.1; omega)
    rw [e19]
    refine ok_X9_stepsTo (Ct_fl h1) (fun G3 h3 => go_X9_stepsTo_0 h3 (cs_contains c62 (Ct_fl h3) ⟨by omega, by omega⟩ w1.1 (fun hs z5 => ⟨z5, fun h => absurd h (by decide), fun _ => ⟨hcp, fun z6 => ⟨z6, fun z7 => ⟨z7, ?_⟩⟩⟩⟩) (fun hs z5 => ⟨z5, fun _ => ⟨⟨by decide, by decide⟩, fun z6 => ⟨z6, ?_⟩⟩, fun h => absurd rfl h⟩)))
    · have e : M1 30 (M 19 p).toNat = v := by
        rcases h8 with h | h
        · exact h.2
        · exact absurd hs h.1
      rw [e]
      exact hq v M1 I1 c1 hv (Or.inl ⟨p, en, ep, h7⟩) hnd
    · have e : v = -1 := by
        rcases h8 with h | h
        · exact absurd h.1 hs
        · exact h.2
      rw [e] at h7
      exact hq (-1) M1 I1 c1 ⟨by decide, by decide⟩ (Or.inl ⟨p, en, ep, h7⟩) hnd
  · exact ok_X9_stepsTo (Ct_fl h1) (fun G3 h3 => go_X9_stepsTo_0 h3 (cs_contains c62 (Ct_fl h3) ⟨by decide, by decide⟩ w1.1 (fun hs => absurd hs.1 (by decide)) (fun hs z5 => ⟨z5, fun _ => ⟨⟨by decide, by decide⟩, fun z6 => ⟨z6, hq (-1) M1 I1 c1 z6 (Or.inr ⟨fun p hp he => hno p (by rw [c1 80 0 rfl]; exact hp) ((c1 81 p rfl).trans he), rfl⟩) hnd⟩⟩, fun h => absurd rfl h⟩)))
theorem rt_mem (hI : Inv i M) {q : Nat} : q ∈ sc (-1) [] (rtL M 80) ↔ Hrt M 80 q := by
  have N1 := ob_num hI.ob
  have h7 := hI.li.1.2.1
  have h8 := hI.li.2.2.1
  rw [mem_sc, mem_rtL N1 h7 h8]
  constructor
  · rintro (h | h)
    · cases h
    · exact h.1
  · intro h
    exact Or.inr ⟨h, by omega⟩
theorem rch_ed (hI : Inv i M) {b : Int} {k : Nat} (ha : (p : Int) < M 80 0) (ht : Rch M b p) (hk : (k : Int) < lnkR M 80 p) (he : Ed M 80 p k q) (hb : (q : Int) ≠ b) : Rch M b q := by
  refine cl_cls.1 p k q ha ht ?_ he hb
  have e1 : cntR M 80 0 p = if M 82 p = 4 ∧ (0 : Int) = 0 then 1 else lnkR M 80 p := rfl
  have e2 : lnkR M 80 p = if M 82 p = 0 then M 74 (M 83 p).toNat else if M 82 p = 1 then M 83 p else 0 := rfl
  rw [e1]
  by_cases h4 : M 82 p = 4
  · rw [e2, if_neg (by omega), if_neg (by omega)] at hk
    omega
  · rw [if_neg (fun z => h4 z.1)]
    exact hk
theorem rch_rt {b : Int} (h : Hrt M 80 q) (hb : (q : Int) ≠ b) : Rch M b q := cl_sub ⟨h, hb⟩
theorem far_rch (hI : Inv i M) (h : p ∈ (farL M).map Prod.fst) : Rch M (-1) p := by
  have R := (rep_ref (inv_rep hI))
  refine (bfs_sound R (T := fun p => Rch M (-1) p) (fun a k q ha ht hk he => rch_ed hI ha ht hk he (by omega)) 209 _ 0 (fun q hq => ?_) p h).2
  rw [prL_fst] at hq
  have hr := (rt_mem hI).mp hq
  exact ⟨hr.1, rch_rt hr (by omega)⟩
theorem ds_rch (hI : Inv i M) (h : DsV M x v) (hv : 0 ≤ v) : RchN M x := by
  rcases h with ⟨p, h1, h2, ⟨k, h3⟩ | ⟨h3, -⟩⟩ | ⟨-, h3⟩
  · exact ⟨p, h1, h2, far_rch hI (nd_mem.mpr ⟨k, _, h3, rfl⟩)⟩
  · omega
  · omega
theorem ds_ge (hnd : NdL (M 80 0) (farL M)) (h : DsV M x v) : -1 ≤ v := by
  rcases h with ⟨p, h1, h2, ⟨k, h3⟩ | ⟨h3, -⟩⟩ | ⟨-, h3⟩
  · have := (hnd.1 k _ h3).2.1
    have e : ((p, v) : Nat × Int).2 = v := rfl
    omega
  · omega
  · omega
theorem prl_0 {L : List Nat} {k : Nat} {e : Nat × Int} (h : (prL L)[k]? = some e) : e.2 = 0 := by
  have h2 : e ∈ prL L := List.mem_of_getElem? h
  unfold prL at h2
  obtain ⟨a, -, h3⟩ := List.mem_map.mp h2
  rw [← h3]
theorem ds_root (hI : Inv i M) (hnd : NdL (M 80 0) (farL M)) (hr : Hrt M 80 q) (h : DsV M (M 81 q) v) : v = 0 := by
  have hm : q ∈ (prL (sc (-1) [] (rtL M 80))).map Prod.fst := by
    rw [prL_fst]
    exact (rt_mem hI).mpr hr
  obtain ⟨k, e, h1, h2⟩ := nd_mem.mp hm
  have h0 := prl_0 h1
  have hg : (farL M)[k]? = some e := bfs_get 209 _ 0 h1
  have N1 := ob_num hI.ob
  rcases h with ⟨p, g1, g2, ⟨k', g3⟩ | ⟨g3, g4⟩⟩ | ⟨g3, -⟩
  · have hpq : p = q := N1.inj g1 hr.1 g2
    rcases Nat.lt_trichotomy k k' with y | y | y
    · exact absurd (h2.trans hpq.symm) (hnd.2 _ _ _ _ y hg g3)
    · rw [y, g3] at hg
      have e9 : (p, v) = e := Option.some.inj hg
      rw [← e9] at h0
      exact h0
    · exact absurd (hpq.trans h2.symm) (hnd.2 _ _ _ _ y g3 hg)
  · have hpq : p = q := N1.inj g1 hr.1 g2
    exact absurd (nd_mem.mpr ⟨k, e, hg, h2.trans hpq.symm⟩) g4
  · exact absurd rfl (g3 q hr.1)
end Ask7
/-! ===== the law's own memory looks at what rel tells alone ===== -/
def mkRl (N : Mem) : Mem := fun o k => if rel o k = false then 0 else N o k
theorem mkRl_eq {N V : Mem} (g : Agr rel V N) : mkRl V = mkRl N := by
  funext o k
  unfold mkRl
  by_cases h : rel o k = false
  · rw [if_pos h, if_pos h]
  · rw [if_neg h, if_neg h]
    exact g o k (by revert h; cases rel o k <;> simp)
theorem srf_Rl {N : Mem} {S : Sh} {D : Mem} {c : SC} : SrF (mkRl N) S D c ↔ SrF N S D c := Iff.rfl
theorem srq_Rl {N : Mem} {D : Mem} {c : SC} : SrQ (mkRl N) D c ↔ SrQ N D c := Iff.rfl
theorem srk_Rl {N : Mem} {S : Sh} {D : Mem} {c : SC} : SrK (mkRl N) S D c ↔ SrK N S D c := Iff.rfl
theorem sro_Rl {N : Mem} {S : Sh} {D : Mem} {c : SC} : SrO (mkRl N) S D c ↔ SrO N S D c := Iff.rfl
theorem srb_Rl {N : Mem} {D : Mem} {c : SC} : SrB (mkRl N) D c ↔ SrB N D c := Iff.rfl
theorem sri_Rl {N : Mem} {S : Sh} {D : Mem} {c : SC} : SrI (mkRl N) S D c ↔ SrI N S D c := Iff.rfl
theorem src_Rl {N : Mem} {D : Mem} {c : SC} : SrC (mkRl N) D c ↔ SrC N D c := Iff.rfl
theorem srm_Rl {N : Mem} {S : Sh} {D : Mem} {c : SC} : SrM (mkRl N) S D c ↔ SrM N S D c := Iff.rfl
theorem sr_rel {N V : Mem} {S : Sh} {D : Mem} {c : SC} (g : Agr rel V N) (h : SR N S D c) : SR V S D c := by
  have e := mkRl_eq g
  obtain ⟨h1, h2, h3, h4, h5, h6, h7, h8, h9⟩ := h
  exact ⟨h1, srf_Rl.mp (by rw [e]; exact srf_Rl.mpr h2), srq_Rl.mp (by rw [e]; exact srq_Rl.mpr h3), srk_Rl.mp (by rw [e]; exact srk_Rl.mpr h4), sro_Rl.mp (by rw [e]; exact sro_Rl.mpr h5), srb_Rl.mp (by rw [e]; exact srb_Rl.mpr h6), sri_Rl.mp (by rw [e]; exact sri_Rl.mpr h7), src_Rl.mp (by rw [e]; exact src_Rl.mpr h8), srm_Rl.mp (by rw [e]; exact srm_Rl.mpr h9)⟩
