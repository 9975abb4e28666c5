/-! ===== the reference finds room, and what was asked stands ===== -/
section RoomR
variable {B : WB} {l : Launch} {X : va_W} {i j : Nat} {M M' M1 N : Mem} {Q : Int → Mem → Prop} {QV : Mem → Prop} {w x : Int}
theorem ms_collJF {x : Int} (hx : howW w = x) (h0 : w ≠ 0) (hl : l.stackTraces = false) (hI : Inv i N) (hw : WayOk N w) (h3 : N 80 3 + 1 ≤ 100 * i) (h4 : N 80 4 + 1 ≤ 100 * i) (hi : i ≤ 1000) (r : JnR M N) (hq : ∀ M', JnR M' (colW N w) → (∀ o k, o < 72 ∨ (o = 72 ∧ k = 0) ∨ o = 78 → M' o k = M o k) → Q (N 80 0 - (kc (KW N w) (N 80 0).toNat : Int)) M') : OkI B l md_X12_collect 0 0 [.ref (ad B 80), .int (I x)] X M Q NoX := by
  obtain ⟨r1, r2, r3⟩ := r
  have s80 := r3 80 (Or.inl rfl)
  have s97 := r3 97 (Or.inr (Or.inl rfl))
  have s114 := r3 114 (Or.inr (Or.inr rfl))
  refine ms_collect hx (Or.inl rfl) (by decide) hl hI hw h3 h4 hi r1 (fun e => absurd e h0) s80.1 s80.2 s97.1 s97.2 (fun M' a f b1 b2 b3 => hq M' ⟨a, fun o k h => ?_, fun o ho => ?_⟩ (fun o k h => f o k (by omega) (by omega) (by omega) (by omega)))
  · rw [f o k (by omega) (by omega) (by omega) (by omega), r2 o k h]
    by_cases h10 : o = 72 ∧ k = 10
    · obtain ⟨rfl, rfl⟩ := h10
      rw [colW_on, if_neg h0]
    · exact (colW_k (by omega)).symm
  · rcases ho with rfl | rfl | rfl
    · exact ⟨b1, b2⟩
    · exact ⟨b3, by rw [f 97 26 (by omega) (by omega) (by decide) (by decide)]; exact s97.2⟩
    · rw [f 114 25 (by omega) (by omega) (by decide) (by decide), f 114 26 (by omega) (by omega) (by decide) (by decide)]
      exact s114
theorem ms_endMF (hl : l.stackTraces = false) (hI : Inv i N) (hon : N 72 10 = 1) (h3 : N 80 3 + 1 ≤ 100 * i) (h4 : N 80 4 + 1 ≤ 100 * i) (hi : i ≤ 1000) (r : JnR M N) (hq : ∀ M', JnR M' (colW N 0) → (∀ o k, o < 72 ∨ (o = 72 ∧ k = 0) ∨ o = 78 → M' o k = M o k) → QV M') : OkV B l md_X13_endMarking 0 0 [.ref (ad B 72)] X M QV NoX := by
  obtain ⟨r1, r2, r3⟩ := r
  have s80 := r3 80 (Or.inl rfl)
  have s97 := r3 97 (Or.inr (Or.inl rfl))
  have s114 := r3 114 (Or.inr (Or.inr rfl))
  refine ok_X13_endMarking hl (fun G h => go_X13_endMarking_0 h ⟨Or.inl rfl, fun M1 e1 => ?_⟩)
  have k1 : ∀ o k, ¬ (o = 72 ∧ k = 10) → M1 o k = M o k := fun o k hne => by rw [e1]; unfold up; rw [if_neg hne]
  have a1 : AgH 80 M1 N := agh_same (M := M) (fun d k h1 h2 => k1 _ _ (by omega)) (fun o k h1 => k1 _ _ (by omega)) r1
  · refine ms_collect (w := 0) (N := N) (i := i) rfl (Or.inl rfl) (by decide) (Ct_fl h) hI ⟨by decide, fun _ => hon, fun e => absurd rfl e⟩ h3 h4 hi a1 (fun _ o k hh => (k1 o k (by omega)).trans (r2 o k (by omega))) (by rw [k1 _ _ (by omega)]; exact s80.1) (by rw [k1 _ _ (by omega)]; exact s80.2) (by rw [k1 _ _ (by omega)]; exact s97.1) (by rw [k1 _ _ (by omega)]; exact s97.2) (fun M' a f b1 b2 b3 z => hq M' ⟨a, fun o k hh => ?_, fun o ho => ?_⟩ (fun o k hh => (f o k (by omega) (by omega) (by omega) (by omega)).trans (k1 o k (by omega))))
    · rw [f o k (by omega) (by omega) (by omega) (by omega)]
      by_cases h10 : o = 72 ∧ k = 10
      · obtain ⟨rfl, rfl⟩ := h10
        rw [colW_on, if_pos rfl, e1, up_s]
      · rw [k1 o k h10, r2 o k hh]
        exact (colW_k (by omega)).symm
    · rcases ho with rfl | rfl | rfl
      · exact ⟨b1, b2⟩
      · exact ⟨b3, by rw [f 97 26 (by omega) (by omega) (by decide) (by decide), k1 _ _ (by omega)]; exact s97.2⟩
      · rw [f 114 25 (by omega) (by omega) (by decide) (by decide), f 114 26 (by omega) (by omega) (by decide) (by decide), k1 _ _ (by omega), k1 _ _ (by omega)]
        exact s114
theorem ms_roomF (hl : l.stackTraces = false) (hI : RmI j 4 N) (hj : j ≤ 1000) (r : JnR M N) (hx : 0 ≤ x ∧ x ≤ 1000000) (hq : ∀ M', JnR M' (rmN N x) → (∀ o k, o < 72 ∨ (o = 72 ∧ k = 0) ∨ o = 78 → M' o k = M o k) → (RoomN (rmN N x) x → Q 1 M') ∧ (¬ RoomN (rmN N x) x → Q 0 M')) : OkI B l md_X13_room 0 0 [.ref (ad B 72), .int (I x)] X M Q NoX := by
  have i0 := rm0_inv (x := x) hI (by decide)
  have i1 := rs_inv (w := 1) i0.1 (by decide) i0.2 (by decide)
  have i2 := rs_inv (w := 2) i1.1 (by decide) i1.2 (by decide)
  have i3 := rs_inv (w := 3) i2.1 (by decide) i2.2 (by decide)
  have done : ∀ V : Mem, RoomN V x → V = rmN N x → ∀ M1, JnR M1 V → (∀ o k, o < 72 ∨ (o = 72 ∧ k = 0) ∨ o = 78 → M1 o k = M o k) → Q 1 M1 := fun V hV e M1 a g => by
    subst e
    exact (hq M1 a g).1 hV
  refine ok_X13_room hl (fun G h => ?_)
  have s4 : ∀ M1, ¬ RoomN (rmN N x) x → JnR M1 (rmN N x) → (∀ o k, o < 72 ∨ (o = 72 ∧ k = 0) ∨ o = 78 → M1 o k = M o k) → L_X13_room_33 G X x 3 M1 := fun M1 hr a g =>
    go_X13_room_33 h ⟨⟨by decide, by decide⟩, ⟨by decide, by decide⟩, fun _ => ⟨Or.inl rfl, (hq M1 a g).2 hr⟩, fun hle => absurd hle (by decide)⟩
  have step : ∀ (wy : Int) (V : Mem) (c : Int), 1 ≤ wy ∧ wy ≤ 3 → RmI j c V → 1 ≤ c → RmO V x → RmI j (c - 1) (colW V wy) → (RoomN (rsN V x wy) x → rsN V x wy = rmN N x) → (∀ M1, ¬ RoomN (rsN V x wy) x → JnR M1 (rsN V x wy) → (∀ o k, o < 72 ∨ (o = 72 ∧ k = 0) ∨ o = 78 → M1 o k = M o k) → L_X13_room_33 G X x (wy - 1 + 1) M1) → ∀ M1, ¬ RoomN V x → JnR M1 V → (∀ o k, o < 72 ∨ (o = 72 ∧ k = 0) ∨ o = 78 → M1 o k = M o k) → L_X13_room_33 G X x (wy - 1) M1 := by
    intro wy V c hwy hV hc hVo hVc hend nx M1 hr a g
    have es : rsN V x wy = colW V wy := rs_f hr
    refine go_X13_room_33 h ⟨⟨by omega, by omega⟩, ⟨by decide, by decide⟩, fun hgt => absurd hgt (by omega), fun _ => ms_collJF (i := j) (N := V) (w := wy) (by unfold howW; rw [if_neg (by omega)]) (by omega) (Ct_fl h) hV.1 ⟨by omega, fun e => by omega, fun _ => hVo.resolve_left hr⟩ (by have := hV.2.1; omega) (by have := hV.2.2; omega) hj a (fun M2 a2 g2 _ => ?_)⟩
    refine ms_isRoom (Ct_fl h) hVc.1 a2.1 hx (fun hr2 z => ⟨z, fun h0 => absurd h0 (by decide), fun _ => ⟨Or.inr rfl, done (colW V wy) hr2 ?_ M2 a2 (fun o k hk => (g2 o k hk).trans (g o k hk))⟩⟩) (fun hr2 z => ⟨z, fun _ => nx M2 ?_ ?_ (fun o k hk => (g2 o k hk).trans (g o k hk)), fun h0 => absurd rfl h0⟩)
    · rw [← es]
      exact hend (by rw [es]; exact hr2)
    · rw [es]; exact hr2
    · rw [es]; exact a2
  have col : ∀ (wy c : Int) (V : Mem), 1 ≤ wy ∧ wy ≤ 3 → RmI j c V → 1 ≤ c → RmO V x → ¬ RoomN V x → RmI j (c - 1) (colW V wy) := fun wy c V hwy hV hc hVo hr => rmi_col hV hc ⟨by omega, fun e => by omega, fun _ => hVo.resolve_left hr⟩
  have s3 : ∀ M1, ¬ RoomN (rsN (rsN (rmZ N x) x 1) x 2) x → JnR M1 (rsN (rsN (rmZ N x) x 1) x 2) → (∀ o k, o < 72 ∨ (o = 72 ∧ k = 0) ∨ o = 78 → M1 o k = M o k) → L_X13_room_33 G X x 2 M1 := fun M1 hr a g => step 3 _ 1 (by decide) i2.1 (by decide) i2.2 (col 3 1 _ (by decide) i2.1 (by decide) i2.2 hr) (fun _ => rfl) (fun M2 hr2 a2 g2 => s4 M2 hr2 a2 g2) M1 hr a g
  have s2 : ∀ M1, ¬ RoomN (rsN (rmZ N x) x 1) x → JnR M1 (rsN (rmZ N x) x 1) → (∀ o k, o < 72 ∨ (o = 72 ∧ k = 0) ∨ o = 78 → M1 o k = M o k) → L_X13_room_33 G X x 1 M1 := fun M1 hr a g => step 2 _ 2 (by decide) i1.1 (by decide) i1.2 (col 2 2 _ (by decide) i1.1 (by decide) i1.2 hr) (fun hr2 => by show _ = rsN _ x 3; rw [rs_t hr2]) (fun M2 hr2 a2 g2 => s3 M2 hr2 a2 g2) M1 hr a g
  have s1 : ∀ M1, ¬ RoomN (rmZ N x) x → JnR M1 (rmZ N x) → (∀ o k, o < 72 ∨ (o = 72 ∧ k = 0) ∨ o = 78 → M1 o k = M o k) → L_X13_room_33 G X x 0 M1 := fun M1 hr a g => step 1 _ 3 (by decide) i0.1 (by decide) i0.2 (col 1 3 _ (by decide) i0.1 (by decide) i0.2 hr) (fun hr2 => by show _ = rsN (rsN _ x 2) x 3; rw [rs_t hr2, rs_t hr2]) (fun M2 hr2 a2 g2 => s2 M2 hr2 a2 g2) M1 hr a g
  have hfl := hI.1.mk.1.2
  have e10 : M 72 10 = N 72 10 := r.2.1 72 10 (by omega)
  refine go_X13_room_0 h (ms_isRoom (Ct_fl h) hI.1 r.1 hx (fun hr z => ⟨z, fun h0 => absurd h0 (by decide), fun _ => ⟨Or.inr rfl, done N hr ?_ M r (fun _ _ _ => rfl)⟩⟩) (fun hr z => ⟨z, fun _ z2 => ⟨z2, fun hoff => ?_, fun hon => ?_⟩, fun h0 => absurd rfl h0⟩))
  · have e : rmZ N x = N := cnd_t (Or.inl hr)
    show N = rsN (rsN (rsN (rmZ N x) x 1) x 2) x 3
    rw [e, rs_t hr, rs_t hr, rs_t hr]
  · have e : rmZ N x = N := cnd_t (Or.inr (by omega))
    rw [e] at s1
    exact s1 M hr r (fun _ _ _ => rfl)
  · have h1 : N 72 10 = 1 := by omega
    have e : rmZ N x = colW N 0 := cnd_f (fun z => z.elim hr (fun z => z h1))
    have i0' := i0
    rw [e] at i0'
    refine ms_endMF (Ct_fl h) hI.1 h1 (by have := hI.2.1; omega) (by have := hI.2.2; omega) hj r (fun M2 a2 g2 => ms_isRoom (Ct_fl h) i0'.1.1 a2.1 hx (fun hr2 z => ⟨z, fun h0 => absurd h0 (by decide), fun _ => ⟨Or.inr rfl, done (colW N 0) hr2 ?_ M2 a2 g2⟩⟩) (fun hr2 z => ⟨z, fun _ => s1 M2 (by rw [e]; exact hr2) (by rw [e]; exact a2) g2, fun h0 => absurd rfl h0⟩))
    show _ = rsN (rsN (rsN (rmZ N x) x 1) x 2) x 3
    rw [e, rs_t hr2, rs_t hr2, rs_t hr2]
end RoomR
