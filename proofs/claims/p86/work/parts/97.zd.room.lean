/-! ===== room ===== -/
def RoomN (N : Mem) (x : Int) : Prop := if x ≤ 32 then N 6 18 + x ≤ 96 else N 6 19 + x ≤ 320
/-- one way is taken, if there is no room yet -/
noncomputable def rsN (N : Mem) (x w : Int) : Mem := cnd (RoomN N x) N (colW N w)
noncomputable def rmZ (N : Mem) (x : Int) : Mem := cnd (RoomN N x ∨ N 72 10 ≠ 1) N (colW N 0)
noncomputable def rmN (N : Mem) (x : Int) : Mem := rsN (rsN (rsN (rmZ N x) x 1) x 2) x 3
section Room2
variable {B : WB} {l : Launch} {X : va_W} {i j : Nat} {M M' M1 N : Mem} {Q : Int → Mem → Prop} {QV : Mem → Prop} {w x : Int}
/-- a view that c more collections may follow -/
def RmI (j : Nat) (c : Int) (N : Mem) : Prop := Inv j N ∧ N 80 3 + c ≤ 100 * j ∧ N 80 4 + c ≤ 100 * j
theorem rs_t (h : RoomN N x) : rsN N x w = N := cnd_t h
theorem rs_f (h : ¬ RoomN N x) : rsN N x w = colW N w := cnd_f h
theorem rmi_col {c : Int} (h : RmI j c N) (hc : 1 ≤ c) (hw : WayOk N w) : RmI j (c - 1) (colW N w) := by
  obtain ⟨h1, h2, h3⟩ := h
  have h4 := colW_ct (N := N) (w := w)
  exact ⟨inv_colW h1 hw (by omega) (by omega), by omega, by omega⟩
theorem rmi_le {c d : Int} (h : RmI j c N) (hd : d ≤ c) : RmI j d N := ⟨h.1, by have := h.2.1; omega, by have := h.2.2; omega⟩
/-- a view in which either there is room, or marking is off -/
def RmO (N : Mem) (x : Int) : Prop := RoomN N x ∨ N 72 10 = 0
theorem rs_inv {c : Int} (h : RmI j c N) (hc : 1 ≤ c) (ho : RmO N x) (hw : 1 ≤ w ∧ w ≤ 3) : RmI j (c - 1) (rsN N x w) ∧ RmO (rsN N x w) x := by
  by_cases hr : RoomN N x
  · rw [rs_t hr]
    exact ⟨rmi_le h (by omega), ho⟩
  · have off := ho.resolve_left hr
    rw [rs_f hr]
    refine ⟨rmi_col h hc ⟨by omega, fun e => by omega, fun _ => off⟩, Or.inr ?_⟩
    rw [colW_on, if_neg (by omega)]
    exact off
theorem rm0_inv {c : Int} (h : RmI j c N) (hc : 1 ≤ c) : RmI j (c - 1) (rmZ N x) ∧ RmO (rmZ N x) x := by
  have hfl := h.1.mk.1.2
  by_cases hr : RoomN N x ∨ N 72 10 ≠ 1
  · have e : rmZ N x = N := cnd_t hr
    rw [e]
    exact ⟨rmi_le h (by omega), hr.elim Or.inl (fun z => Or.inr (by omega))⟩
  · have e : rmZ N x = colW N 0 := cnd_f hr
    have hon : N 72 10 = 1 := Classical.byContradiction (fun z => hr (Or.inr z))
    rw [e]
    exact ⟨rmi_col h hc ⟨by omega, fun _ => hon, fun e => absurd rfl e⟩, Or.inr (by rw [colW_on, if_pos rfl])⟩
theorem rm_inv (h : RmI j 4 N) : RmI j 0 (rmN N x) ∧ RmO (rmN N x) x := by
  have h0 := rm0_inv (x := x) h (by decide)
  have h1 := rs_inv (w := 1) h0.1 (by decide) h0.2 (by decide)
  have h2 := rs_inv (w := 2) h1.1 (by decide) h1.2 (by decide)
  have h3 := rs_inv (w := 3) h2.1 (by decide) h2.2 (by decide)
  exact h3
/-- what no collection touches -/
theorem rm_k {o k : Nat} (hk : o < 6 ∨ (20 ≤ o ∧ o ≤ 24) ∨ (40 ≤ o ∧ o ≤ 79 ∧ ¬ (o = 72 ∧ k = 10)) ∨ o = 88 ∨ o = 89 ∨ 92 ≤ o ∨ (o = 80 ∧ (k = 2 ∨ k = 5 ∨ k = 6)) ∨ (o = 6 ∧ k = 17)) : rmN N x o k = N o k := by
  have hs : ∀ (V : Mem) (w : Int), rsN V x w o k = V o k := by
    intro V w
    unfold rsN
    by_cases hr : RoomN V x
    · rw [cnd_t hr]
    · rw [cnd_f hr]
      exact colW_k (by omega)
  unfold rmN
  rw [hs, hs, hs]
  unfold rmZ
  by_cases hr : RoomN N x ∨ N 72 10 ≠ 1
  · rw [cnd_t hr]
  · rw [cnd_f hr]
    exact colW_k (by omega)
theorem ws_nnZ (hI : Inv i N) : 0 ≤ N 6 18 ∧ N 6 18 ≤ 96 ∧ 0 ≤ N 6 19 ∧ N 6 19 ≤ 320 := by
  have b9 := hI.ob.2.2.2.2.2.2.2.2.1
  have b10 := hI.ob.2.2.2.2.2.2.2.2.2
  have hnn : ∀ b : Bool, 0 ≤ wsR N b (N 80 0).toNat := by
    intro b
    have h1 := ws_mono hI b (N 80 0).toNat 0 (by have := hI.ob.1; omega)
    rw [Nat.zero_add] at h1
    exact h1
  have n1 := hnn false
  have n2 := hnn true
  rw [← b9.1] at n1
  rw [← b10.1] at n2
  exact ⟨n1, b9.2, n2, b10.2⟩
theorem cs_isRoomFor (hl : l.stackTraces = false) (hI : Inv i N) (hN : AgC M N) (hx : 0 ≤ x ∧ x ≤ 1000000) (h1 : RoomN N x → Q 1 M) (h0 : ¬ RoomN N x → Q 0 M) : OkI B l md_X1_isRoomFor 0 0 [.ref (ad B 39), .int (I x)] X M Q NoX := by
  have e18 : M 6 18 = N 6 18 := hN 6 18 rfl
  have e19 : M 6 19 = N 6 19 := hN 6 19 rfl
  have hb := ws_nnZ hI
  unfold RoomN at h1 h0
  refine ok_X1_isRoomFor hl (fun G h => go_X1_isRoomFor_0 h ⟨⟨by omega, by omega⟩, ⟨by decide, by decide⟩, fun hgt => ?_, fun hle => ?_⟩)
  · rw [if_neg (by omega)] at h1 h0
    rw [e19]
    exact fun _ => ⟨⟨by omega, by omega⟩, ⟨by decide, by decide⟩, fun hg => ⟨Or.inl rfl, h0 (by omega)⟩, fun hl2 => ⟨Or.inr rfl, h1 (by omega)⟩⟩
  · rw [if_pos hle] at h1 h0
    rw [e18]
    exact fun _ => ⟨⟨by omega, by omega⟩, ⟨by decide, by decide⟩, fun hg => ⟨Or.inl rfl, h0 (by omega)⟩, fun hl2 => ⟨Or.inr rfl, h1 (by omega)⟩⟩
theorem cs_findRoom (hl : l.stackTraces = false) (hI : RmI j 4 N) (hj : j ≤ 1000) (hN : AgC M N) (hsc : IvSc M) (hx : 0 ≤ x ∧ x ≤ 1000000) (hq : ∀ M', AgC M' (rmN N x) → IvSc M' → (∀ o k, 72 ≤ o → M' o k = M o k) → (RoomN (rmN N x) x → Q 1 M') ∧ (¬ RoomN (rmN N x) x → Q 0 M')) : OkI B l md_X1_findRoom 0 0 [.ref (ad B 39), .int (I x)] X M Q NoX := by
  have hxr : inR x := ⟨by omega, by omega⟩
  have i0 := rm0_inv (x := x) hI (by decide)
  have i1 := rs_inv (w := 1) i0.1 (by decide) i0.2 (by decide)
  have i2 := rs_inv (w := 2) i1.1 (by decide) i1.2 (by decide)
  have i3 := rs_inv (w := 3) i2.1 (by decide) i2.2 (by decide)
  refine ok_X1_findRoom hl (fun G h => go_X1_findRoom_0 h ?_)
  -- where there is room, the rest does nothing
  have done : ∀ V : Mem, RoomN V x → V = rmN N x → ∀ M1, AgC M1 V → IvSc M1 → (∀ o k, 72 ≤ o → M1 o k = M o k) → Q 1 M1 := fun V hV e M1 a s g => by
    subst e
    exact (hq M1 a s g).1 hV
  have s4 : ∀ M1, AgC M1 (rmN N x) → IvSc M1 → (∀ o k, 72 ≤ o → M1 o k = M o k) → L_X1_findRoom_2 G X x 4 M1 := fun M1 a s g =>
    go_X1_findRoom_2 h ⟨⟨by decide, by decide⟩, ⟨by decide, by decide⟩, fun _ => cs_isRoomFor (Ct_fl h) i3.1.1 a hx (fun hr _ => ⟨Or.inr rfl, (hq M1 a s g).1 hr⟩) (fun hr _ => ⟨Or.inl rfl, (hq M1 a s g).2 hr⟩), fun hle => absurd hle (by decide)⟩
  have step : ∀ (wy : Int) (V : Mem) (c : Int), 1 ≤ wy ∧ wy ≤ 3 → RmI j c V → 1 ≤ c → RmO V x → (RoomN V x → V = rmN N x) → (∀ M1, AgC M1 (rsN V x wy) → IvSc M1 → (∀ o k, 72 ≤ o → M1 o k = M o k) → L_X1_findRoom_2 G X x (wy + 1) M1) → ∀ M1, AgC M1 V → IvSc M1 → (∀ o k, 72 ≤ o → M1 o k = M o k) → L_X1_findRoom_2 G X x wy M1 := by
    intro wy V c hwy hV hc hVo hend nx M1 a s g
    refine go_X1_findRoom_2 h ⟨⟨by omega, by omega⟩, ⟨by decide, by decide⟩, fun hgt => absurd hgt (by omega), fun _ => cs_isRoomFor (Ct_fl h) hV.1 a hx (fun hr z => ⟨z, fun h0 => absurd h0 (by decide), fun _ => ⟨Or.inr rfl, done V hr (hend hr) M1 a s g⟩⟩) (fun hr z => ⟨z, fun _ => ⟨⟨by omega, by omega⟩, fun _ => ?_, fun h0 => by omega⟩, fun h0 => absurd rfl h0⟩)⟩
    refine cs_collect (i := j) (N := V) (w := wy) (Ct_fl h) hV.1 ⟨by omega, fun e => by omega, fun _ => hVo.resolve_left hr⟩ (by have := hV.2.1; omega) (by have := hV.2.2; omega) hj a s (fun M2 a2 s2 g2 _ => nx M2 ?_ s2 (fun o k hk => (g2 o k hk).trans (g o k hk)))
    rw [rs_f hr]
    exact a2
  have s3 := step 3 (rsN (rsN (rmZ N x) x 1) x 2) 1 (by decide) i2.1 (by decide) i2.2 (fun hr => by show _ = rsN _ x 3; rw [rs_t hr]) s4
  have s2 := step 2 (rsN (rmZ N x) x 1) 2 (by decide) i1.1 (by decide) i1.2 (fun hr => by show _ = rsN (rsN _ x 2) x 3; rw [rs_t hr, rs_t hr]) s3
  have s1 := step 1 (rmZ N x) 3 (by decide) i0.1 (by decide) i0.2 (fun hr => by show _ = rsN (rsN (rsN _ x 1) x 2) x 3; rw [rs_t hr, rs_t hr, rs_t hr]) s2
  have hfl := hI.1.mk.1
  have e31 : M 31 6 = N 72 10 := (hN 31 6 rfl).trans hfl.1
  refine go_X1_findRoom_2 h ⟨inR0, ⟨by decide, by decide⟩, fun hgt => absurd hgt (by decide), fun _ => cs_isRoomFor (Ct_fl h) hI.1 hN hx (fun hr z => ⟨z, fun h0 => absurd h0 (by decide), fun _ => ⟨Or.inr rfl, done N hr ?_ M hN hsc (fun _ _ _ => rfl)⟩⟩) (fun hr z => ⟨z, fun _ => ⟨inR0, fun h0 => absurd rfl h0, fun _ z2 => ⟨z2, fun hoff => ?_, fun hon => ?_⟩⟩, fun h0 => absurd rfl h0⟩)⟩
  · have e : rmZ N x = N := cnd_t (Or.inl hr)
    show N = rsN (rsN (rsN (rmZ N x) x 1) x 2) x 3
    rw [e, rs_t hr, rs_t hr, rs_t hr]
  · have e : rmZ N x = N := cnd_t (Or.inr (by omega))
    rw [e] at s1
    exact s1 M hN hsc (fun _ _ _ => rfl)
  · have h1 : N 72 10 = 1 := by omega
    have e : rmZ N x = colW N 0 := cnd_f (fun z => z.elim hr (fun z => z h1))
    refine cs_collect (i := j) (N := N) (w := 0) (Ct_fl h) hI.1 ⟨by decide, fun _ => h1, fun e => absurd rfl e⟩ (by have := hI.2.1; omega) (by have := hI.2.2; omega) hj hN hsc (fun M2 a2 s2 g2 _ => s1 M2 ?_ s2 g2)
    rw [e]
    exact a2
end Room2
