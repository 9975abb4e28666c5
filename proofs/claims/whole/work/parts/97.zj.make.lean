/-! ===== the objects that a slot is to hold: PLAIN, ROW, TEXT, TABLE ===== -/
def MkOut (M : Mem) (a fm ofw : Int) (M1 : Mem) (r : Int) : Prop :=
  (RoomN (rmN M (nwW M fm ofw)) (nwW M fm ofw) ∧ r = rmN M (nwW M fm ofw) 80 2 ∧ (∃ g, AgC M1 (up (nwF (rmN M (nwW M fm ofw)) fm ofw (mkO (nwW M fm ofw)) 0 g (-1) (-1)) 22 (sx M a) (rmN M (nwW M fm ofw) 19 (rmN M (nwW M fm ofw) 80 0).toNat))) ∧ IvSc M1 ∧ Bas M1 M) ∨
  (¬ RoomN (rmN M (nwW M fm ofw)) (nwW M fm ofw) ∧ r = -1 ∧ AgC M1 (rmN M (nwW M fm ofw)) ∧ IvSc M1 ∧ Bas M1 M)
section MakeA
variable {B : WB} {l : Launch} {X : va_W} {i j qo : Nat} {M M' M1 M2 N : Mem} {Q : Int → Mem → Prop} {QV : Mem → Prop} {fm ofw a b kd len r t : Int}
theorem cs_has1 {x : Int} (hl : l.stackTraces = false) (ha : inR x) (h : 0 ≤ x ∧ x < M 1 4) (hq : Q 1 M) : OkI B l md_X4_has 0 0 [.ref (ad B 1), .int (I x)] X M Q NoX := cs_has hl ha (by rw [if_pos h]; exact hq)
theorem cs_has0 {x : Int} (hl : l.stackTraces = false) (ha : inR x) (h : ¬ (0 ≤ x ∧ x < M 1 4)) (hq : Q 0 M) : OkI B l md_X4_has 0 0 [.ref (ad B 1), .int (I x)] X M Q NoX := cs_has hl ha (by rw [if_neg h]; exact hq)
theorem ms_kind1 {x : Int} (hl : l.stackTraces = false) (ha : inR x) (hb : 0 ≤ M 72 1 ∧ M 72 1 ≤ 12) (h : 0 ≤ x ∧ x < M 72 1) (hq : Q 1 M) : OkI B l md_X13_isKind 0 0 [.ref (ad B 72), .int (I x)] X M Q NoX := ms_isKind hl ha hb (by rw [if_pos h]; exact hq)
theorem ms_kind0 {x : Int} (hl : l.stackTraces = false) (ha : inR x) (hb : 0 ≤ M 72 1 ∧ M 72 1 ≤ 12) (h : ¬ (0 ≤ x ∧ x < M 72 1)) (hq : Q 0 M) : OkI B l md_X13_isKind 0 0 [.ref (ad B 72), .int (I x)] X M Q NoX := ms_isKind hl ha hb (by rw [if_neg h]; exact hq)
theorem bas_jn (hI : Inv i M) (b : Bas M1 M) {v : Int} : JnR (up M1 72 0 v) M := jnr_c (fun o k h1 h2 => by rw [up_ne h2]; exact b.1 o k h1) (jnr_self hI)
theorem cs_mkA (hl : l.stackTraces = false) (hI : Inv i M) (hi : i ≤ 600) (hg : 0 ≤ a ∧ a < wd M) (hf : FmOk M fm ofw) (hkd : kd = nwK fm ofw) (hlen : len = nwL M fm ofw) (hq : ∀ r M', MkOut M a fm ofw M' r → inR r → Q r M') : OkI B l md_X11_makeInto 0 0 [.ref (ad B 0), .int (I a), .int (I fm), .int (I kd), .int (I len)] X M (fun r22 M3 => inR r22 → OkI B l md_X10_nameOf 0 0 [.ref (ad B 6), .int (I r22)] X M3 (fun r25 M4 => inR r25 → (inR r25 ∧ Q r25 M4)) NoX) NoX := by
  refine cs_makeInto hl hI hi hg hf hkd hlen (fun N c M1 eN hr ec hc a1 s1 b1 z => ?_) (fun M1 hn a1 s1 b1 z => ?_)
  · subst eN
    refine cs_nameOf2 (n := rmN M (nwW M fm ofw) 80 2) hl ⟨by omega, hc.2⟩ (fun e => absurd e (by omega)) (fun _ => ?_) (fun z1 => ⟨z1, hq _ _ (Or.inl ⟨hr, rfl, ⟨_, by rw [← ec]; exact a1⟩, s1, b1⟩) z1⟩)
    rw [a1 7 _ (rc_of (by omega)), up_ne (by omega), nwf_e (by omega), ec, nw_c (by decide), if_pos rfl]
  · exact cs_nameOf2 (n := -1) hl ⟨by decide, by decide⟩ (fun _ => rfl) (fun h => absurd rfl h) (fun z1 => ⟨z1, hq _ _ (Or.inr ⟨hn, rfl, a1, s1, b1⟩) z1⟩)
theorem ms_mkA (hl : l.stackTraces = false) (hI : Inv i M) (hi : i ≤ 600) (hg : 0 ≤ a ∧ a < wd M) (hf : FmOk M fm ofw) (h3 : ¬ (3 ≤ fm ∧ fm ≤ 5)) (ho : MkOut M a fm ofw M1 r) (hq : ∀ M2, Inv (i + 1) M2 → M2 72 0 = 0 → inR r → Q r M2) : OkI B l md_X13_make 0 0 [.ref (ad B 72), .int (I a), .int (I fm), .int (I ofw), .int (I 0)] X (up M1 72 0 0) (fun r31 M5 => inR r31 → (inR r31 ∧ Q r31 M5)) NoX := by
  have b1 : Bas M1 M := ho.elim (fun z => z.2.2.2.2) (fun z => z.2.2.2.2)
  have hf0 : Fs M1 := bas_fs b1 hI.fr.fs
  have hf1 : Fs (up M1 72 0 0) := hf0
  have em : (0 : Int) = 8 * (if 3 ≤ fm ∧ fm ≤ 5 then 0 else 0) := by rw [if_neg h3]; rfl
  have ff : ∀ {M2 : Mem}, (∀ o k : Nat, o < 72 ∨ (o = 72 ∧ k = 0) → M2 o k = (up M1 72 0 0) o k) → ∀ o k : Nat, o < 72 → M2 o k = M1 o k := fun f2 o k h => (f2 o k (Or.inl h)).trans (up_ne (by omega))
  rcases ho with ⟨hr, er, ⟨g, a1⟩, s1, -⟩ | ⟨hn, er, a1, s1, -⟩
  · refine ms_makeR (q := 0) hl hI hi hg hf hf1 (bas_jn hI b1) (Or.inl rfl) em (fun N2 M2 eN2 hr2 r2 f2 z7 => ?_) (fun M2 hn2 _ _ => absurd hr hn2)
    subst eN2
    rw [← er] at z7 ⊢
    refine ⟨z7, hq M2 ?_ ((f2 72 0 (Or.inr ⟨rfl, rfl⟩)).trans (up_s _ _ _ _)) z7⟩
    rw [nwF_q (q := 0) h3] at a1
    exact made_fin hI hg hf rfl hr (Or.inl rfl) (Or.inl ⟨rfl, rfl⟩) (Or.inl ⟨rfl, rfl⟩) (gn_none (rm_inv (x := nwW M fm ofw) (rmi_start hI)).1.1) a1 s1 r2 (ff f2)
  · refine ms_makeR (q := 0) hl hI hi hg hf hf1 (bas_jn hI b1) (Or.inl rfl) em (fun N2 M2 eN2 hr2 r2 f2 z7 => absurd (eN2 ▸ hr2) hn) (fun M2 hn2 r2 f2 z7 => ?_)
    rw [← er] at z7 ⊢
    exact ⟨z7, hq M2 (room_fin hI a1 s1 r2 (ff f2)) ((f2 72 0 (Or.inr ⟨rfl, rfl⟩)).trans (up_s _ _ _ _)) z7⟩
theorem pr_newObject (hl : l.stackTraces = false) (ra : inR a) (rb : inR b) (hM : MOK M) (hi : i < 513) (hI : Inv i M) : PrI B l i M qo md_L_newObject hh_L_newObject md_X13_newObject [.int (I a), .int (I b)] := by
  intro f Qw H
  have hf := hI.fr.fs
  have r2 : inR 2 := ⟨by decide, by decide⟩
  have hk := hI.kd
  have hk1 := hk.1
  refine ok_L_newObject hl (fun G q1 q2 => ?_)
  unfold T_L_newObject
  rw [q1, q2]
  by_cases hg : 0 ≤ a ∧ a < wd M
  · by_cases hb : 0 ≤ b ∧ b < M 72 1
    · have hfm : FmOk M 0 b := ⟨by omega, fun h => by omega, fun h => by omega, fun h => by omega, fun h _ => by omega, fun h => by omega⟩
      have hb12 : 0 ≤ b ∧ b < 12 := ⟨hb.1, by have := hk.2.1; omega⟩
      refine Or.inl (ok_X11_newObject hl (fun G h1 => go_X11_newObject_0 h1 (Or.inl (cs_needSlot_ok (Ct_fl h1) ra hf hg (cs_has1 (Ct_fl h1) rb (by rw [hk1]; exact hb) (fun z => ⟨z, fun _ => ⟨hb12, fun _ => cs_mkA (Ct_fl h1) hI (by omega) hg hfm (by unfold nwK; rw [if_pos rfl]) (by unfold nwL; rw [if_pos rfl]; exact (hk.2.2 b.toNat (by omega)).1.2.1) (fun r M1 ho zr z5 f1 e9 => ⟨inR0, ?_⟩)⟩, n10⟩))))))
      subst e9
      have b1 : Bas M1 M := ho.elim (fun z => z.2.2.2.2) (fun z => z.2.2.2.2)
      have hf1 := bas_fs b1 hf
      have hg1 : 0 ≤ a ∧ a < wd M1 := by rw [bas_wd b1]; exact hg
      exact H 0 _ _ inR0 (fun Qm hm => ok_X13_newObject hl (fun G h2 => go_X13_newObject_0 h2 (ms_isSlot1 (Ct_fl h2) ra hf1 hg1 (fun z3 => ms_known1 (Ct_fl h2) (fun z4 => ⟨z4, n10, fun _ => ms_kind1 (Ct_fl h2) rb (by rw [show (up M1 72 0 0) 72 1 = M 72 1 from b1.1 72 1 (by decide)]; exact hk.2.1) (by rw [show (up M1 72 0 0) 72 1 = M 72 1 from b1.1 72 1 (by decide)]; exact hb) (fun z5 => ms_fit1 (Ct_fl h2) (fun z6 => ⟨z6, n10, fun _ => ms_mkA (Ct_fl h2) hI (by omega) hg hfm (by omega) ho (fun M2 hI2 t2 z8 => hm _ _ z8 hI2 t2 (fun _ => by rw [updL0]))⟩))⟩)))))
    · refine Or.inr (ok_X11_newObject hl (fun G h1 => go_X11_newObject_0 h1 (Or.inl (cs_needSlot_ok (Ct_fl h1) ra hf hg (cs_has0 (Ct_fl h1) rb (by rw [hk1]; exact hb) (fun z => ⟨z, n00, fun _ => ⟨⟨by omega, by omega⟩, Or.inr ⟨rfl, r2, ?_⟩⟩⟩))))))
      refine H 2 _ _ r2 (fun Qm hm => ok_X13_newObject hl (fun G h2 => go_X13_newObject_0 h2 (ms_isSlot1 (Ct_fl h2) ra hf hg (fun z3 => ms_known1 (Ct_fl h2) (fun z4 => ⟨z4, n10, fun _ => ms_kind0 (Ct_fl h2) rb (show 0 ≤ (up M 72 0 0) 72 1 ∧ (up M 72 0 0) 72 1 ≤ 12 from hk.2.1) (show ¬ (0 ≤ b ∧ b < (up M 72 0 0) 72 1) from hb) (fun z5 => ms_fit0 (Ct_fl h2) (fun z6 => ⟨z6, fun _ => ⟨inR0, ?_⟩, n00⟩))⟩)))))
      exact hm _ _ inR0 (inv_keep i _ (inv_thr0 (inv_thr0 hI))) rfl (fun h => absurd h (by decide))
  · refine Or.inr (ok_X11_newObject hl (fun G h1 => go_X11_newObject_0 h1 (Or.inr ⟨⟨by omega, by omega⟩, cs_needSlot_bad (Ct_fl h1) ra hf hg (Or.inl ⟨rfl, inR1, ?_⟩)⟩)))
    refine H 1 _ _ inR1 (fun Qm hm => ok_X13_newObject hl (fun G h2 => go_X13_newObject_0 h2 (ms_isSlot0 (Ct_fl h2) ra hf hg (fun z3 => ms_known0 (Ct_fl h2) (fun z4 => ⟨z4, fun _ => ⟨inR0, ?_⟩, n00⟩)))))
    exact hm _ _ inR0 (inv_thr hI) rfl (fun h => absurd h (by decide))
theorem pr_newRow (hl : l.stackTraces = false) (ra : inR a) (rb : inR b) (hM : MOK M) (hi : i < 513) (hI : Inv i M) : PrI B l i M qo md_L_newRow hh_L_newRow md_X13_newRow [.int (I a), .int (I b)] := by
  intro f Qw H
  have hf := hI.fr.fs
  have r2 : inR 2 := ⟨by decide, by decide⟩
  have rlo : inR 0 := ⟨by decide, by decide⟩
  have rhi : inR 40 := ⟨by decide, by decide⟩
  refine ok_L_newRow hl (fun G q1 q2 => ?_)
  unfold T_L_newRow
  rw [q1, q2]
  by_cases hg : 0 ≤ a ∧ a < wd M
  · by_cases hb : 0 ≤ b ∧ b ≤ 40
    · have hfm : FmOk M 1 b := ⟨by omega, fun h => by omega, fun h => by omega, fun h => by omega, fun h _ => by omega, fun h => by omega⟩
      refine Or.inl (ok_X11_newRow hl (fun G h1 => go_X11_newRow_0 h1 (Or.inl (cs_needSlot_ok (Ct_fl h1) ra hf hg (Or.inl (cs_needBetween_ok (Ct_fl h1) rb rlo rhi hb (cs_mkA (Ct_fl h1) hI (by omega) hg hfm (by unfold nwK; rw [if_neg (by decide)]) (by unfold nwL; rw [if_neg (by decide)]) (fun r M1 ho zr z5 f1 e9 => ⟨inR0, ?_⟩))))))))
      subst e9
      have b1 : Bas M1 M := ho.elim (fun z => z.2.2.2.2) (fun z => z.2.2.2.2)
      have hf1 := bas_fs b1 hf
      have hg1 : 0 ≤ a ∧ a < wd M1 := by rw [bas_wd b1]; exact hg
      exact H 0 _ _ inR0 (fun Qm hm => ok_X13_newRow hl (fun G h2 => go_X13_newRow_0 h2 (ms_isSlot1 (Ct_fl h2) ra hf1 hg1 (fun z3 => ms_known1 (Ct_fl h2) (fun z4 => ⟨z4, n10, fun _ => ms_isIn1 (Ct_fl h2) rb rlo rhi hb (fun z5 => ms_fit1 (Ct_fl h2) (fun z6 => ⟨z6, n10, fun _ => ms_mkA (Ct_fl h2) hI (by omega) hg hfm (by omega) ho (fun M2 hI2 t2 z8 => hm _ _ z8 hI2 t2 (fun _ => by rw [updL0]))⟩))⟩)))))
    · refine Or.inr (ok_X11_newRow hl (fun G h1 => go_X11_newRow_0 h1 (Or.inl (cs_needSlot_ok (Ct_fl h1) ra hf hg (Or.inr ⟨⟨by omega, by omega⟩, cs_needBetween_bad (Ct_fl h1) rb rlo rhi hb (Or.inr ⟨rfl, r2, ?_⟩)⟩)))))
      refine H 2 _ _ r2 (fun Qm hm => ok_X13_newRow hl (fun G h2 => go_X13_newRow_0 h2 (ms_isSlot1 (Ct_fl h2) ra hf hg (fun z3 => ms_known1 (Ct_fl h2) (fun z4 => ⟨z4, n10, fun _ => ms_isIn0 (Ct_fl h2) rb rlo rhi hb (fun z5 => ms_fit0 (Ct_fl h2) (fun z6 => ⟨z6, fun _ => ⟨inR0, ?_⟩, n00⟩))⟩)))))
      exact hm _ _ inR0 (inv_keep i _ (inv_thr0 (inv_thr0 hI))) rfl (fun h => absurd h (by decide))
  · refine Or.inr (ok_X11_newRow hl (fun G h1 => go_X11_newRow_0 h1 (Or.inr ⟨⟨by omega, by omega⟩, cs_needSlot_bad (Ct_fl h1) ra hf hg (Or.inl ⟨rfl, inR1, ?_⟩)⟩)))
    refine H 1 _ _ inR1 (fun Qm hm => ok_X13_newRow hl (fun G h2 => go_X13_newRow_0 h2 (ms_isSlot0 (Ct_fl h2) ra hf hg (fun z3 => ms_known0 (Ct_fl h2) (fun z4 => ⟨z4, fun _ => ⟨inR0, ?_⟩, n00⟩)))))
    exact hm _ _ inR0 (inv_thr hI) rfl (fun h => absurd h (by decide))
theorem pr_newText (hl : l.stackTraces = false) (ra : inR a) (rb : inR b) (hM : MOK M) (hi : i < 513) (hI : Inv i M) : PrI B l i M qo md_L_newText hh_L_newText md_X13_newText [.int (I a), .int (I b)] := by
  intro f Qw H
  have hf := hI.fr.fs
  have r2 : inR 2 := ⟨by decide, by decide⟩
  have rlo : inR 0 := ⟨by decide, by decide⟩
  have rhi : inR 120 := ⟨by decide, by decide⟩
  refine ok_L_newText hl (fun G q1 q2 => ?_)
  unfold T_L_newText
  rw [q1, q2]
  by_cases hg : 0 ≤ a ∧ a < wd M
  · by_cases hb : 0 ≤ b ∧ b ≤ 120
    · have hfm : FmOk M 2 b := ⟨by omega, fun h => by omega, fun h => by omega, fun h => by omega, fun h _ => by omega, fun h => by omega⟩
      refine Or.inl (ok_X11_newText hl (fun G h1 => go_X11_newText_0 h1 (Or.inl (cs_needSlot_ok (Ct_fl h1) ra hf hg (Or.inl (cs_needBetween_ok (Ct_fl h1) rb rlo rhi hb (cs_mkA (Ct_fl h1) hI (by omega) hg hfm (by unfold nwK; rw [if_neg (by decide)]) (by unfold nwL; rw [if_neg (by decide)]) (fun r M1 ho zr z5 f1 e9 => ⟨inR0, ?_⟩))))))))
      subst e9
      have b1 : Bas M1 M := ho.elim (fun z => z.2.2.2.2) (fun z => z.2.2.2.2)
      have hf1 := bas_fs b1 hf
      have hg1 : 0 ≤ a ∧ a < wd M1 := by rw [bas_wd b1]; exact hg
      exact H 0 _ _ inR0 (fun Qm hm => ok_X13_newText hl (fun G h2 => go_X13_newText_0 h2 (ms_isSlot1 (Ct_fl h2) ra hf1 hg1 (fun z3 => ms_known1 (Ct_fl h2) (fun z4 => ⟨z4, n10, fun _ => ms_isIn1 (Ct_fl h2) rb rlo rhi hb (fun z5 => ms_fit1 (Ct_fl h2) (fun z6 => ⟨z6, n10, fun _ => ms_mkA (Ct_fl h2) hI (by omega) hg hfm (by omega) ho (fun M2 hI2 t2 z8 => hm _ _ z8 hI2 t2 (fun _ => by rw [updL0]))⟩))⟩)))))
    · refine Or.inr (ok_X11_newText hl (fun G h1 => go_X11_newText_0 h1 (Or.inl (cs_needSlot_ok (Ct_fl h1) ra hf hg (Or.inr ⟨⟨by omega, by omega⟩, cs_needBetween_bad (Ct_fl h1) rb rlo rhi hb (Or.inr ⟨rfl, r2, ?_⟩)⟩)))))
      refine H 2 _ _ r2 (fun Qm hm => ok_X13_newText hl (fun G h2 => go_X13_newText_0 h2 (ms_isSlot1 (Ct_fl h2) ra hf hg (fun z3 => ms_known1 (Ct_fl h2) (fun z4 => ⟨z4, n10, fun _ => ms_isIn0 (Ct_fl h2) rb rlo rhi hb (fun z5 => ms_fit0 (Ct_fl h2) (fun z6 => ⟨z6, fun _ => ⟨inR0, ?_⟩, n00⟩))⟩)))))
      exact hm _ _ inR0 (inv_keep i _ (inv_thr0 (inv_thr0 hI))) rfl (fun h => absurd h (by decide))
  · refine Or.inr (ok_X11_newText hl (fun G h1 => go_X11_newText_0 h1 (Or.inr ⟨⟨by omega, by omega⟩, cs_needSlot_bad (Ct_fl h1) ra hf hg (Or.inl ⟨rfl, inR1, ?_⟩)⟩)))
    refine H 1 _ _ inR1 (fun Qm hm => ok_X13_newText hl (fun G h2 => go_X13_newText_0 h2 (ms_isSlot0 (Ct_fl h2) ra hf hg (fun z3 => ms_known0 (Ct_fl h2) (fun z4 => ⟨z4, fun _ => ⟨inR0, ?_⟩, n00⟩)))))
    exact hm _ _ inR0 (inv_thr hI) rfl (fun h => absurd h (by decide))
theorem pr_newTable (hl : l.stackTraces = false) (ra : inR a) (rb : inR b) (hM : MOK M) (hi : i < 513) (hI : Inv i M) : PrI B l i M qo md_L_newTable hh_L_newTable md_X13_newTable [.int (I a), .int (I b)] := by
  intro f Qw H
  have hf := hI.fr.fs
  have r2 : inR 2 := ⟨by decide, by decide⟩
  have rlo : inR 1 := ⟨by decide, by decide⟩
  have rhi : inR 16 := ⟨by decide, by decide⟩
  refine ok_L_newTable hl (fun G q1 q2 => ?_)
  unfold T_L_newTable
  rw [q1, q2]
  by_cases hg : 0 ≤ a ∧ a < wd M
  · by_cases hb : 1 ≤ b ∧ b ≤ 16
    · have hfm : FmOk M 6 b := ⟨by omega, fun h => by omega, fun h => by omega, fun h => by omega, fun h _ => by omega, fun h => by omega⟩
      refine Or.inl (ok_X11_newTable hl (fun G h1 => go_X11_newTable_0 h1 (Or.inl (cs_needSlot_ok (Ct_fl h1) ra hf hg (Or.inl (cs_needBetween_ok (Ct_fl h1) rb rlo rhi hb (cs_mkA (Ct_fl h1) hI (by omega) hg hfm (by unfold nwK; rw [if_neg (by decide)]) (by unfold nwL; rw [if_neg (by decide)]) (fun r M1 ho zr z5 f1 e9 => ⟨inR0, ?_⟩))))))))
      subst e9
      have b1 : Bas M1 M := ho.elim (fun z => z.2.2.2.2) (fun z => z.2.2.2.2)
      have hf1 := bas_fs b1 hf
      have hg1 : 0 ≤ a ∧ a < wd M1 := by rw [bas_wd b1]; exact hg
      exact H 0 _ _ inR0 (fun Qm hm => ok_X13_newTable hl (fun G h2 => go_X13_newTable_0 h2 (ms_isSlot1 (Ct_fl h2) ra hf1 hg1 (fun z3 => ms_known1 (Ct_fl h2) (fun z4 => ⟨z4, n10, fun _ => ms_isIn1 (Ct_fl h2) rb rlo rhi hb (fun z5 => ms_fit1 (Ct_fl h2) (fun z6 => ⟨z6, n10, fun _ => ms_mkA (Ct_fl h2) hI (by omega) hg hfm (by omega) ho (fun M2 hI2 t2 z8 => hm _ _ z8 hI2 t2 (fun _ => by rw [updL0]))⟩))⟩)))))
    · refine Or.inr (ok_X11_newTable hl (fun G h1 => go_X11_newTable_0 h1 (Or.inl (cs_needSlot_ok (Ct_fl h1) ra hf hg (Or.inr ⟨⟨by omega, by omega⟩, cs_needBetween_bad (Ct_fl h1) rb rlo rhi hb (Or.inr ⟨rfl, r2, ?_⟩)⟩)))))
      refine H 2 _ _ r2 (fun Qm hm => ok_X13_newTable hl (fun G h2 => go_X13_newTable_0 h2 (ms_isSlot1 (Ct_fl h2) ra hf hg (fun z3 => ms_known1 (Ct_fl h2) (fun z4 => ⟨z4, n10, fun _ => ms_isIn0 (Ct_fl h2) rb rlo rhi hb (fun z5 => ms_fit0 (Ct_fl h2) (fun z6 => ⟨z6, fun _ => ⟨inR0, ?_⟩, n00⟩))⟩)))))
      exact hm _ _ inR0 (inv_keep i _ (inv_thr0 (inv_thr0 hI))) rfl (fun h => absurd h (by decide))
  · refine Or.inr (ok_X11_newTable hl (fun G h1 => go_X11_newTable_0 h1 (Or.inr ⟨⟨by omega, by omega⟩, cs_needSlot_bad (Ct_fl h1) ra hf hg (Or.inl ⟨rfl, inR1, ?_⟩)⟩)))
    refine H 1 _ _ inR1 (fun Qm hm => ok_X13_newTable hl (fun G h2 => go_X13_newTable_0 h2 (ms_isSlot0 (Ct_fl h2) ra hf hg (fun z3 => ms_known0 (Ct_fl h2) (fun z4 => ⟨z4, fun _ => ⟨inR0, ?_⟩, n00⟩)))))
    exact hm _ _ inR0 (inv_thr hI) rfl (fun h => absurd h (by decide))
end MakeA
theorem st_7 : StpC Inv 7 := by
  intro i G b L xs qo k n x4 M f hC hz hfl h0 h5 hk hM hi hI next
  refine go_law_864 hC hz hk ?_
  unfold T_law_864
  refine ⟨⟨by omega, by omega⟩, fun a1 => ?_⟩
  refine ⟨⟨by omega, by omega⟩, fun a2 => ?_⟩
  refine pr_newObject hfl a1 a2 hM hi hI f _ (fun r M1 f1 hr h2 => ?_)
  intro zr
  refine ⟨⟨by omega, by omega⟩, fun _ => ?_⟩
  refine ⟨⟨by omega, by omega⟩, fun _ => ?_⟩
  refine h2 _ (fun v M2 hv hI2 ht he z2 => ?_)
  exact tail_I hfl hr ht he (next _ _ _ _ (by omega) (by omega) hI2)
theorem st_8 : StpC Inv 8 := by
  intro i G b L xs qo k n x4 M f hC hz hfl h0 h5 hk hM hi hI next
  refine go_law_932 hC hz hk ?_
  unfold T_law_932
  refine ⟨⟨by omega, by omega⟩, fun a1 => ?_⟩
  refine ⟨⟨by omega, by omega⟩, fun a2 => ?_⟩
  refine pr_newRow hfl a1 a2 hM hi hI f _ (fun r M1 f1 hr h2 => ?_)
  intro zr
  refine ⟨⟨by omega, by omega⟩, fun _ => ?_⟩
  refine ⟨⟨by omega, by omega⟩, fun _ => ?_⟩
  refine h2 _ (fun v M2 hv hI2 ht he z2 => ?_)
  exact tail_I hfl hr ht he (next _ _ _ _ (by omega) (by omega) hI2)
theorem st_9 : StpC Inv 9 := by
  intro i G b L xs qo k n x4 M f hC hz hfl h0 h5 hk hM hi hI next
  refine go_law_1000 hC hz hk ?_
  unfold T_law_1000
  refine ⟨⟨by omega, by omega⟩, fun a1 => ?_⟩
  refine ⟨⟨by omega, by omega⟩, fun a2 => ?_⟩
  refine pr_newText hfl a1 a2 hM hi hI f _ (fun r M1 f1 hr h2 => ?_)
  intro zr
  refine ⟨⟨by omega, by omega⟩, fun _ => ?_⟩
  refine ⟨⟨by omega, by omega⟩, fun _ => ?_⟩
  refine h2 _ (fun v M2 hv hI2 ht he z2 => ?_)
  exact tail_I hfl hr ht he (next _ _ _ _ (by omega) (by omega) hI2)
theorem st_13 : StpC Inv 13 := by
  intro i G b L xs qo k n x4 M f hC hz hfl h0 h5 hk hM hi hI next
  refine go_law_1328 hC hz hk ?_
  unfold T_law_1328
  refine ⟨⟨by omega, by omega⟩, fun a1 => ?_⟩
  refine ⟨⟨by omega, by omega⟩, fun a2 => ?_⟩
  refine pr_newTable hfl a1 a2 hM hi hI f _ (fun r M1 f1 hr h2 => ?_)
  intro zr
  refine ⟨⟨by omega, by omega⟩, fun _ => ?_⟩
  refine ⟨⟨by omega, by omega⟩, fun _ => ?_⟩
  refine h2 _ (fun v M2 hv hI2 ht he z2 => ?_)
  exact tail_I hfl hr ht he (next _ _ _ _ (by omega) (by omega) hI2)
