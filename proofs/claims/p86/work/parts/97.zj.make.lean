/-! ===== the objects that a slot is to hold: PLAIN, ROW, TEXT, TABLE ===== -/
def MkOut (M : Mem) (a fm ofw : Int) (M1 : Mem) (r : Int) : Prop :=
  (RoomN (rmN M (nwW M fm ofw)) (nwW M fm ofw) ∧ r = rmN M (nwW M fm ofw) 80 2 ∧ (∃ g, AgC M1 (up (nwF (rmN M (nwW M fm ofw)) fm ofw (mkO (nwW M fm ofw)) 0 g (-1) (-1)) 22 (sx M a) (rmN M (nwW M fm ofw) 19 (rmN M (nwW M fm ofw) 80 0).toNat))) ∧ IvSc M1 ∧ Bas M1 M) ∨
  (¬ RoomN (rmN M (nwW M fm ofw)) (nwW M fm ofw) ∧ r = -1 ∧ AgC M1 (rmN M (nwW M fm ofw)) ∧ IvSc M1 ∧ Bas M1 M)
section MakeA
variable {B : WB} {l : Launch} {X : va_W} {i j qo : Nat} {M M' M1 M2 N : Mem} {Q : Int → Mem → Prop} {QV : Mem → Prop} {fm ofw a b kd len r t : Int}
theorem cs_has1 {x : Int} (hl : l.stackTraces = false) (ha : inR x) (h : 0 ≤ x ∧ x < M 1 4) (hq : Q 1 M) : OkI B l md_X4_has 0 0 [.ref (ad B 1), .int (I x)] X M Q NoX := cs_has hl ha (by rw [if_pos h]; exact hq)
theorem cs_has0 {x : Int} (hl : l.stackTraces = false) (ha : inR x) (h : ¬ (0 ≤ x ∧ x < M 1 4)) (hq : Q 0 M) : OkI B l md_X4_has 0 0 [.ref (ad B 1), .int (I x)] X M Q NoX := cs_has hl ha (by rw [if_neg h]; exact hq)
theorem bas_jn (hI : Inv i M) (b : Bas M1 M) {v : Int} : JnR (up M1 72 0 v) M := jnr_c (fun o k h1 h2 => by rw [up_ne h2]; exact b.1 o k h1) (jnr_self hI)
theorem cs_mkA (hl : l.stackTraces = false) (hI : Inv i M) (hi : i ≤ 600) (hg : 0 ≤ a ∧ a < wd M) (hf : FmOk M fm ofw) (hkd : kd = nwK fm ofw) (hlen : len = nwL M fm ofw) (hq : ∀ r M', MkOut M a fm ofw M' r → inR r → Q r M') : OkI B l md_X11_makeInto 0 0 [.ref (ad B 0), .int (I a), .int (I fm), .int (I kd), .int (I len)] X M (fun r22 M3 => inR r22 → OkI B l md_X10_nameOf 0 0 [.ref (ad B 6), .int (I r22)] X M3 (fun r25 M4 => inR r25 → (inR r25 ∧ Q r25 M4)) NoX) NoX := by
  refine cs_makeInto hl hI hi hg hf hkd hlen (fun N c M1 eN hr ec hc a1 s1 b1 z => ?_) (fun M1 hn a1 s1 b1 z => ?_)
  · subst eN
    refine cs_nameOf2 (n := rmN M (nwW M fm ofw) 80 2) hl ⟨by omega, hc.2⟩ (fun e => absurd e (by omega)) (fun _ => ?_) (fun z1 => ⟨z1, hq _ _ (Or.inl ⟨hr, rfl, ⟨_, by rw [← ec]; exact a1⟩, s1, b1⟩) z1⟩)
    rw [a1 7 _ (rc_of (by omega)), up_ne (by omega), nwf_e (by omega), ec, nw_c (by decide), if_pos rfl]
  · exact cs_nameOf2 (n := -1) hl ⟨by decide, by decide⟩ (fun _ => rfl) (fun h => absurd rfl h) (fun z1 => ⟨z1, hq _ _ (Or.inr ⟨hn, rfl, a1, s1, b1⟩) z1⟩)
end MakeA
