/-! ===== the digest: the class's objects, and the whole ===== -/
section MixD
variable {B : WB} {l : Launch} {X : va_W} {M M' M1 N : Mem} {Q : Int → Mem → Prop} {QL : Int64 → Mem → Prop} {i p : Nat} {a : Int} {s : Int64} {L : List (Nat × Int)}
theorem cs_mixObjects (hl : l.stackTraces = false) (hI : Inv i M) (hq : ∀ M', Inv i M' → Agr rel M' M → QL (pfx (obL M) (M 80 0).toNat s) M') : OkL B l md_X11_mixObjects 0 0 [.ref (ad B 0), .long s] X M QL NoX := by
  have h62 : isSc 62 := Or.inr (Or.inr (Or.inr (Or.inr (Or.inr (Or.inl rfl)))))
  have c62 := sc_cs h62
  have c59 : isCS 59 := Or.inr (Or.inr (Or.inr (Or.inr (Or.inr (Or.inr (Or.inl rfl))))))
  refine ok_X11_mixObjects hl (fun G h => ?_)
  have f := Ct_fl h
  refine go_X11_mixObjects_0 h (cs_findReached (b := -1) f hI ⟨by decide, by decide⟩ (Or.inl ⟨rfl, rfl⟩) (fun M1 f1 s1 p1 k1 => cs_findNear f (inv_59 hI f1 s1) (fun M2 w2 => ?_)))
  have I1 := inv_59 hI f1 s1
  have g1 : Agr rel M1 M := f1.rel
  rw [rtl_rel g1, bfs_rel g1] at w2
  have g2 : Agr rel M2 M1 := fw_agr h62 w2.2.1
  have g : Agr rel M2 M := fun o k e => (g2 o k e).trans (g1 o k e)
  have I2 := inv_fw h62 I1 w2.2.1 w2.1
  have hn := hI.ob.1
  have e15 : M2 6 15 = M 80 0 := (g 6 15 rfl).trans hn.1
  have S59 := (I2.sc.1 59 c59).1
  have loop : ∀ (r x : Nat), (x : Int) + r = M 80 0 → L_X11_mixObjects_20 G X (pfx (obL M) x s) (x : Int) M2 := by
    intro r
    induction r with
    | zero =>
      intro x hx
      refine go_X11_mixObjects_20 h (fun z => ⟨⟨by omega, by omega⟩, z, fun _ => ?_, fun hlt => absurd hlt (by omega)⟩)
      have k := hq M2 I2 g
      rwa [show (M 80 0).toNat = x by omega] at k
    | succ r ih =>
      intro x hx
      have hp : (x : Int) < M 80 0 := by omega
      have e19 : M2 19 x = M 19 x := g 19 x rfl
      have e19' : M1 19 x = M 19 x := g1 19 x rfl
      have hc := I2.ob.2.2.2.1 x (by omega)
      have hp2 : (x : Int) < M2 80 0 := by rw [g 80 0 rfl]; exact hp
      have e7 : M2 7 (M2 19 x).toNat = M 81 x := ((I2.ob.2.2.2.2.2.1 x hp2).1).trans (g 81 x rfl)
      have h59 : Sm M2 59 (M2 19 x) ↔ Cl M 80 0 (-1) (fun q => Hrt M 80 q ∧ (q : Int) ≠ -1) x := by
        refine Iff.trans ?_ (k1 x hp)
        unfold Sm
        rw [e19, w2.2.1 (59 + 1) _ (by omega) (by decide) (by decide) (by decide)]
      have hd := ds_c I1 w2 (p := x) (by rw [g1 80 0 rfl]; exact hp)
      rw [e19', ← e19] at hd
      generalize hvd : dsL (bfs M 6 209 (prL (sc (-1) [] (rtL M 80))) 0) x = vd at hd
      have st : ∀ {B l} {Q : Int → Mem → Prop}, l.stackTraces = false → Q vd M2 → OkI B l md_X9_stepsTo 0 0 [.ref (ad B 58), .int (I (M2 19 x))] X M2 Q NoX := by
        intro B l Q f k
        refine ok_X9_stepsTo f (fun G3 h3 => go_X9_stepsTo_0 h3 (cs_contains c62 (Ct_fl h3) ⟨by omega, by omega⟩ w2.1 (fun hs z5 => ⟨z5, fun h => absurd h (by decide), fun _ => ⟨hc, fun z6 => ⟨z6, ?_⟩⟩⟩) (fun hs z5 => ⟨z5, fun _ => ⟨⟨by decide, by decide⟩, ?_⟩, fun h => absurd rfl h⟩)))
        · rcases hd with h | h
          · rw [h.2]; exact k
          · exact absurd hs h.1
        · rcases hd with h | h
          · exact absurd h.1 hs
          · rw [h.2] at k; exact k
      have nx := ih (x + 1) (by omega)
      have key : ∀ v : Int, v = @ite _ (Cl M 80 0 (-1) (fun q => Hrt M 80 q ∧ (q : Int) ≠ -1) x) (Classical.propDecidable _) 1 0 → L_X11_mixObjects_20 G X (mx1 (mx1 (mx1 (pfx (obL M) x s) (M2 7 (M2 19 x).toNat)) v) vd) ((x : Int) + 1) M2 := by
        intro v hv
        rw [hv, e7, ← hvd]
        exact nx
      refine go_X11_mixObjects_20 h (fun z => ⟨⟨by omega, by omega⟩, z, fun hge => absurd hge (by omega), fun _ => ⟨⟨by omega, by omega⟩, fun z1 => ⟨hc, fun z2 => cs_mix f (cs_contains c59 f z1 S59 (fun hs z3 => ⟨z3, fun e => absurd e (by decide), fun _ => ?_⟩) (fun hs z3 => ⟨z3, fun _ => ?_, fun e => absurd rfl e⟩))⟩⟩⟩)
      · exact cs_mixA f (st f (fun _ => cs_mix f (key 1 (by rw [if_pos (h59.mp hs)]))))
      · exact cs_mix0 f (st f (fun _ => cs_mix f (key 0 (by rw [if_neg (fun k => hs (h59.mpr k))]))))
  exact loop (M 80 0).toNat 0 (by omega)
theorem cs_digest (hl : l.stackTraces = false) (hI : Inv i M) (hq : ∀ M', Inv i M' → Agr rel M' M → QL (dgV M) M') : OkL B l md_X11_digest 0 0 [.ref (ad B 0)] X M QL NoX := by
  refine ok_X11_digest hl (fun G h => ?_)
  have f := Ct_fl h
  refine go_X11_digest_0 h (cs_mixMemory f hI (fun M1 I1 g1 => ?_))
  have hw := I1.fr.fs.wd
  have ew := wd_rel g1
  -- the image
  have im : ∀ (M3 : Mem) (s3 : Int64), Inv i M3 → Agr rel M3 M → QL (pfx (fun k => [M 77 k]) (M 72 9).toNat s3) M3 → ∀ (r x : Nat), (x : Int) + r = M 72 9 → L_X11_digest_80 G X (pfx (fun k => [M 77 k]) x s3) (x : Int) M3 := by
    intro M3 s3 I3 g3 hk r
    have h5 := I3.im
    have e9 : M3 72 9 = M 72 9 := g3 72 9 rfl
    have h51 := h5.1
    have h52 := h5.2.1
    induction r with
    | zero =>
      intro x hx
      refine go_X11_digest_80 h (fun z => ⟨⟨by omega, by omega⟩, z, fun _ => ?_, fun hlt => absurd hlt (by omega)⟩)
      rwa [show (M 72 9).toNat = x by omega] at hk
    | succ r ih =>
      intro x hx
      have e : M3 52 x = M 77 x := (h5.2.2 x (by omega)).trans (g3 77 x rfl)
      have nx : L_X11_digest_80 G X (mx1 (pfx (fun k => [M 77 k]) x s3) (M 77 x)) ((x : Int) + 1) M3 := ih (x + 1) (by omega)
      rw [← e] at nx
      exact go_X11_digest_80 h (fun z => ⟨⟨by omega, by omega⟩, z, fun hge => absurd hge (by omega), fun _ => ⟨⟨by omega, by omega⟩, fun z1 => cs_mix f nx⟩⟩)
  -- the globals
  have gl : ∀ (r x : Nat), x + r = 8 → L_X11_digest_36 G X (pfx (fun k => [M 89 (64 + k)]) x (pfx (sv M) (wd M).toNat (mxL (58002 : Int64) (mvM M)))) (x : Int) M1 := by
    intro r
    induction r with
    | zero =>
      intro x hx
      have hx8 : x = 8 := by omega
      subst hx8
      refine go_X11_digest_36 h ⟨⟨by decide, by decide⟩, ⟨by decide, by decide⟩, fun _ => cs_mixObjects f I1 (fun M2 I2 g2 z => ?_), fun hlt => absurd hlt (by decide)⟩
      have g : Agr rel M2 M := fun o k e => (g2 o k e).trans (g1 o k e)
      have e5 : M2 51 5 = M 72 9 := I2.im.1.trans (g 72 9 rfl)
      have h9 := hI.im.2.1
      rw [e5]
      rw [g1 80 0 rfl, funext (ob_rel g1)]
      exact cs_mix f (im M2 _ I2 g (hq M2 I2 g) (M 72 9).toNat 0 (by omega))
    | succ r ih =>
      intro x hx
      have nx : L_X11_digest_36 G X (mx1 (pfx (fun k => [M 89 (64 + k)]) x (pfx (sv M) (wd M).toNat (mxL (58002 : Int64) (mvM M)))) (M 89 (64 + x))) ((x : Int) + 1) M1 := ih (x + 1) (by omega)
      rw [← g1 89 (64 + x) rfl] at nx
      exact go_X11_digest_36 h ⟨⟨by omega, by omega⟩, ⟨by decide, by decide⟩, fun hge => absurd hge (by omega), fun _ => cv_globalNumber f I1 ⟨by omega, by omega⟩ ⟨by omega, by omega⟩ (fun _ => cs_mix f nx)⟩
  -- the slots
  have sl : ∀ (r x : Nat), (x : Int) + r = wd M → L_X11_digest_10 G X (pfx (sv M) x (mxL (58002 : Int64) (mvM M))) (x : Int) M1 := by
    intro r
    induction r with
    | zero =>
      intro x hx
      refine go_X11_digest_10 h (cs_topWidth f I1.fr.fs (fun z => ⟨⟨by omega, by omega⟩, z, fun _ => ?_, fun hlt => absurd hlt (by omega)⟩))
      have k := gl 8 0 rfl
      rwa [show (wd M).toNat = x by omega] at k
    | succ r ih =>
      intro x hx
      have nx : L_X11_digest_10 G X (mxL (pfx (sv M) x (mxL (58002 : Int64) (mvM M))) (sv M x)) ((x : Int) + 1) M1 := ih (x + 1) (by omega)
      rw [← sv_rel g1] at nx
      exact go_X11_digest_10 h (cs_topWidth f I1.fr.fs (fun z => ⟨⟨by omega, by omega⟩, z, fun hge => absurd hge (by omega), fun _ => cs_mixSlot f I1 ⟨by omega, by omega⟩ nx⟩))
  exact sl (wd M).toNat 0 (by omega)
end MixD
