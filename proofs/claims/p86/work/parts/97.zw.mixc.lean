/-! ===== the digest: the class's side ===== -/
section MixC
variable {B : WB} {l : Launch} {X : va_W} {M M' M1 N : Mem} {Q : Int → Mem → Prop} {QL : Int64 → Mem → Prop} {i p : Nat} {a : Int} {s : Int64} {L : List (Nat × Int)}
theorem cs_mix0 (hl : l.stackTraces = false) (hq : QL (mx1 s 0) M) : OkL B l md_X11_mix 0 0 [.long s, .long (0 : Int64)] X M QL NoX := by
  have k := cs_mix (B := B) (X := X) hl hq
  rwa [i64_0] at k
theorem cs_mixA (hl : l.stackTraces = false) (hq : QL (mx1 s 1) M) : OkL B l md_X11_mix 0 0 [.long s, .long (1 : Int64)] X M QL NoX := by
  have k := cs_mix (B := B) (X := X) hl hq
  rwa [i64_1] at k
/-! what is mixed is told by what counts -/
theorem wd_rel (g : Agr rel M' M) : wd M' = wd M := by
  show M' 88 (M' 80 6 - 1).toNat = M 88 (M 80 6 - 1).toNat
  rw [g 80 6 rfl, g 88 _ rfl]
theorem sx_rel (g : Agr rel M' M) (x : Int) : sx M' x = sx M x := by
  unfold sx
  rw [g 80 6 rfl]
theorem siz_rel (g : Agr rel M' M) (p : Nat) : sizR M' 80 p = sizR M 80 p := by
  show (if M' 82 p = 0 then M' 74 (M' 83 p).toNat + M' 75 (M' 83 p).toNat else if M' 82 p = 6 then 2 * M' 83 p else M' 83 p) = (if M 82 p = 0 then M 74 (M 83 p).toNat + M 75 (M 83 p).toNat else if M 82 p = 6 then 2 * M 83 p else M 83 p)
  rw [g 82 p rfl, g 83 p rfl, g 74 _ rfl, g 75 _ rfl]
theorem man_rel (g : Agr rel M' M) (x : Int) (n : Nat) : manS M' 80 x n = manS M 80 x n := by
  refine sum_congr n (fun k _ => ?_)
  show (if band (M' 86 k) x = 0 then (0 : Int) else 1) = (if band (M 86 k) x = 0 then (0 : Int) else 1)
  rw [g 86 k rfl]
theorem aw_rel (g : Agr rel M' M) (x : Int) (n : Nat) : awS M' 80 x n = awS M 80 x n := by
  refine sum_congr n (fun k _ => ?_)
  show (if (if band (M' 86 k) 1 = 0 then (0 : Int) else 1) = x then wrdR M' 80 k else 0) = (if (if band (M 86 k) 1 = 0 then (0 : Int) else 1) = x then wrdR M 80 k else 0)
  rw [g 86 k rfl, wrd_rel g]
theorem ent_rel (g : Agr rel M' M) (p n : Nat) : entS M' p n = entS M p n := by
  refine sum_congr n (fun k _ => ?_)
  show (if M' 87 ((M' 84 p).toNat + 2 * k) = -1 then (0 : Int) else 1) = (if M 87 ((M 84 p).toNat + 2 * k) = -1 then (0 : Int) else 1)
  rw [g 84 p rfl, g 87 _ rfl]
theorem rtl_rel (g : Agr rel M' M) : rtL M' 80 = rtL M 80 := by
  have hfd : ∀ x, fd M' 80 x = fd M 80 x := fun x => fd_congr (g 80 0 rfl) (fun k => g 81 k rfl)
  have q7 : M' 80 7 = M 80 7 := g 80 7 rfl
  have q8 : M' 80 8 = M 80 8 := g 80 8 rfl
  have q9 : ∀ k, M' (80 + 9) k = M (80 + 9) k := fun k => g 89 k rfl
  have q10 : ∀ k, M' (80 + 10) k = M (80 + 10) k := fun k => g 90 k rfl
  have q11 : ∀ k, M' (80 + 11) k = M (80 + 11) k := fun k => g 91 k rfl
  unfold rtL rtA rtB rtC
  rw [q7, q8]
  simp only [hfd, q9, q10, q11]
theorem mv_rel (g : Agr rel M' M) : mvM M' = mvM M := by
  unfold mvM
  rw [wd_rel g, man_rel g, man_rel g, aw_rel g, aw_rel g, dm_rel g (Or.inl rfl), dm_rel g (Or.inr rfl), g 80 6 rfl, g 72 1 rfl, g 80 0 rfl, g 80 2 rfl, g 80 7 rfl, g 80 8 rfl, g 80 3 rfl, g 80 4 rfl, g 72 10 rfl, g 80 5 rfl]
theorem svP_rel (g : Agr rel M' M) (p : Nat) : svP M' p = svP M p := by
  unfold svP
  rw [wrd_rel g, g 81 p rfl, g 82 p rfl, g 83 p rfl, g 84 p rfl, g 85 p rfl, g 86 p rfl, g 74 _ rfl, g 87 _ rfl, ent_rel g]
theorem sv_rel (g : Agr rel M' M) (x : Nat) : sv M' x = sv M x := by
  have e1 : svP M' = svP M := funext (svP_rel g)
  have e2 : (fun p : Nat => (p : Int) < M' 80 0 ∧ M' 81 p = M' 89 (sx M' x)) = (fun p : Nat => (p : Int) < M 80 0 ∧ M 81 p = M 89 (sx M x)) := funext (fun p => by rw [g 80 0 rfl, g 81 p rfl, g 89 _ rfl, sx_rel g])
  unfold sv
  rw [e1, e2]
theorem ob_rel (g : Agr rel M' M) (p : Nat) : obL M' p = obL M p := by
  unfold obL
  rw [g 81 p rfl, show (Cl M' 80 0 (-1) : (Nat → Prop) → Nat → Prop) = Cl M 80 0 (-1) from by unfold Cl; rw [cls_rel g], rt_rel g, rtl_rel g, bfs_rel g]
theorem pfx_cong {f h : Nat → List Int} : ∀ (n : Nat) (s : Int64), (∀ k, k < n → f k = h k) → pfx f n s = pfx h n s := by
  intro n
  induction n with
  | zero => intro s _; rfl
  | succ n ih =>
    intro s e
    show mxL (pfx f n s) (f n) = mxL (pfx h n s) (h n)
    rw [ih s (fun k hk => e k (by omega)), e n (by omega)]
theorem dg_rel (g : Agr rel M' M) : dgV M' = dgV M := by
  have e1 : (fun k => [M' 77 k]) = (fun k => [M 77 k]) := funext (fun k => by rw [g 77 k rfl])
  have e2 : (fun k => [M' 89 (64 + k)]) = (fun k => [M 89 (64 + k)]) := funext (fun k => by rw [g 89 _ rfl])
  unfold dgV
  rw [e1, e2, funext (sv_rel g), funext (ob_rel g), mv_rel g, wd_rel g, g 80 0 rfl, g 72 9 rfl]
/-! the class's answers about the whole memory -/
theorem cw_frames (hl : l.stackTraces = false) (hI : Inv i M) (hq : Q (M 80 6) M) : OkI B l md_X11_frames 0 0 [.ref (ad B 0)] X M Q NoX :=
  ok_X11_frames hl (fun G h => go_X11_frames_0 h (fun z => ⟨z, by rw [hI.fr.2.1]; exact hq⟩))
theorem cw_slots (hl : l.stackTraces = false) (hI : Inv i M) (hq : Q (wd M) M) : OkI B l md_X11_slots 0 0 [.ref (ad B 0)] X M Q NoX :=
  ok_X11_slots hl (fun G h => go_X11_slots_0 h (cs_topWidth (Ct_fl h) hI.fr.fs (fun z => ⟨z, hq⟩)))
theorem cw_kinds (hl : l.stackTraces = false) (hI : Inv i M) (hq : Q (M 72 1) M) : OkI B l md_X11_kinds 0 0 [.ref (ad B 0)] X M Q NoX :=
  ok_X11_kinds hl (fun G h => go_X11_kinds_0 h (fun z => ⟨z, by rw [hI.kd.1]; exact hq⟩))
theorem cw_objects (hl : l.stackTraces = false) (hI : Inv i M) (hq : Q (M 80 0) M) : OkI B l md_X11_objects 0 0 [.ref (ad B 0)] X M Q NoX :=
  ok_X11_objects hl (fun G h => go_X11_objects_0 h (fun z => ⟨z, by rw [hI.ob.1.1]; exact hq⟩))
theorem cw_youngObjects (hl : l.stackTraces = false) (hI : Inv i M) (hq : Q (M 80 0 - manS M 80 1 (M 80 0).toNat) M) : OkI B l md_X11_youngObjects 0 0 [.ref (ad B 0)] X M Q NoX := by
  have hn := hI.ob.1
  have hy := yng_man hI (M 80 0).toNat (by omega)
  have e : yngS M (M 80 0).toNat = M 80 0 - manS M 80 1 (M 80 0).toNat := by omega
  rw [← e] at hq
  exact ok_X11_youngObjects hl (fun G h => go_X11_youngObjects_0 h (cs_countYoung (i := i) (Ct_fl h) hI (fun z => ⟨z, hq⟩)))
theorem cw_youngWords (hl : l.stackTraces = false) (hI : Inv i M) (hq : Q (awS M 80 0 (M 80 0).toNat) M) : OkI B l md_X11_youngWords 0 0 [.ref (ad B 0)] X M Q NoX := by
  have hn := hI.ob.1
  have e : M 6 18 = awS M 80 0 (M 80 0).toNat := hI.ob.2.2.2.2.2.2.2.2.1.1.trans (aw_ws hI (M 80 0).toNat (by omega)).1.symm
  rw [← e] at hq
  exact ok_X11_youngWords hl (fun G h => go_X11_youngWords_0 h (fun z => ⟨z, hq⟩))
theorem cw_oldWords (hl : l.stackTraces = false) (hI : Inv i M) (hq : Q (awS M 80 1 (M 80 0).toNat) M) : OkI B l md_X11_oldWords 0 0 [.ref (ad B 0)] X M Q NoX := by
  have hn := hI.ob.1
  have e : M 6 19 = awS M 80 1 (M 80 0).toNat := hI.ob.2.2.2.2.2.2.2.2.2.1.trans (aw_ws hI (M 80 0).toNat (by omega)).2.symm
  rw [← e] at hq
  exact ok_X11_oldWords hl (fun G h => go_X11_oldWords_0 h (fun z => ⟨z, hq⟩))
theorem cw_made (hl : l.stackTraces = false) (hI : Inv i M) (hq : Q (M 80 2) M) : OkI B l md_X11_made 0 0 [.ref (ad B 0)] X M Q NoX :=
  ok_X11_made hl (fun G h => go_X11_made_0 h (fun z => ⟨z, by rw [hI.ob.2.2.1.1]; exact hq⟩))
theorem cw_queued (hl : l.stackTraces = false) (hI : Inv i M) (hq : Q (M 80 7) M) : OkI B l md_X11_queued 0 0 [.ref (ad B 0)] X M Q NoX :=
  ok_X11_queued hl (fun G h => go_X11_queued_0 h (fun z => ⟨z, by rw [hI.li.1.1]; exact hq⟩))
theorem cw_lasts (hl : l.stackTraces = false) (hI : Inv i M) (hq : Q (M 80 8) M) : OkI B l md_X11_lasts 0 0 [.ref (ad B 0)] X M Q NoX :=
  ok_X11_lasts hl (fun G h => go_X11_lasts_0 h (fun z => ⟨z, by rw [hI.li.2.1]; exact hq⟩))
theorem cw_interned (hl : l.stackTraces = false) (hI : Inv i M) (hq : Q (manS M 80 4 (M 80 0).toNat) M) : OkI B l md_X11_interned 0 0 [.ref (ad B 0)] X M Q NoX := by
  have hn := hI.ob.1
  rw [← (yng_man hI (M 80 0).toNat (by omega)).2] at hq
  exact ok_X11_interned hl (fun G h => go_X11_interned_0 h (cs_countInterned (i := i) (Ct_fl h) hI (fun z => ⟨z, hq⟩)))
theorem cw_youngs (hl : l.stackTraces = false) (hI : Inv i M) (hq : Q (M 80 3) M) : OkI B l md_X11_youngCollections 0 0 [.ref (ad B 0)] X M Q NoX :=
  ok_X11_youngCollections hl (fun G h => go_X11_youngCollections_0 h (fun z => ⟨z, by rw [hI.co.2.1.1]; exact hq⟩))
theorem cw_fulls (hl : l.stackTraces = false) (hI : Inv i M) (hq : Q (M 80 4) M) : OkI B l md_X11_fullCollections 0 0 [.ref (ad B 0)] X M Q NoX :=
  ok_X11_fullCollections hl (fun G h => go_X11_fullCollections_0 h (fun z => ⟨z, by rw [hI.co.2.2.1]; exact hq⟩))
theorem cw_marking (hl : l.stackTraces = false) (hI : Inv i M) (hq : Q (M 72 10) M) : OkI B l md_X11_isMarking 0 0 [.ref (ad B 0)] X M Q NoX := by
  have e1 := hI.mk.1.1
  have e2 := hI.mk.1.2
  rw [← e1] at e2 hq
  exact ok_X11_isMarking hl (fun G h => go_X11_isMarking_0 h (fun z => ⟨e2, hq⟩))
theorem cw_tenure (hl : l.stackTraces = false) (hI : Inv i M) (hq : Q (M 80 5) M) : OkI B l md_X11_tenure 0 0 [.ref (ad B 0)] X M Q NoX :=
  ok_X11_tenure hl (fun G h => go_X11_tenure_0 h (fun z => ⟨z, by rw [hI.co.1.1]; exact hq⟩))
theorem cs_mixMemory (hl : l.stackTraces = false) (hI : Inv i M) (hq : ∀ M', Inv i M' → Agr rel M' M → QL (mxL s (mvM M)) M') : OkL B l md_X11_mixMemory 0 0 [.ref (ad B 0), .long s] X M QL NoX := by
  refine ok_X11_mixMemory hl (fun G h => ?_)
  have f := Ct_fl h
  refine go_X11_mixMemory_0 h (cw_frames f hI (fun _ => cs_mix f (cw_slots f hI (fun _ => cs_mix f (cw_kinds f hI (fun _ => cs_mix f (cw_objects f hI (fun _ => cs_mix f (cw_youngObjects f hI (fun _ => cs_mix f (cw_youngWords f hI (fun _ => cs_mix f (cw_oldWords f hI (fun _ => cs_mix f (cw_made f hI (fun _ => cs_mix f (cw_queued f hI (fun _ => cs_mix f (cw_lasts f hI (fun _ => cs_mix f (cw_interned f hI (fun _ => cs_mix f (cw_youngs f hI (fun _ => cs_mix f (cw_fulls f hI (fun _ => cs_mix f (cw_marking f hI (fun z => ⟨z, sp01 (P := fun y => OkL (gB G) (gl G) md_X11_mix 0 0 [.long _, .long y] X M _ NoX) hI.mk.1.2 ?_⟩))))))))))))))))))))))))))))
  refine cs_mix f (cw_tenure f hI (fun _ => cs_mix f (cs_would (w := 2) (Or.inl ⟨rfl, rfl⟩) f hI (fun M1 I1 g1 _ _ => cs_mix f (cs_would (w := 3) (Or.inr ⟨rfl, rfl⟩) f I1 (fun M2 I2 g2 _ _ => ?_))))))
  rw [dm_rel g1 (Or.inr rfl)]
  exact cs_mix f (hq M2 I2 (fun o k e => (g2 o k e).trans (g1 o k e)))
theorem ds_in : p ∈ L.map Prod.fst → ∃ e, e ∈ L ∧ e.1 = p ∧ dsL L p = e.2 := by
  intro h
  unfold dsL
  cases he : L.find? (fun e => e.1 == p) with
  | some e => exact ⟨e, List.mem_of_find?_eq_some he, by have := List.find?_some he; simpa using this, rfl⟩
  | none =>
    obtain ⟨e, h1, h2⟩ := List.mem_map.mp h
    have := List.find?_eq_none.mp he e h1
    exact absurd (by simpa using h2) this
theorem ds_out : ¬ p ∈ L.map Prod.fst → dsL L p = -1 := by
  intro h
  unfold dsL
  cases he : L.find? (fun e => e.1 == p) with
  | some e =>
    have h2 : e.1 = p := by have := List.find?_some he; simpa using this
    exact absurd (List.mem_map.mpr ⟨e, List.mem_of_find?_eq_some he, h2⟩) h
  | none => rfl
theorem ds_c (hI : Inv i M) (w : WkC M 62 L M1) (hp : (p : Int) < M 80 0) : (Sm M1 62 (M 19 p) ∧ M1 30 (M 19 p).toNat = dsL L p) ∨ (¬ Sm M1 62 (M 19 p) ∧ dsL L p = -1) := by
  have hm := wk_mem (inv_rep hI) w hp
  by_cases hin : p ∈ L.map Prod.fst
  · obtain ⟨e, h1, h2, h3⟩ := ds_in hin
    obtain ⟨k, hk⟩ := List.mem_iff_getElem?.mp h1
    have h4 := (w.2.2.2.1 k e hk).2
    rw [h2] at h4
    exact Or.inl ⟨hm.mpr hin, h4.trans h3.symm⟩
  · exact Or.inr ⟨fun z => hin (hm.mp z), ds_out hin⟩
theorem ds_r (w : FaV M L M1) (hp : (p : Int) < M 80 0) : M1 96 p = dsL L p + 1 := by
  by_cases hin : p ∈ L.map Prod.fst
  · obtain ⟨e, h1, h2, h3⟩ := ds_in hin
    obtain ⟨k, hk⟩ := List.mem_iff_getElem?.mp h1
    have h4 := w.1 k e hk
    rw [h2] at h4
    omega
  · rw [ds_out hin, w.2 p hp hin]
    rfl
end MixC
