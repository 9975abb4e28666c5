/-! ===== the reference's walks ===== -/
section Far
variable {B : WB} {l : Launch} {X : va_W} {M M' : Mem} {Q : Int → Mem → Prop} {QN : Nat → Mem → Prop} {QV : Mem → Prop} {o : Nat} {lf : Int} {i : Nat} {x : Int}
/-- nothing but marks, rank and what waits -/
def Ffr (M' M : Mem) : Prop := ∀ o k, ¬ (o = 80 ∧ k = 25) → o ≠ 93 → o ≠ 95 → o ≠ 96 → M' o k = M o k
theorem Ffr.trans {M'' : Mem} (g : Ffr M'' M') (g' : Ffr M' M) : Ffr M'' M := fun o k a b c d => (g o k a b c d).trans (g' o k a b c d)
theorem Ffr.rel (g : Ffr M' M) : Agr rel M' M := by
  intro o k hr
  refine g o k ?_ ?_ ?_ ?_
  · rintro ⟨rfl, rfl⟩; exact absurd (show false = true from hr) (by decide)
  · rintro rfl; exact absurd (show false = true from hr) (by decide)
  · rintro rfl; exact absurd (show false = true from hr) (by decide)
  · rintro rfl; exact absurd (show false = true from hr) (by decide)
theorem fdL_6 (R : RefO M 80) {x : Int} : fdL M 6 x = fd M 80 x := by
  cases h : fd M 80 x with
  | none => exact fdL_none h
  | some q =>
    rw [fdL_some h]
    have hq := (fd_some R.1).mp h
    have h2 : M 82 q ≤ 6 := (R.2 q hq.1).2.1.2
    rw [if_pos h2]
/-- ranks: how far, with one more -/
def FaR (M : Mem) (L : List (Nat × Int)) (M1 : Mem) : Prop := Ffr M1 M ∧ (∀ (k : Nat) (e : Nat × Int), L[k]? = some e → M1 95 k = e.1 ∧ M1 96 e.1 = e.2 + 1) ∧ (∀ p : Nat, (p : Int) < M 80 0 → ¬ p ∈ L.map Prod.fst → M1 96 p = 0) ∧ NdL (M 80 0) L
theorem fa_add {M1 : Mem} {L : List (Nat × Int)} {q : Nat} {d : Int} (w : FaR M L M1) (hq : (q : Int) < M 80 0) (hnot : ¬ q ∈ L.map Prod.fst) (hd : 0 ≤ d ∧ d ≤ L.length) : FaR M (ad1 L d q) (up (up M1 96 q (d + 1)) 95 L.length q) := by
  obtain ⟨w1, w2, w3, w4⟩ := w
  have el : ad1 L d q = L ++ [(q, d)] := if_neg hnot
  refine ⟨fun o k a b c e => ?_, fun k e hk => ?_, fun p hp hn => ?_, nd_ad1 w4 hq hd⟩
  · rw [up_o c, up_o e]
    exact w1 o k a b c e
  · rw [el] at hk
    rcases app_get hk with g | ⟨g1, g2⟩
    · have h1 := w2 k e g
      have hlt := get_lt g
      have hne : e.1 ≠ q := fun z => hnot (nd_mem.mpr ⟨k, e, g, z⟩)
      exact ⟨by rw [up_k (by omega), up_o (by decide)]; exact h1.1, by rw [up_o (by decide), up_k hne]; exact h1.2⟩
    · rw [g2, g1]
      exact ⟨up_s _ _ _ _, by rw [up_o (by decide)]; exact up_s _ _ _ _⟩
  · have h1 : p ≠ q := fun z => hn (by rw [el, z]; simp)
    have h2 : ¬ p ∈ L.map Prod.fst := fun z => hn (by rw [el, List.map_append]; exact List.mem_append_left _ z)
    rw [up_o (by decide), up_k h1]
    exact w3 p hp h2
theorem fa_pos {M1 : Mem} {L : List (Nat × Int)} (w : FaR M L M1) {q : Nat} (hq : (q : Int) < M 80 0) : (0 < M1 96 q ↔ q ∈ L.map Prod.fst) := by
  obtain ⟨w1, w2, w3, w4⟩ := w
  constructor
  · intro h
    rcases Classical.em (q ∈ L.map Prod.fst) with z | z
    · exact z
    · rw [w3 q hq z] at h; omega
  · intro h
    obtain ⟨k, e, h1, h2⟩ := nd_mem.mp h
    have := (w2 k e h1).2
    rw [h2] at this
    have := (w4.1 k e h1).2.1
    omega
theorem ms_far (hl : l.stackTraces = false) (hI : Inv i M) (hq : ∀ M', FaR M (bfs M 6 209 (prL (sc (-1) [] (rtL M 80))) 0) M' → M' 80 25 = 0 → QN 96 M') : OkR B l md_X12_far 0 0 [.ref (ad B 80)] X M QN NoX := by
  generalize hL0 : sc (-1) [] (rtL M 80) = L0 at hq
  have h80 : isHp 80 := Or.inl rfl
  have R := rep_ref (inv_rep hI)
  have N := R.1
  have hn := N.1
  have a96 : Arr 96 100 256 := ⟨by decide, rfl, rfl⟩
  have a93 : Arr 93 100 256 := ⟨by decide, rfl, rfl⟩
  have hlen : ∀ L, NdL (M 80 0) L → (L.length : Int) ≤ M 80 0 := by
    intro L hL
    have hL2 : NdL ((M 80 0).toNat : Int) L := by rw [show ((M 80 0).toNat : Int) = M 80 0 by omega]; exact hL
    have := nd_len hL2
    omega
  refine ok_X12_far hl (fun G hG => ?_)
  have lnk : ∀ M1, Ffr M1 M → ∀ p, lnkR M1 80 p = lnkR M 80 p := by
    intro M1 f p
    have g := f.rel
    show (if M1 82 p = 0 then M1 74 (M1 83 p).toNat else if M1 82 p = 1 then M1 83 p else 0) = (if M 82 p = 0 then M 74 (M 83 p).toNat else if M 82 p = 1 then M 83 p else 0)
    rw [g 82 p rfl, g 83 p rfl, g 74 _ rfl]
  have lk : ∀ (M1 : Mem) (p : Nat) (P : Int → Mem → Prop), Ffr M1 M → (p : Int) < M 80 0 → P (lnkR M 80 p) M1 → OkI (gB G) (gl G) md_X12_links 0 0 [.ref (ad (gB G) 80), .int (I (p : Int))] X M1 P NoX := by
    intro M1 p P f hp hP
    have g := f.rel
    refine ms_links (o := 80) h80 (Ct_fl hG) p (by omega) (fun h => ?_) (by rw [lnk M1 f p]; exact hP)
    have h' : M 82 p = 0 := by rw [← g 82 p rfl]; exact h
    have e83 : M1 (80 + 3) p = M 83 p := g 83 p rfl
    rw [e83]
    exact ((R.2 p hp).2.2.1 h').1
  -- one object's fields
  have f76 : ∀ (t : Nat) (p : Nat) (d : Int), (p : Int) < M 80 0 → 0 ≤ d → d ≤ t → ∀ (L : List (Nat × Int)), L[t]? = some (p, d) → (∀ (en : Int) M2, en = (adA (d + 1) L (sucL M 6 p (lnkR M 80 p).toNat)).length → FaR M (adA (d + 1) L (sucL M 6 p (lnkR M 80 p).toNat)) M2 → M2 80 25 = 0 → L_X12_far_61 G X 80 en ((t : Int) + 1) M2) →
      ∀ (r k : Nat) (en : Int) (M1 : Mem), (k : Int) + r = lnkR M 80 p → en = (adA (d + 1) L (sucL M 6 p k)).length → FaR M (adA (d + 1) L (sucL M 6 p k)) M1 → M1 80 25 = 0 → L_X12_far_76 G X 80 en (t : Int) (p : Int) (k : Int) M1 := by
    intro t p d hp hd0 hdt L hL nx r
    have hk := ref_lnk (R.2 p hp)
    have hs := ref_siz (R.2 p hp)
    have hat := cel_le hI hp
    induction r with
    | zero =>
      intro k en M1 hk2 he w w25
      refine go_X12_far_76 hG h80 (lk M1 p _ w.1 hp (fun z => ⟨⟨by omega, by omega⟩, z, fun _ => nx en M1 ?_ ?_ w25, fun hlt => absurd hlt (by omega)⟩))
      · rw [show (lnkR M 80 p).toNat = k by omega]; exact he
      · rw [show (lnkR M 80 p).toNat = k by omega]; exact w
    | succ r ih =>
      intro k en M1 hk2 he w w25
      have g := w.1.rel
      have e84 : M1 (80 + 4) ((p : Nat) : Int).toNat = M 84 p := g 84 p rfl
      have ej : (M 84 p + (k : Int)).toNat = (M 84 p).toNat + k := by omega
      have e87 : M1 (80 + 7) ((M 84 p).toNat + k) = M 87 ((M 84 p).toNat + k) := g 87 _ rfl
      have hcur := adA_get (d := d + 1) (sucL M 6 p k) L hL
      have hll := hlen _ w.2.2.2
      refine go_X12_far_76 hG h80 (lk M1 p _ w.1 hp (fun z => ⟨⟨by omega, by omega⟩, z, fun hle => absurd hle (by omega), fun _ => ⟨⟨by omega, by omega⟩, fun z2 => ?_⟩⟩))
      rw [e84, ej, e87]
      refine ⟨⟨by omega, by omega⟩, fun z3 => ?_⟩
      refine ms_fd h80 (Ct_fl hG) z3 (num_congr (g 80 0 rfl) (fun k => g 81 k rfl) N) (fun q q1 q2 _ z4 => ⟨z4, ⟨by decide, by decide⟩, fun he2 => absurd he2 (by omega), fun _ => ?_⟩) (fun q1 _ z4 => ⟨z4, ⟨by decide, by decide⟩, fun _ => ?_, fun hne => absurd rfl hne⟩)
      · have hqn : (q : Int) < M 80 0 := by rw [← g 80 0 rfl]; exact q1
        have hfd : fd M 80 (M 87 ((M 84 p).toNat + k)) = some q := (fd_some N).mpr ⟨hqn, by rw [← q2]; exact (g 81 q rfl).symm⟩
        have es : sucL M 6 p (k + 1) = sucL M 6 p k ++ [q] := col_some (by rw [fdL_6 R]; exact hfd)
        have ea : adA (d + 1) L (sucL M 6 p (k + 1)) = ad1 (adA (d + 1) L (sucL M 6 p k)) (d + 1) q := by rw [es, adA_app, adA_one]
        have hpos := fa_pos w hqn
        have erp : M1 96 p = d + 1 := (w.2.1 t (p, d) hcur).2
        have hlt := get_lt hcur
        refine ⟨⟨by omega, by omega⟩, fun z5 => ⟨z5, fun hle => ?_, fun hgt => ?_⟩⟩
        · have hle : M1 96 q ≤ 0 := hle
          have hnot : ¬ q ∈ (adA (d + 1) L (sucL M 6 p k)).map Prod.fst := fun h => absurd (hpos.mpr h) (by omega)
          have hroom := nd_room (n := (M 80 0).toNat) (by rw [show ((M 80 0).toNat : Int) = M 80 0 by omega]; exact w.2.2.2) (by omega) hnot
          have erp2 : M1 (80 + 16) ((p : Nat) : Int).toNat = d + 1 := erp
          refine ⟨⟨by omega, by omega⟩, fun z6 => ?_⟩
          rw [erp2]
          refine ⟨⟨by omega, by omega⟩, ⟨by omega, by omega⟩, fun M3 e3 => ⟨⟨by omega, by omega⟩, ⟨by omega, by omega⟩, fun M4 e4 => ?_⟩⟩
          subst e4
          subst e3
          refine ih (k + 1) _ _ (by omega) ?_ ?_ ?_
          · rw [ea]
            unfold ad1
            rw [if_neg hnot, List.length_append, he]
            push_cast
            rfl
          · rw [ea, he]
            exact fa_add w hqn hnot ⟨by omega, by omega⟩
          · show up (up M1 96 _ _) 95 _ _ 80 25 = 0
            rw [up_o (by decide), up_o (by decide)]
            exact w25
        · have hgt : 0 < M1 96 q := hgt
          have ea2 : adA (d + 1) L (sucL M 6 p (k + 1)) = adA (d + 1) L (sucL M 6 p k) := by
            rw [ea]
            unfold ad1
            rw [if_pos (hpos.mp hgt)]
          exact ih (k + 1) en M1 (by omega) (by rw [ea2]; exact he) (by rw [ea2]; exact w) w25
      · have hfd : fd M 80 (M 87 ((M 84 p).toNat + k)) = none := (fd_none N).mpr (fun q hq' hh => q1 q (by rw [g 80 0 rfl]; exact hq') ((g 81 q rfl).trans hh))
        have es : sucL M 6 p (k + 1) = sucL M 6 p k := col_none (by rw [fdL_6 R]; exact hfd)
        exact ih (k + 1) en M1 (by omega) (by rw [es]; exact he) (by rw [es]; exact w) w25
  have f61 : ∀ (f t : Nat) (L : List (Nat × Int)) (en : Int) (M1 : Mem), t + f = 209 → t ≤ L.length → en = L.length → FaR M L M1 → M1 80 25 = 0 → bfs M 6 f L t = bfs M 6 209 (prL L0) 0 → L_X12_far_61 G X 80 en (t : Int) M1 := by
    intro f
    induction f with
    | zero =>
      intro t L en M1 ht hle he w w25 hF
      have := hlen L w.2.2.2
      omega
    | succ f ih =>
      intro t L en M1 ht hle he w w25 hF
      have hll := hlen L w.2.2.2
      by_cases hlt : t < L.length
      · have e1 : L[t]? = some L[t] := List.getElem?_eq_getElem hlt
        have hw := w.2.1 t _ e1
        have hd := w.2.2.2.1 t _ e1
        rw [bfs_some e1] at hF
        refine go_X12_far_61 hG h80 ⟨⟨by omega, by omega⟩, ⟨by omega, by omega⟩, fun h => absurd h (by omega), fun _ => ⟨⟨by omega, by omega⟩, fun z2 => ?_⟩⟩
        have er : M1 (80 + 15) ((t : Nat) : Int).toNat = (L[t].1 : Int) := hw.1
        rw [er]
        refine f76 t L[t].1 L[t].2 hd.1 hd.2.1 hd.2.2 L e1 (fun en2 M2 he2 w2 w252 => ih (t + 1) _ en2 M2 (by omega) ?_ he2 w2 w252 hF) (lnkR M 80 L[t].1).toNat 0 en M1 (by have := ref_lnk (R.2 _ hd.1); omega) he w w25
        have := get_lt (adA_get (d := L[t].2 + 1) (sucL M 6 L[t].1 (lnkR M 80 L[t].1).toNat) L e1)
        omega
      · have e1 : L[t]? = none := List.getElem?_eq_none (by omega)
        rw [bfs_none e1] at hF
        exact go_X12_far_61 hG h80 ⟨⟨by omega, by omega⟩, ⟨by omega, by omega⟩, fun _ => hq M1 (by rw [← hF]; exact w) w25, fun h => absurd h (by omega)⟩
  refine go_X12_far_0 hG h80 (ms_none h80 a96 (Ct_fl hG) hn (fun M1 n1 z1 => ?_))
  have k1 : ∀ o k, o ≠ 96 → M1 o k = M o k := fun o k hne => n1 o k (fun z => hne z.1)
  refine ms_none h80 a93 (Ct_fl hG) (by rw [k1 _ _ (by decide)]; exact hn) (fun M2 n2 z2 => ?_)
  have k2 : ∀ o k, o ≠ 93 → M2 o k = M1 o k := fun o k hne => n2 o k (fun z => hne z.1)
  have k21 : ∀ o k, o ≠ 93 → o ≠ 96 → M2 o k = M o k := fun o k a b => (k2 o k a).trans (k1 o k b)
  have N2 : Num M2 80 := num_congr (k21 _ _ (by decide) (by decide)) (fun k => k21 _ _ (by decide) (by decide)) N
  have e26 : M2 80 26 = -1 := (k21 _ _ (by decide) (by decide)).trans (hI.sc.2 80 h80).2
  refine ms_markRoots (a1 := 93) h80 (Or.inl rfl) (Ct_fl hG) N2 (by rw [k21 _ _ (by decide) (by decide)]; exact ⟨hI.li.1.2.1, hI.li.1.2.2.1⟩) (by rw [k21 _ _ (by decide) (by decide)]; exact ⟨hI.li.2.2.1, hI.li.2.2.2.1⟩) (by rw [k21 _ _ (by decide) (by decide)]; exact (hI.sc.2 80 h80).1) (fun p hp => z2 p (by rw [k1 _ _ (by decide)]; rw [k21 _ _ (by decide) (by decide)] at hp; exact hp)) (fun M3 g3 f3 l3 => ?_)
  have er : rtL M2 80 = rtL M 80 := by
    have e1 : ∀ x, fd M2 80 x = fd M 80 x := fun x => fd_congr (k21 _ _ (by decide) (by decide)) (fun k => k21 _ _ (by decide) (by decide))
    unfold rtL rtA rtB rtC
    rw [k21 80 7 (by decide) (by decide), k21 80 8 (by decide) (by decide)]
    simp only [e1, fun k => k21 (80 + 9) k (by decide) (by decide), fun k => k21 (80 + 10) k (by decide) (by decide), fun k => k21 (80 + 11) k (by decide) (by decide)]
  rw [e26, er, hL0] at l3
  have n3 : M3 80 0 = M 80 0 := (f3 80 0 (by decide) (by decide) (by decide)).trans (k21 _ _ (by decide) (by decide))
  refine fun z3 => ⟨inR0, fun M4 e4 => ?_⟩
  have hw3 := l3.1
  have hwle := mki_le g3 (by rw [n3]; exact hn.1)
  have hw0 := g3.1
  have k4 : ∀ o k, ¬ (o = 80 ∧ k = 25) → M4 o k = M3 o k := by subst e4; intro o k hne; unfold up; rw [if_neg hne]
  have w4 : M4 80 25 = 0 := by subst e4; exact up_s _ _ _ _
  have f43 : Ffr M4 M := fun o k a b c d => by
    rw [k4 o k a, f3 o k a c b]
    exact k21 o k b d
  -- those that roots hold have rank 1
  have f36 : ∀ (r t : Nat) (M5 : Mem), (t : Int) + r = M3 80 25 → Ffr M5 M → M5 80 25 = 0 → (∀ k, M5 95 k = M4 95 k) → (∀ (k q : Nat), k < t → L0[k]? = some q → M5 96 q = 1) → (∀ p : Nat, (p : Int) < M 80 0 → (∀ k : Nat, k < t → L0[k]? ≠ some p) → M5 96 p = 0) → L_X12_far_36 G X 80 (M3 80 25) (t : Int) M5 := by
    intro r
    induction r with
    | zero =>
      intro t M5 ht f5 w5 e95 h1 h2
      refine go_X12_far_36 hG h80 ⟨⟨by omega, by omega⟩, ⟨by omega, by omega⟩, fun _ => ?_, fun h => absurd h (by omega)⟩
      refine f61 209 0 (prL L0) _ M5 (by omega) (Nat.zero_le _) ?_ ⟨f5, fun k e hk => ?_, fun p hp hno => ?_, fun k e hk => ?_, fun a b e e' hab ha hb => ?_⟩ w5 rfl
      · unfold prL
        rw [List.length_map]
        exact hw3.symm
      · unfold prL at hk
        rw [List.getElem?_map] at hk
        cases hq0 : L0[k]? with
        | none => rw [hq0] at hk; cases hk
        | some q =>
          rw [hq0] at hk
          cases hk
          have hlt : k < L0.length := by
            rcases Nat.lt_or_ge k L0.length with g | g
            · exact g
            · rw [List.getElem?_eq_none g] at hq0; cases hq0
          have e5 : M4 95 k = M3 95 k := k4 95 k (by omega)
          exact ⟨by rw [e95, e5]; exact l3.2.1 k q hq0, h1 k q (by omega) hq0⟩
      · refine h2 p hp (fun k hk hq0 => hno ?_)
        refine nd_mem.mpr ⟨k, (p, 0), ?_, rfl⟩
        unfold prL
        rw [List.getElem?_map, hq0]
        rfl
      · unfold prL at hk
        rw [List.getElem?_map] at hk
        cases hq0 : L0[k]? with
        | none => rw [hq0] at hk; cases hk
        | some q =>
          rw [hq0] at hk
          cases hk
          exact ⟨by rw [← n3]; exact l3.2.2.2 q (List.mem_of_getElem? hq0), Int.le_refl 0, by show (0 : Int) ≤ (k : Int); omega⟩
      · unfold prL at ha hb
        rw [List.getElem?_map] at ha hb
        cases hq0 : L0[a]? with
        | none => rw [hq0] at ha; cases ha
        | some p =>
          cases hq1 : L0[b]? with
          | none => rw [hq1] at hb; cases hb
          | some q =>
            rw [hq0] at ha
            rw [hq1] at hb
            cases ha
            cases hb
            have hlt : b < L0.length := by
              rcases Nat.lt_or_ge b L0.length with g | g
              · exact g
              · rw [List.getElem?_eq_none g] at hq1; cases hq1
            intro hpq
            have hpq : p = q := hpq
            have h5 := l3.2.1 a p hq0
            have h6 := l3.2.1 b q hq1
            exact g3.2.2.1 a b hab (by omega) (by rw [h5, h6, hpq])
    | succ r ih =>
      intro t M5 ht f5 w5 e95 h1 h2
      have hlt : t < L0.length := by omega
      have hq0 : L0[t]? = some L0[t] := List.getElem?_eq_getElem hlt
      have hqn : ((L0[t] : Nat) : Int) < M 80 0 := by rw [← n3]; exact l3.2.2.2 _ (List.getElem_mem hlt)
      have et : M5 (80 + 15) ((t : Nat) : Int).toNat = ((L0[t] : Nat) : Int) := by
        show M5 95 t = _
        rw [e95, k4 95 t (by omega)]
        exact l3.2.1 t _ hq0
      refine go_X12_far_36 hG h80 ⟨⟨by omega, by omega⟩, ⟨by omega, by omega⟩, fun h => absurd h (by omega), fun _ => ⟨⟨by omega, by omega⟩, fun z5 => ?_⟩⟩
      rw [et]
      refine ⟨⟨by omega, by omega⟩, inR1, fun M6 e6 => ?_⟩
      subst e6
      refine ih (t + 1) _ (by omega) (fun o k a b c d => ?_) ?_ (fun k => ?_) (fun k q hk hq1 => ?_) (fun p hp hno => ?_)
      · rw [up_o d]; exact f5 o k a b c d
      · rw [up_o (by decide)]; exact w5
      · rw [up_o (by decide)]; exact e95 k
      · unfold up
        split
        · rfl
        · rename_i hne
          by_cases hkt : k = t
          · subst hkt
            rw [hq0] at hq1
            cases hq1
            exact absurd ⟨rfl, rfl⟩ hne
          · exact h1 k q (by omega) hq1
      · rw [up_k]
        · exact h2 p hp (fun k hk => hno k (by omega))
        · intro hpe
          refine hno t (by omega) ?_
          rw [hq0, hpe]
          rfl
  have h9 := f36 (M3 80 25).toNat 0 M4 (by omega) f43 w4 (fun _ => rfl) (fun k q hk => absurd hk (by omega)) (fun p hp _ => ?_)
  · exact h9
  · rw [k4 96 p (by omega), f3 96 p (by omega) (by decide) (by decide), k2 96 p (by decide)]
    exact z1 p hp
/-- how far: a step's count, or none -/
theorem cs_findNear (hl : l.stackTraces = false) (hI : Inv i M) (hq : ∀ M', WkC M 62 (bfs M 6 209 (prL (sc (-1) [] (rtL M 80))) 0) M' → QV M') : OkV B l md_X9_findNear 0 0 [.ref (ad B 58)] X M QV NoX := by
  have h62 : isSc 62 := Or.inr (Or.inr (Or.inr (Or.inr (Or.inr (Or.inl rfl)))))
  have c62 := sc_cs h62
  have hS := (hI.sc.1 62 c62).1
  refine ok_X9_findNear hl (fun G hG => go_X9_findNear_0 hG (cs_makeEmpty c62 (Ct_fl hG) hS (fun M1 s1 f1 z1 n1 => ?_)))
  have I1 := inv_fo h62 hI f1 s1
  have g1 := fo_rel h62 f1
  refine cs_addTo (N := M) (b := -1) c62 (Ct_fl hG) (agc_rel g1) hI.fr hI.li hI.ob s1 z1 (Or.inl ⟨by rw [f1.barred]; exact (hI.sc.1 62 c62).2.resolve_left (by decide), rfl⟩) (fun M2 g2 l2 => ?_)
  have f2 : Fo 62 M2 M := g2.2.1.trans f1
  have I2 := inv_fo h62 hI f2 g2.1
  have r2 := fo_rel h62 f2
  have l2' : Lst M2 62 (sc (-1) [] (rtL M 80)) M2 := ⟨l2.1, fun k q hk => by rw [r2 19 q rfl]; exact l2.2.1 k q hk, fun q hq' => by rw [r2 80 0 rfl]; exact l2.2.2 q hq'⟩
  have hfd : ∀ x, fd M2 80 x = fd M 80 x := fun x => fd_congr (r2 80 0 rfl) (fun k => r2 81 k rfl)
  have hsu : ∀ p n, sucL M2 6 p n = sucL M 6 p n := by
    intro p n
    unfold sucL fdL
    rw [r2 84 p rfl]
    simp only [hfd, fun k => r2 87 k rfl, fun k => r2 82 k rfl]
  have hlk : ∀ p, lnkR M2 80 p = lnkR M 80 p := by
    intro p
    show (if M2 82 p = 0 then M2 74 (M2 83 p).toNat else if M2 82 p = 1 then M2 83 p else 0) = (if M 82 p = 0 then M 74 (M 83 p).toNat else if M 82 p = 1 then M 83 p else 0)
    rw [r2 82 p rfl, r2 83 p rfl, r2 74 _ rfl]
  have hb : ∀ (f : Nat) (L : List (Nat × Int)) (t : Nat), bfs M2 6 f L t = bfs M 6 f L t := by
    intro f
    induction f with
    | zero => intro L t; rfl
    | succ f ih =>
      intro L t
      cases he : L[t]? with
      | none => rw [bfs_none he, bfs_none he]
      | some e => rw [bfs_some he, bfs_some he, hsu, hlk, ih]
  refine cs_walk h62 (by decide) (Ct_fl hG) I2 ⟨by decide, by decide⟩ l2' (fun M3 w3 => hq M3 ?_)
  obtain ⟨w1, w2, w4, w5, w6⟩ := w3
  rw [hb] at w4 w5 w6
  refine ⟨w1, fun o k a b c d => (w2 o k a b c d).trans (f2 o k a b c), w4, fun k e hk => ?_, by rw [← r2 80 0 rfl]; exact w6⟩
  have := w5 k e hk
  rw [r2 19 _ rfl] at this
  exact this
end Far
/-- what far counted -/
def FaV (M : Mem) (L : List (Nat × Int)) (M1 : Mem) : Prop := (∀ (k : Nat) (e : Nat × Int), L[k]? = some e → M1 96 e.1 = e.2 + 1) ∧ (∀ p : Nat, (p : Int) < M 80 0 → ¬ p ∈ L.map Prod.fst → M1 96 p = 0)
theorem st_73 : StpC Inv 73 := by
  intro i G b L xs qo k n x4 M f hC hz hfl h0 h5 hk hM hi hI next
  have ho := hI.ob
  have R := inv_rep hI
  have h62 : isSc 62 := Or.inr (Or.inr (Or.inr (Or.inr (Or.inr (Or.inl rfl)))))
  have c62 := sc_cs h62
  refine go_law_4264 hC hz hk ?_
  unfold T_law_4264
  refine ⟨⟨by omega, by omega⟩, fun a1 => ?_⟩
  refine ok_X11_distance hfl (fun G1 h1 => go_X11_distance_0 h1 (cs_findNear (i := i) (Ct_fl h1) hI (fun M1 w1 => ?_)))
  have I1 := inv_fw h62 hI w1.2.1 w1.1
  have c1 := fw_agr h62 w1.2.1
  have hfar : ∀ (p : Nat), (p : Int) < M 80 0 → ∃ v : Int, inR v ∧ (∀ M', FaV M (bfs M 6 209 (prL (sc (-1) [] (rtL M 80))) 0) M' → M' 96 p - 1 = v) ∧ ((Sm M1 62 (M 19 p) ∧ M1 30 (M 19 p).toNat = v) ∨ (¬ Sm M1 62 (M 19 p) ∧ v = -1)) := by
    intro p hp
    have hm := wk_mem R w1 hp
    by_cases hin : p ∈ (bfs M 6 209 (prL (sc (-1) [] (rtL M 80))) 0).map Prod.fst
    · obtain ⟨k', e, h1, h2⟩ := nd_mem.mp hin
      have h3 := (w1.2.2.2.1 k' e h1).2
      have h4 := w1.2.2.2.2.1 k' e h1
      have h5' := get_lt h1
      have h6 := w1.2.2.1
      have h7 := w1.1.1
      rw [h2] at h3
      refine ⟨e.2, ⟨by omega, by omega⟩, fun M' w' => ?_, Or.inl ⟨hm.mpr hin, h3⟩⟩
      have h8 := w'.1 k' e h1
      rw [h2] at h8
      omega
    · refine ⟨-1, ⟨by decide, by decide⟩, fun M' w' => ?_, Or.inr ⟨fun z => hin (hm.mp z), rfl⟩⟩
      have h8 := w'.2 p hp hin
      omega
  have fin : ∀ r : Int, inR r → ((∃ p : Nat, (p : Int) < M 80 0 ∧ M 81 p = (xs (x4 + 1).toNat).toInt ∧ ∀ M', FaV M (bfs M 6 209 (prL (sc (-1) [] (rtL M 80))) 0) M' → M' 96 p - 1 = r) ∨ ((∀ p : Nat, (p : Int) < M 80 0 → M 81 p ≠ (xs (x4 + 1).toNat).toInt) ∧ r = -1)) → OkI (gB G) (gl G) md_X13_distance 0 0 [.ref (ad (gB G) 72), .int (I ((xs (x4 + (1 : Int)).toNat).toInt))] (Xo (gB G) qo f) M1 (fun r4281 M2 => inR r4281 → (inR r ∧ inR r4281 ∧ (r = r4281 → L_law_23 G b qo k n (x4 + 5) M2 f) ∧ (r ≠ r4281 → False))) NoX := by
    intro r hr hcase
    have N1 := ob_num I1.ob
    refine ok_X13_distance hfl (fun G2 h2 => go_X13_distance_0 h2 (ms_fd (h := 80) (Or.inl rfl) (Ct_fl h2) a1 N1 (fun p hp he _ z => ms_ok (Ct_fl h2) z (fun z2 => ⟨z2, ⟨by decide, by decide⟩, fun _ => ?_, fun he => absurd he (by omega)⟩)) (fun hno _ z => ms_ok (Ct_fl h2) z (fun z2 => ⟨z2, ⟨by decide, by decide⟩, fun hne => absurd rfl hne, fun _ => ⟨⟨by decide, by decide⟩, fun z3 => ⟨hr, z3, fun _ => next k n _ f (by omega) (by omega) (inv_thr I1), fun hne => ?_⟩⟩⟩))))
    · have I2 := inv_thr0 (v := 0) I1
      have hfd : ∀ x, fd (up M1 72 0 0) 80 x = fd M 80 x := fun x => fd_congr (c1 80 0 rfl) (fun k => c1 81 k rfl)
      have e80 : up M1 72 0 0 80 0 = M 80 0 := c1 80 0 rfl
      have ert : rtL (up M1 72 0 0) 80 = rtL M 80 := by
        have q7 : up M1 72 0 0 80 7 = M 80 7 := c1 80 7 rfl
        have q8 : up M1 72 0 0 80 8 = M 80 8 := c1 80 8 rfl
        have q9 : ∀ k, up M1 72 0 0 (80 + 9) k = M (80 + 9) k := fun k => c1 89 k rfl
        have q10 : ∀ k, up M1 72 0 0 (80 + 10) k = M (80 + 10) k := fun k => c1 90 k rfl
        have q11 : ∀ k, up M1 72 0 0 (80 + 11) k = M (80 + 11) k := fun k => c1 91 k rfl
        unfold rtL rtA rtB rtC
        rw [q7, q8]
        simp only [hfd, q9, q10, q11]
      have hsu : ∀ p n, sucL (up M1 72 0 0) 6 p n = sucL M 6 p n := by
        intro p n
        have q84 : up M1 72 0 0 84 p = M 84 p := c1 84 p rfl
        have q87 : ∀ k, up M1 72 0 0 87 k = M 87 k := fun k => c1 87 k rfl
        have q82 : ∀ k, up M1 72 0 0 82 k = M 82 k := fun k => c1 82 k rfl
        unfold sucL fdL
        rw [q84]
        simp only [hfd, q87, q82]
      have hlk : ∀ p, lnkR (up M1 72 0 0) 80 p = lnkR M 80 p := by
        intro p
        show (if M1 82 p = 0 then M1 74 (M1 83 p).toNat else if M1 82 p = 1 then M1 83 p else 0) = (if M 82 p = 0 then M 74 (M 83 p).toNat else if M 82 p = 1 then M 83 p else 0)
        rw [c1 82 p rfl, c1 83 p rfl, c1 74 _ rfl]
      have hb : ∀ (f : Nat) (L : List (Nat × Int)) (t : Nat), bfs (up M1 72 0 0) 6 f L t = bfs M 6 f L t := by
        intro f
        induction f with
        | zero => intro L t; rfl
        | succ f ih =>
          intro L t
          cases he : L[t]? with
          | none => rw [bfs_none he, bfs_none he]
          | some e => rw [bfs_some he, bfs_some he, hsu, hlk, ih]
      refine ms_far (i := i) (Ct_fl h2) I2 (fun M3 w3 w25 => ⟨rfl, ⟨by omega, by have := N1.1; omega⟩, fun z4 => ?_⟩)
      rw [ert, hb] at w3
      have w3' : FaV M (bfs M 6 209 (prL (sc (-1) [] (rtL M 80))) 0) M3 := ⟨fun k e h => (w3.2.1 k e h).2, fun p hp hn => w3.2.2.1 p (by rw [e80]; exact hp) hn⟩
      have en : (p : Int) < M 80 0 := by rw [← c1 80 0 rfl]; exact hp
      have ep : M 81 p = (xs (x4 + 1).toNat).toInt := (c1 81 p rfl).symm.trans he
      have F3 : F80 M3 (up M1 72 0 0) := ⟨fun o k q1 q2 => w3.1 o k (fun z => q1 ⟨z.1, Or.inl z.2⟩) (by omega) (by omega) (by omega), w25, (w3.1 80 26 (by decide) (by decide) (by decide) (by decide)).trans (I2.sc.2 80 (Or.inl rfl)).2⟩
      have I3 := inv_keep i _ (inv_80 I2 F3)
      rcases hcase with ⟨p', h6, h7, h8⟩ | ⟨h6, h7⟩
      · have : p' = p := (ob_num ho).inj h6 en (h7.trans ep.symm)
        subst this
        have h9 : M3 96 ((p' : Nat) : Int).toNat - 1 = r := h8 M3 w3'
        rw [h9]
        exact ⟨hr, fun z5 => ⟨hr, z5, fun _ => next k n _ f (by omega) (by omega) I3, fun hne => absurd rfl hne⟩⟩
      · exact absurd ep (h6 p en)
    · rcases hcase with ⟨p', h6, h7, -⟩ | ⟨-, h7⟩
      · exact absurd ((c1 81 p' rfl).trans h7) (hno p' (by rw [c1 80 0 rfl]; exact h6))
      · exact hne h7
  refine cs_cellOf (i := i) (Ct_fl h1) a1 I1.ob (fun p hp he z => ?_) (fun hno z => ?_)
  · have en : (p : Int) < M 80 0 := by rw [← c1 80 0 rfl]; exact hp
    have ep : M 81 p = (xs (x4 + 1).toNat).toInt := (c1 81 p rfl).symm.trans he
    have e19 : M1 19 p = M 19 p := c1 19 p rfl
    obtain ⟨v, hv, h7, h8⟩ := hfar p en
    have hcp := R.2.1 p (by have := R.1; omega)
    rw [e19]
    refine ok_X9_stepsTo (Ct_fl h1) (fun G3 h3 => go_X9_stepsTo_0 h3 (cs_contains c62 (Ct_fl h3) ⟨by omega, by omega⟩ w1.1 (fun hs z5 => ⟨z5, fun h => absurd h (by decide), fun _ => ⟨hcp, fun z6 => ⟨z6, fun z7 => ⟨z7, fun z8 => ⟨⟨by omega, by omega⟩, fun _ => ?_⟩⟩⟩⟩⟩) (fun hs z5 => ⟨z5, fun _ => ⟨⟨by decide, by decide⟩, fun z6 => ⟨z6, fun z8 => ⟨⟨by omega, by omega⟩, fun _ => ?_⟩⟩⟩, fun h => absurd rfl h⟩)))
    · have e : M1 30 (M 19 p).toNat = v := by
        rcases h8 with h | h
        · exact h.2
        · exact absurd hs h.1
      rw [e]
      exact fin v hv (Or.inl ⟨p, en, ep, h7⟩)
    · have e : v = -1 := by
        rcases h8 with h | h
        · exact absurd h.1 hs
        · exact h.2
      rw [e] at h7
      exact fin (-1) ⟨by decide, by decide⟩ (Or.inl ⟨p, en, ep, h7⟩)
  · exact ok_X9_stepsTo (Ct_fl h1) (fun G3 h3 => go_X9_stepsTo_0 h3 (cs_contains c62 (Ct_fl h3) ⟨by decide, by decide⟩ w1.1 (fun hs => absurd hs.1 (by decide)) (fun hs z5 => ⟨z5, fun _ => ⟨⟨by decide, by decide⟩, fun z6 => ⟨z6, fun z8 => ⟨⟨by omega, by omega⟩, fun _ => fin (-1) z6 (Or.inr ⟨fun p hp he => hno p (by rw [c1 80 0 rfl]; exact hp) ((c1 81 p rfl).trans he), rfl⟩)⟩⟩⟩, fun h => absurd rfl h⟩)))
