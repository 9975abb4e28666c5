/-! ===== what the IMAGE asks for: the reference ===== -/
section Iw4
variable {B : WB} {l : Launch} {X : va_W} {Q : Int → Mem → Prop} {j p k : Nat} {M N : Mem}
theorem ms_wrdI (hl : l.stackTraces = false) (hI : Inv j N) (hc : ImR M N) (hh : HdOk N p) (hq : Q (nwW N (imF N p) (N 77 (p + 1))) M) : OkI B l md_X13_words 0 0 [.ref (ad B 72), .int (I (imF N p)), .int (I (N 77 (p + 1)))] X M Q NoX := by
  have hf := hd_fm hh
  have ho := of_bd hI hf
  have hs := hd_sz hI hh
  have hF := hf.1
  refine ok_X13_words hl (fun G h => go_X13_words_0 h ⟨⟨by omega, by omega⟩, inR2, fun hne => ms_sizI (Ct_fl h) hI hc hh (fun z3 => ⟨⟨by omega, by omega⟩, ?_⟩), fun he => ⟨⟨by omega, by omega, by decide, by decide⟩, ⟨by omega, by omega⟩, ?_⟩⟩)
  · show Q (2 + imS N p) M
    unfold nwW at hq
    rw [if_neg hne] at hq
    exact hq
  · unfold nwW at hq
    rwa [if_pos he] at hq
theorem ms_isWritten (hl : l.stackTraces = false) (hI : Inv j N) (hc : ImR M N) (hp : (p : Int) ≤ N 72 9) (hm : inR (N 77 0)) (h1 : TgOk N p → Q 1 M) (h0 : ¬ TgOk N p → Q 0 M) : OkI B l md_X13_isWritten 0 0 [.ref (ad B 72), .int (I (p : Int)), .int (I (N 77 0))] X M Q NoX := by
  obtain ⟨c9, c77, c1, c74, c75⟩ := hc
  have hc : ImR M N := ⟨c9, c77, c1, c74, c75⟩
  have hl9 := hI.im.2.1
  have hkd := hI.kd.2.1
  refine ok_X13_isWritten hl (fun G h => go_X13_isWritten_0 h ?_)
  unfold T_X13_isWritten_0
  have e' : M 77 ((p : Int)).toNat = N 77 p := c77 p
  have e2' : M 77 ((p : Int) + (1 : Int)).toNat = N 77 (p + 1) := by rw [show ((p : Int) + 1).toNat = p + 1 by omega]; exact c77 _
  rw [c9, e', e2']
  refine fun z => ⟨⟨by omega, by omega⟩, z, fun hle => ⟨⟨by omega, by omega⟩, fun z1 => ⟨⟨by omega, by omega⟩, fun z2 => ?_⟩⟩, fun hgt => ⟨Or.inl rfl, h0 (fun t => by have := t.1; omega)⟩⟩
  -- behind the bounds of the second number
  have l66 : ∀ s0 : Int, inR s0 → (0 ≤ N 77 p ∧ N 77 p ≤ 3) → (HdOk N p ↔ 0 ≤ N 77 (p + 1) ∧ N 77 (p + 1) ≤ s0) → L_X13_isWritten_66 G X (p : Int) (N 77 0) (N 77 p) (N 77 (p + 1)) s0 0 (N 77 (p + 1)) M := by
    intro s0 hs0 h3 hiff
    refine go_X13_isWritten_66 h ?_
    by_cases hh : HdOk N p
    · have hb := hiff.mp hh
      have hs := hd_sz hI hh
      refine ms_isIn1 (Ct_fl h) z2 inR0 hs0 hb (fun z3 => ⟨z3, fun _ => ⟨z1, inR2, ?_⟩, n10⟩)
      rw [imf_min h3.2]
      refine ms_sizI (Ct_fl h) hI hc hh (fun z4 => ?_)
      rw [c9]
      refine fun z5 => ⟨⟨by omega, by omega⟩, z5, fun hle2 => ?_, fun hgt => ⟨Or.inl rfl, h0 (fun t => by have := t.2.2.1; omega)⟩⟩
      have eL : (if N 77 p = 0 then M 74 (N 77 (p + 1)).toNat else if N 77 p = 1 then N 77 (p + 1) else 0) = imL N p := by
        rw [c74]; rfl
      refine ms_linksOf (Ct_fl h) z1 z2 (fun e0 => ?_) ?_
      · have := hh.2.2.1 e0
        omega
      · rw [eL]
        intro z6
        have loop : ∀ (d t : Nat), (t : Int) + d = imS N p → (∀ k : Nat, k < t → NmOk N p k) → L_X13_isWritten_114 G X (p : Int) (N 77 0) (N 77 p) (imS N p) (imL N p) (t : Int) M := by
          intro d
          induction d with
          | zero =>
            intro t ht hok
            exact go_X13_isWritten_114 h ⟨⟨by omega, by omega⟩, ⟨by omega, by omega⟩, fun _ => ⟨Or.inr rfl, h1 ⟨by omega, hh, hle2, fun k hk => hok k (by omega)⟩⟩, fun hlt => absurd hlt (by omega)⟩
          | succ d ih =>
            intro t ht hok
            have eix : ((p : Int) + (2 : Int) + (t : Int)).toNat = p + 2 + t := by omega
            have go : NmOk N p t → L_X13_isWritten_114 G X (p : Int) (N 77 0) (N 77 p) (imS N p) (imL N p) ((t : Int) + 1) M := fun hn => ih (t + 1) (by omega) (fun k hk => by
              by_cases hkt : k = t
              · subst hkt; exact hn
              · exact hok k (by omega))
            have no : ¬ NmOk N p t → Q 0 M := fun hn => h0 (fun tg => hn (tg.2.2.2 t (by omega)))
            refine go_X13_isWritten_114 h ?_
            unfold T_X13_isWritten_114
            rw [eix, c77]
            have tail : inR (N 77 (p + 2 + t)) → ((t : Int) < imL N p → 0 ≤ N 77 (p + 2 + t) ∧ N 77 (p + 2 + t) ≤ N 77 0) → (inR (N 77 p) ∧ inR (2 : Int) ∧ (N 77 p < 2 → L_X13_isWritten_114 G X (p : Int) (N 77 0) (N 77 p) (imS N p) (imL N p) ((t : Int) + 1) M) ∧ ((2 : Int) ≤ N 77 p → OkI (gB G) (gl G) md_X13_isIn 0 0 [.int (I (N 77 (p + 2 + t))), .int (I (0 : Int)), .int (I (255 : Int))] X M (fun r162 M1 => inR r162 → (inR r162 ∧ (r162 ≠ 0 → L_X13_isWritten_114 G X (p : Int) (N 77 0) (N 77 p) (imS N p) (imL N p) ((t : Int) + 1) M1) ∧ (r162 = 0 → (((0 : Int) = 0 ∨ (0 : Int) = 1) ∧ Q 0 M1)))) NoX)) := by
              intro z7 hlk
              refine ⟨z1, inR2, fun hlt2 => go ⟨hlk, fun z => absurd z (by omega)⟩, fun hge2 => ?_⟩
              by_cases hv : 0 ≤ N 77 (p + 2 + t) ∧ N 77 (p + 2 + t) ≤ 255
              · exact ms_isIn1 (Ct_fl h) z7 inR0 ⟨by decide, by decide⟩ hv (fun z8 => ⟨z8, fun _ => go ⟨hlk, fun _ => hv⟩, n10⟩)
              · exact ms_isIn0 (Ct_fl h) z7 inR0 ⟨by decide, by decide⟩ hv (fun z8 => ⟨z8, fun hne => absurd rfl hne, fun _ => ⟨Or.inl rfl, no (fun hn => hv (hn.2 hge2))⟩⟩)
            refine ⟨⟨by omega, by omega⟩, ⟨by omega, by omega⟩, fun hge => absurd hge (by omega), fun _ => ⟨⟨by omega, by omega⟩, fun z7 => ⟨⟨by omega, by omega⟩, z6, fun hge => tail z7 (fun z => absurd z (by omega)), fun hlt => ?_⟩⟩⟩
            by_cases hv : 0 ≤ N 77 (p + 2 + t) ∧ N 77 (p + 2 + t) ≤ N 77 0
            · exact ms_isIn1 (Ct_fl h) z7 inR0 hm hv (fun z8 => ⟨z8, n10, fun _ => tail z7 (fun _ => hv)⟩)
            · exact ms_isIn0 (Ct_fl h) z7 inR0 hm hv (fun z8 => ⟨z8, fun _ => ⟨Or.inl rfl, no (fun hn => hv (hn.1 hlt))⟩, n00⟩)
        exact loop (imS N p).toNat 0 (by omega) (fun k hk => absurd hk (by omega))
    · exact ms_isIn0 (Ct_fl h) z2 inR0 hs0 (fun z => hh (hiff.mpr z)) (fun z3 => ⟨z3, fun hne => absurd rfl hne, fun _ => ⟨Or.inl rfl, h0 (fun t => hh t.2.1)⟩⟩)
  by_cases h3 : 0 ≤ N 77 p ∧ N 77 p ≤ 3
  · refine ms_isIn1 (Ct_fl h) z1 inR0 ⟨by decide, by decide⟩ h3 (fun z3 => ⟨z3, n10, fun _ => ⟨z1, fun n0 => ⟨z1, inR1, fun n1 => l66 120 ⟨by decide, by decide⟩ h3 ?_, fun e1 => l66 40 ⟨by decide, by decide⟩ h3 ?_⟩, fun e0 => ?_⟩⟩)
    · unfold HdOk; omega
    · unfold HdOk; omega
    · rw [c1]
      exact fun z4 => l66 _ ⟨by omega, by omega⟩ h3 (by unfold HdOk; omega)
  · exact ms_isIn0 (Ct_fl h) z1 inR0 ⟨by decide, by decide⟩ h3 (fun z3 => ⟨z3, fun _ => ⟨Or.inl rfl, h0 (fun t => h3 t.2.1.1)⟩, n00⟩)
theorem ms_asked (hl : l.stackTraces = false) (hI : Inv j N) (hc : ImR M N) (hq : ∀ M', (∀ o k : Nat, o ≠ 78 → M' o k = M o k) → (ImOk N → ∀ i : Nat, (i : Int) < N 77 0 → M' 78 i = (imA N i : Int)) → Q (askV N) M') : OkI B l md_X13_asked 0 0 [.ref (ad B 72)] X M Q NoX := by
  obtain ⟨c9, c77, c1, c74, c75⟩ := hc
  have hl9 := hI.im.2.1
  have no : ∀ M', (∀ o k : Nat, o ≠ 78 → M' o k = M o k) → ¬ ImOk N → Q (-1) M' := fun M' g h => by
    have e : askV N = -1 := cnd_f h
    have := hq M' g (fun t => absurd t h)
    rwa [e] at this
  refine ok_X13_asked hl (fun G h => go_X13_asked_0 h ?_)
  unfold T_X13_asked_0
  rw [c9, show M 77 ((0 : Int)).toNat = N 77 0 from c77 0]
  -- none written
  have none : ∀ x1 : Int, inR x1 → x1 ≤ 0 → ¬ ImOk N → L_X13_asked_34 G X x1 (-1) 1 0 M := fun x1 hx1 hle hn => by
    refine go_X13_asked_34 h ?_
    unfold T_X13_asked_34
    rw [c9]
    refine ⟨inR0, hx1, fun _ z => ⟨inR1, z, fun _ => ⟨⟨by decide, by decide⟩, no M (fun _ _ _ => rfl) hn⟩, fun _ => ⟨⟨by decide, by decide⟩, no M (fun _ _ _ => rfl) hn⟩⟩, fun hlt => absurd hlt (by omega)⟩
  refine fun z => ⟨z, fun hne => ⟨⟨by decide, by decide⟩, fun z1 => ⟨z1, inR1, fun hge => ?_, fun hlt => none _ z1 (by omega) (fun t => by have := t.2.1; omega)⟩⟩, fun h0 => ⟨inR0, inR1, fun hge => absurd hge (by decide), fun _ => none 0 inR0 (Int.le_refl 0) (fun t => t.1 h0)⟩⟩
  have loop : ∀ (d i : Nat) (M1 : Mem), (i : Int) + d = N 77 0 → (∀ i', i' < i → TgOk N (imA N i')) → (∀ o k : Nat, o ≠ 78 → M1 o k = M o k) → (∀ i', i' < i → M1 78 i' = (imA N i' : Int)) → L_X13_asked_34 G X (N 77 0) (imX N i) (imA N i : Int) (i : Int) M1 := by
    intro d
    induction d with
    | zero =>
      intro i M1 hi hok g g78
      have hp := im_pre hI (by omega) i hok
      have ei : (N 77 0).toNat = i := by omega
      refine go_X13_asked_34 h ?_
      unfold T_X13_asked_34
      rw [show M1 72 9 = N 72 9 from (g 72 9 (by decide)).trans c9]
      refine ⟨⟨by omega, by omega⟩, z1, fun _ z4 => ⟨⟨by omega, by omega⟩, z4, fun hne2 => ⟨⟨by decide, by decide⟩, no M1 g (fun t => hne2 (by rw [← ei]; exact t.2.2.2))⟩, fun he => ⟨⟨by omega, by omega⟩, ?_⟩⟩, fun hlt => absurd hlt (by omega)⟩
      have e : askV N = imX N (N 77 0).toNat := cnd_t ⟨by omega, hge, fun i' hi' => hok i' (by omega), by rw [ei]; exact he⟩
      have := hq M1 g (fun _ i' hi' => g78 i' (by omega))
      rw [e, ei] at this
      exact this
    | succ d ih =>
      intro i M1 hi hok g g78
      have hp := im_pre hI (by omega) i hok
      have hc1 : ImR M1 N := ⟨(g 72 9 (by decide)).trans c9, fun k => (g 77 k (by decide)).trans (c77 k), (g 72 1 (by decide)).trans c1, fun k => (g 74 k (by decide)).trans (c74 k), fun k => (g 75 k (by decide)).trans (c75 k)⟩
      refine go_X13_asked_34 h ?_
      unfold T_X13_asked_34
      refine ⟨⟨by omega, by omega⟩, z1, fun hge2 => absurd hge2 (by omega), fun _ => ⟨⟨by omega, by omega⟩, ⟨by decide, by decide⟩, fun he => absurd he (by omega), fun _ => ms_isWritten (Ct_fl h) hI hc1 hp.2.1 z1 (fun t z4 => ⟨z4, fun _ => ?_, fun he => absurd he (by decide)⟩) (fun t z4 => ⟨z4, fun hne2 => absurd rfl hne2, fun _ => ⟨⟨by decide, by decide⟩, no M1 g (fun tt => t (tt.2.2.1 i (by omega)))⟩⟩)⟩⟩
      have t1 := t.1
      have hh := t.2.1
      have hs := hd_sz hI hh
      have h3 := hh.1
      have hi200 : i < 400 := by omega
      refine ⟨⟨by omega, by omega⟩, ?_⟩
      rw [show M1 77 ((imA N i : Int)).toNat = N 77 (imA N i) from hc1.2.1 _, imf_min h3.2]
      refine fun z5 => ⟨z5, inR2, ⟨by omega, by omega⟩, ⟨by omega, by omega⟩, fun M2 e2 => ⟨⟨by omega, by omega⟩, ?_⟩⟩
      have g2 : ∀ o k : Nat, o ≠ 78 → M2 o k = M1 o k := fun o k ho => by rw [e2, up_ne (fun z => ho z.1)]
      have hc2 : ImR M2 N := ⟨(g2 72 9 (by decide)).trans hc1.1, fun k => (g2 77 k (by decide)).trans (hc1.2.1 k), (g2 72 1 (by decide)).trans hc1.2.2.1, fun k => (g2 74 k (by decide)).trans (hc1.2.2.2.1 k), fun k => (g2 75 k (by decide)).trans (hc1.2.2.2.2 k)⟩
      have e77 : M2 77 ((imA N i : Int) + (1 : Int)).toNat = N 77 (imA N i + 1) := by rw [show ((imA N i : Int) + 1).toNat = imA N i + 1 by omega]; exact hc2.2.1 _
      rw [e77]
      refine fun z6 => ms_wrdI (Ct_fl h) hI hc2 hh (fun z7 => ⟨⟨by omega, by omega⟩, ?_⟩)
      rw [e77]
      refine fun _ => ms_sizI (Ct_fl h) hI hc2 hh (fun z8 => ?_)
      have nx := ih (i + 1) M2 (by omega) (fun i' hi' => by
        by_cases hii : i' = i
        · subst hii; exact t
        · exact hok i' (by omega)) (fun o k ho => (g2 o k ho).trans (g o k ho)) (fun i' hi' => by
        by_cases hii : i' = i
        · subst hii
          rw [e2]
          exact up_s _ _ _ _
        · rw [e2]
          show up M1 78 i (imA N i : Int) 78 i' = _
          rw [up_k hii]
          exact g78 i' (by omega))
      have eA : ((imA N (i + 1) : Nat) : Int) = (imA N i : Int) + (2 + imS N (imA N i)) := by
        show ((imA N i + 2 + (imS N (imA N i)).toNat : Nat) : Int) = _
        omega
      rw [eA] at nx
      exact nx
  exact loop (N 77 0).toNat 0 M (by omega) (fun i' hi => absurd hi (by omega)) (fun _ _ _ => rfl) (fun i' hi => absurd hi (by omega))
end Iw4
