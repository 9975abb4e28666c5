/-! ===== what the IMAGE asks for: the class reads it through ===== -/
section Iw2
variable {B : WB} {l : Launch} {X : va_W} {Q : Int → Mem → Prop} {j p k : Nat} {M N : Mem}
theorem cs_isHeadAt (hl : l.stackTraces = false) (hI : Inv j N) (hc : ImC M N) (hp : p + 1 < 400) (e : M 52 p = N 77 p) (e2 : M 52 (p + 1) = N 77 (p + 1)) (h1 : HdOk N p → Q 1 M) (h0 : ¬ HdOk N p → Q 0 M) : OkI B l md_X3_isHeadAt 0 0 [.ref (ad B 51), .int (I (p : Int))] X M Q NoX := by
  have e' : M 52 ((p : Int)).toNat = N 77 p := e
  have e2' : M 52 ((p : Int) + (1 : Int)).toNat = N 77 (p + 1) := by rw [show ((p : Int) + 1).toNat = p + 1 by omega]; exact e2
  have h14 : M 1 4 = N 72 1 := (hc.2 1 4 (by decide) (by decide)).trans hI.kd.1
  refine ok_X3_isHeadAt hl (fun G h => go_X3_isHeadAt_0 h ?_)
  unfold T_X3_isHeadAt_0
  rw [e', e2']
  unfold HdOk at h1 h0
  refine ⟨⟨by omega, by omega⟩, fun z => ⟨⟨by omega, by omega⟩, fun z2 => ⟨z, fun n0 => ⟨z, ⟨by decide, by decide⟩, fun n1 => ⟨z, ⟨by decide, by decide⟩, fun e2 => ⟨z2, fun hneg => ⟨Or.inl rfl, h0 (by omega)⟩, fun hge => ⟨z2, ⟨by decide, by decide⟩, fun hgt => ⟨Or.inl rfl, h0 (by omega)⟩, fun hle => ⟨Or.inr rfl, h1 (by omega)⟩⟩⟩, fun n2 => ⟨z, ⟨by decide, by decide⟩, fun n3 => ⟨Or.inl rfl, h0 (by omega)⟩, fun e3 => ⟨z2, fun hneg => ⟨Or.inl rfl, h0 (by omega)⟩, fun hge => ⟨z2, ⟨by decide, by decide⟩, fun hgt => ⟨Or.inl rfl, h0 (by omega)⟩, fun hle => ⟨Or.inr rfl, h1 (by omega)⟩⟩⟩⟩⟩, fun e1 => ⟨z2, fun hneg => ⟨Or.inl rfl, h0 (by omega)⟩, fun hge => ⟨z2, ⟨by decide, by decide⟩, fun hgt => ⟨Or.inl rfl, h0 (by omega)⟩, fun hle => ⟨Or.inr rfl, h1 (by omega)⟩⟩⟩⟩, fun e0 => ?_⟩⟩⟩
  by_cases hk : 0 ≤ N 77 (p + 1) ∧ N 77 (p + 1) < M 1 4
  · exact cs_has1 (Ct_fl h) z2 hk (fun _ => ⟨Or.inr rfl, h1 (by omega)⟩)
  · exact cs_has0 (Ct_fl h) z2 hk (fun _ => ⟨Or.inl rfl, h0 (by omega)⟩)
theorem imf_0 : imF N p = 0 ↔ N 77 p = 0 := by
  unfold imF
  by_cases e3 : N 77 p = 3
  · rw [if_pos e3]; omega
  · rw [if_neg e3]
theorem imf_2 : imF N p = 2 ↔ (N 77 p = 2 ∨ N 77 p = 3) := by
  unfold imF
  by_cases e3 : N 77 p = 3
  · rw [if_pos e3]; omega
  · rw [if_neg e3]; omega
set_option maxHeartbeats 1000000 in
theorem cs_isThingAt (hl : l.stackTraces = false) (hI : Inv j N) (hc : ImC M N) (hp : (p : Int) ≤ N 72 9) (h1 : TgOk N p → Q 1 M) (h0 : ¬ TgOk N p → Q 0 M) : OkI B l md_X3_isThingAt 0 0 [.ref (ad B 51), .int (I (p : Int))] X M Q NoX := by
  have hl9 := hI.im.2.1
  have e51 := hc.1.1
  have im : ∀ k : Nat, (k : Int) < N 72 9 → M 52 k = N 77 k := hc.1.2
  refine ok_X3_isThingAt hl (fun G h => go_X3_isThingAt_0 h ?_)
  unfold T_X3_isThingAt_0
  rw [e51]
  refine fun z => ⟨⟨by omega, by omega⟩, z, fun hge => ⟨Or.inl rfl, h0 (fun t => by have := t.1; omega)⟩, fun hlt => ?_⟩
  have e := im p (by omega)
  have e2 := im (p + 1) (by omega)
  have e0 := im 0 (by omega)
  refine cs_isHeadAt (Ct_fl h) hI hc (by omega) e e2 (fun hh z1 => ⟨z1, n10, fun _ => cs_sizeAt (Ct_fl h) hI hc (by omega) e e2 hh ?_⟩) (fun hh z1 => ⟨z1, fun _ => ⟨Or.inl rfl, h0 (fun t => hh t.2.1)⟩, n00⟩)
  have hs := hd_sz hI hh
  rw [e51]
  refine fun z2 z3 => ⟨⟨by omega, by omega⟩, z3, fun hle => cs_formAt (N := N) (Ct_fl h) (by omega) e (fun z4 => ?_), fun hgt => ⟨Or.inl rfl, h0 (fun t => by have := t.2.2.1; omega)⟩⟩
  have loop : ∀ (d t : Nat), (t : Int) + d = imS N p → (∀ k : Nat, k < t → NmOk N p k) → L_X3_isThingAt_44 G X (p : Int) (imF N p) (t : Int) M := by
    intro d
    induction d with
    | zero =>
      intro t ht hok
      refine go_X3_isThingAt_44 h (cs_sizeAt (Ct_fl h) hI hc (by omega) e e2 hh (fun z5 => ⟨⟨by omega, by omega⟩, z5, fun _ => ⟨Or.inr rfl, h1 ⟨by omega, hh, hle, fun k hk => hok k (by omega)⟩⟩, fun hlt => absurd hlt (by omega)⟩))
    | succ d ih =>
      intro t ht hok
      have ev : M 52 (p + 2 + t) = N 77 (p + 2 + t) := im _ (by omega)
      have eix : ((p : Int) + 2 + (t : Int)).toNat = p + 2 + t := by omega
      have go : NmOk N p t → L_X3_isThingAt_44 G X (p : Int) (imF N p) ((t : Int) + 1) M := fun hn => ih (t + 1) (by omega) (fun k hk => by
        by_cases hkt : k = t
        · subst hkt; exact hn
        · exact hok k (by omega))
      have no : ¬ NmOk N p t → Q 0 M := fun hn => h0 (fun tg => hn (tg.2.2.2 t (by omega)))
      have chk : ∀ s0 : Int, inR s0 → inR (N 77 (p + 2 + t)) → (NmOk N p t ↔ 0 ≤ N 77 (p + 2 + t) ∧ N 77 (p + 2 + t) ≤ s0) → (inR (0 : Int) ∧ ((0 : Int) ≠ 0 → L_X3_isThingAt_44 G X (p : Int) (imF N p) ((t : Int) + 1) M) ∧ ((0 : Int) = 0 → (inR (N 77 (p + 2 + t)) ∧ (N 77 (p + 2 + t) < 0 → (((0 : Int) = 0 ∨ (0 : Int) = 1) ∧ Q 0 M)) ∧ (0 ≤ N 77 (p + 2 + t) → (inR (N 77 (p + 2 + t)) ∧ inR s0 ∧ (N 77 (p + 2 + t) ≤ s0 → L_X3_isThingAt_44 G X (p : Int) (imF N p) ((t : Int) + 1) M) ∧ (s0 < N 77 (p + 2 + t) → (((0 : Int) = 0 ∨ (0 : Int) = 1) ∧ Q 0 M))))))) := fun s0 hs0 hx hiff =>
        ⟨inR0, fun hne => absurd rfl hne, fun _ => ⟨hx, fun hneg => ⟨Or.inl rfl, no (fun hn => by have := (hiff.mp hn).1; omega)⟩, fun hge => ⟨hx, hs0, fun hle2 => go (hiff.mpr ⟨hge, hle2⟩), fun hgt => ⟨Or.inl rfl, no (fun hn => by have := (hiff.mp hn).2; omega)⟩⟩⟩⟩
      have step : ∀ s0 : Int, inR s0 → inR (N 77 (p + 2 + t)) → (imF N p = 2 → s0 = 255) → (imF N p ≠ 2 → s0 = N 77 0) → L_X3_isThingAt_82 G X (p : Int) (imF N p) (t : Int) (N 77 (p + 2 + t)) s0 M := by
        intro s0 hs0 hx hs2 hs1
        refine go_X3_isThingAt_82 h ⟨z4, fun n0 => chk s0 hs0 hx ?_, fun he0 => cs_lengthAt (Ct_fl h) hI hc (by omega) e e2 hh (fun z6 => ⟨⟨by omega, by omega⟩, z6, fun hlt2 => chk s0 hs0 hx ?_, fun hge2 => ⟨inR1, fun _ => go ?_, fun h => absurd h (by decide)⟩⟩)⟩
        · have n0' : N 77 p ≠ 0 := fun z => n0 (imf_0.mpr z)
          have hh1 := hh.1
          unfold NmOk imL
          rw [if_neg n0']
          by_cases h2 : N 77 p = 1
          · have hi : imF N p = 1 := by unfold imF; rw [if_neg (by omega)]; exact h2
            have hS : imS N p = N 77 (p + 1) := by unfold imS nwS; rw [hi]; rfl
            rw [if_pos h2, hs1 (by omega)]
            exact ⟨fun z => z.1 (by omega), fun z => ⟨fun _ => z, fun z2 => absurd z2 (by omega)⟩⟩
          · rw [if_neg h2, hs2 (imf_2.mpr (by omega))]
            exact ⟨fun z => z.2 (by omega), fun z => ⟨fun z2 => absurd z2 (by omega), fun _ => z⟩⟩
        · have h77 := imf_0.mp he0
          have eL : nwL N (imF N p) (N 77 (p + 1)) = N 74 (N 77 (p + 1)).toNat := by unfold nwL; rw [if_pos he0]
          rw [eL] at hlt2
          unfold NmOk imL
          rw [if_pos h77, hs1 (by omega)]
          exact ⟨fun z => z.1 hlt2, fun z => ⟨fun _ => z, fun z2 => absurd z2 (by omega)⟩⟩
        · have h77 := imf_0.mp he0
          have eL : nwL N (imF N p) (N 77 (p + 1)) = N 74 (N 77 (p + 1)).toNat := by unfold nwL; rw [if_pos he0]
          rw [eL] at hge2
          unfold NmOk imL
          rw [if_pos h77]
          exact ⟨fun z => absurd z (by omega), fun z => absurd z (by omega)⟩
      refine go_X3_isThingAt_44 h (cs_sizeAt (Ct_fl h) hI hc (by omega) e e2 hh (fun z5 => ⟨⟨by omega, by omega⟩, z5, fun hge => absurd hge (by omega), fun _ => ⟨⟨by omega, by omega⟩, ?_⟩⟩))
      rw [eix, ev]
      refine fun z6 => ⟨z4, ⟨by decide, by decide⟩, fun n2 => ⟨⟨by decide, by decide⟩, ?_⟩, fun e2' => step 255 ⟨by decide, by decide⟩ z6 (fun _ => rfl) (fun hne => absurd e2' hne)⟩
      show inR (M 52 0) → L_X3_isThingAt_82 G X (p : Int) (imF N p) (t : Int) (N 77 (p + 2 + t)) (M 52 0) M
      rw [e0]
      exact fun z7 => step _ z7 z6 (fun e2' => absurd e2' n2) (fun _ => rfl)
  exact loop (imS N p).toNat 0 (by omega) (fun k hk => absurd hk (by omega))
end Iw2
