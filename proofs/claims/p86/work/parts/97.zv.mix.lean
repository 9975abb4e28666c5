/-! ===== the digest: what is mixed, and the class's mixing ===== -/
def mx1 (s : Int64) (x : Int) : Int64 := (s * (31 : Int64)) + (I x).toInt64
def mxL : Int64 → List Int → Int64
  | s, [] => s
  | s, x :: r => mxL (mx1 s x) r
def pfx (g : Nat → List Int) : Nat → Int64 → Int64
  | 0, s => s
  | x + 1, s => mxL (pfx g x s) (g x)
noncomputable def mvM (M : Mem) : List Int := [M 80 6, wd M, M 72 1, M 80 0, M 80 0 - manS M 80 1 (M 80 0).toNat, awS M 80 0 (M 80 0).toNat, awS M 80 1 (M 80 0).toNat, M 80 2, M 80 7, M 80 8, manS M 80 4 (M 80 0).toNat, M 80 3, M 80 4, M 72 10, M 80 5, dmN M 2, dmN M 3]
def svN : List Int := [-1, -1, -1, -1, 0, -1, 0, 0, 0, 0, -1]
def svP (M : Mem) (p : Nat) : List Int := [M 81 p, M 82 p, if M 82 p = 0 then M 83 p else -1, if M 82 p = 0 then M 74 (M 83 p).toNat else M 83 p, wrdR M 80 p, M 85 p, if band (M 86 p) 1 = 0 then 0 else 1, if band (M 86 p) 2 = 0 then 0 else 1, if band (M 86 p) 4 = 0 then 0 else 1, if (3 ≤ M 82 p ∧ M 82 p ≤ 5) ∧ M 87 (M 84 p).toNat = -1 then 1 else 0, if M 82 p = 6 then entS M p (M 83 p).toNat else -1]
noncomputable def svW (P : Nat → Prop) (f : Nat → List Int) : List Int := @dite _ (∃ p, P p) (Classical.propDecidable _) (fun h => f (Classical.choose h)) (fun _ => svN)
noncomputable def sv (M : Mem) (x : Nat) : List Int := svW (fun p => (p : Int) < M 80 0 ∧ M 81 p = M 89 (sx M x)) (svP M)
def dsL (L : List (Nat × Int)) (p : Nat) : Int := match L.find? (fun e => e.1 == p) with
  | some e => e.2
  | none => -1
noncomputable def obL (M : Mem) (p : Nat) : List Int := [M 81 p, @ite _ (Cl M 80 0 (-1) (fun q => Hrt M 80 q ∧ (q : Int) ≠ -1) p) (Classical.propDecidable _) 1 0, dsL (bfs M 6 209 (prL (sc (-1) [] (rtL M 80))) 0) p]
noncomputable def dgV (M : Mem) : Int64 := pfx (fun k => [M 77 k]) (M 72 9).toNat (mx1 (pfx (obL M) (M 80 0).toNat (pfx (fun k => [M 89 (64 + k)]) 8 (pfx (sv M) (wd M).toNat (mxL (58002 : Int64) (mvM M))))) (M 72 9))
theorem i64_0 : (I 0).toInt64 = 0 := by decide
theorem i64_1 : (I 1).toInt64 = 1 := by decide
theorem sp01 {P : Int64 → Prop} {v : Int} (hv : v = 0 ∨ v = 1) (h : P (I v).toInt64) : (v = 0 → P 0) ∧ (v ≠ 0 → P 1) := by
  rcases hv with rfl | rfl
  · rw [i64_0] at h
    exact ⟨fun _ => h, fun k => absurd rfl k⟩
  · rw [i64_1] at h
    exact ⟨fun k => absurd k (by decide), fun _ => h⟩
section Mix
variable {B : WB} {l : Launch} {X : va_W} {M M' N : Mem} {Q : Int → Mem → Prop} {QL : Int64 → Mem → Prop} {i p : Nat} {a : Int} {s : Int64}
theorem cs_mix {x : Int} (hl : l.stackTraces = false) (hq : QL (mx1 s x) M) : OkL B l md_X11_mix 0 0 [.long s, .long (I x).toInt64] X M QL NoX :=
  ok_X11_mix hl (fun G h => go_X11_mix_0 h hq)
theorem sv_p (hI : Inv i M) {x : Nat} (hp : (p : Int) < M 80 0) (he : M 81 p = M 89 (sx M x)) : sv M x = svP M p := by
  unfold sv svW
  have h : ∃ q : Nat, (q : Int) < M 80 0 ∧ M 81 q = M 89 (sx M x) := ⟨p, hp, he⟩
  rw [dif_pos h]
  have h2 := Classical.choose_spec h
  rw [(ob_num hI.ob).inj h2.1 hp (h2.2.trans he.symm)]
theorem sv_n (hI : Inv i M) {x : Nat} (he : M 89 (sx M x) = -1) : sv M x = svN := by
  unfold sv svW
  rw [dif_neg]
  rintro ⟨q, h1, h2⟩
  have := (ob_num hI.ob).2.2 q h1
  have h3 : M (80 + 1) q = M 81 q := rfl
  omega
theorem cv_formOf (hl : l.stackTraces = false) (hI : Inv i M) (ha : inR a) (hg : 0 ≤ a ∧ a < wd M) (h0 : M 22 (sx M a) = -1 → Q (-1) M) (h1 : ∀ p : Nat, (p : Int) < M 80 0 → M 22 (sx M a) = M 19 p → M 89 (sx M a) = M 81 p → Q (M 82 p) M) : OkI B l md_X11_formOf 0 0 [.ref (ad B 0), .int (I a)] X M Q NoX := by
  have hf := hI.fr.fs
  have hw := hf.wd
  have ho := hI.ob
  have hcnt := ho.1
  rcases fr_slot hI.fr hg with ⟨e1, e2⟩ | ⟨p, hp, ec, en⟩
  · have k := h0 e1
    exact ok_X11_formOf hl (fun G h1 => go_X11_formOf_0 h1 (Or.inl (cs_needSlot_ok (Ct_fl h1) ha hf hg (cs_heldBy (Ct_fl h1) hf (by omega) (fun z => ⟨z, ⟨by decide, by decide⟩, fun hne => absurd e1 hne, fun _ => ⟨⟨by decide, by decide⟩, k⟩⟩)))))
  · have k := h1 p hp ec en
    have h4 := ho.2.2.2.1 p (by omega)
    have hO := ho.2.2.2.2.2.1 p hp
    have hne : M 22 (sx M a) ≠ -1 := by rw [ec]; omega
    have e : M 8 (M 22 (sx M a)).toNat = M 82 p := by
      rw [ec]
      exact hO.2.1
    rw [← e] at k
    exact ok_X11_formOf hl (fun G h1 => go_X11_formOf_0 h1 (Or.inl (cs_needSlot_ok (Ct_fl h1) ha hf hg (cs_heldBy (Ct_fl h1) hf (by omega) (fun z => ⟨z, ⟨by decide, by decide⟩, fun _ => ⟨by omega, fun z2 => ⟨z2, k⟩⟩, fun he => absurd he hne⟩)))))
theorem cv_ageOf (hl : l.stackTraces = false) (hI : Inv i M) (ha : inR a) (hg : 0 ≤ a ∧ a < wd M) (h0 : M 22 (sx M a) = -1 → Q (-1) M) (h1 : ∀ p : Nat, (p : Int) < M 80 0 → M 22 (sx M a) = M 19 p → M 89 (sx M a) = M 81 p → Q (M 85 p) M) : OkI B l md_X11_ageOf 0 0 [.ref (ad B 0), .int (I a)] X M Q NoX := by
  have hf := hI.fr.fs
  have hw := hf.wd
  have ho := hI.ob
  have hcnt := ho.1
  rcases fr_slot hI.fr hg with ⟨e1, e2⟩ | ⟨p, hp, ec, en⟩
  · have k := h0 e1
    exact ok_X11_ageOf hl (fun G h1 => go_X11_ageOf_0 h1 (Or.inl (cs_needSlot_ok (Ct_fl h1) ha hf hg (cs_heldBy (Ct_fl h1) hf (by omega) (fun z => ⟨z, ⟨by decide, by decide⟩, fun hne => absurd e1 hne, fun _ => ⟨⟨by decide, by decide⟩, k⟩⟩)))))
  · have k := h1 p hp ec en
    have h4 := ho.2.2.2.1 p (by omega)
    have hO := ho.2.2.2.2.2.1 p hp
    have hne : M 22 (sx M a) ≠ -1 := by rw [ec]; omega
    have e : M 13 (M 22 (sx M a)).toNat = M 85 p := by
      rw [ec]
      exact hO.2.2.2.2.2.2.2.2.2.2.2.2.1
    rw [← e] at k
    exact ok_X11_ageOf hl (fun G h1 => go_X11_ageOf_0 h1 (Or.inl (cs_needSlot_ok (Ct_fl h1) ha hf hg (cs_heldBy (Ct_fl h1) hf (by omega) (fun z => ⟨z, ⟨by decide, by decide⟩, fun _ => ⟨by omega, fun z2 => ⟨z2, k⟩⟩, fun he => absurd he hne⟩)))))
theorem cv_kindOf (hl : l.stackTraces = false) (hI : Inv i M) (ha : inR a) (hg : 0 ≤ a ∧ a < wd M) (h0 : M 22 (sx M a) = -1 → Q (-1) M) (h1 : ∀ p : Nat, (p : Int) < M 80 0 → M 22 (sx M a) = M 19 p → M 89 (sx M a) = M 81 p → Q (if M 82 p = 0 then M 83 p else -1) M) : OkI B l md_X11_kindOf 0 0 [.ref (ad B 0), .int (I a)] X M Q NoX := by
  have hf := hI.fr.fs
  have hw := hf.wd
  have ho := hI.ob
  have hcnt := ho.1
  rcases fr_slot hI.fr hg with ⟨e1, e2⟩ | ⟨p, hp, ec, en⟩
  · have k := h0 e1
    exact ok_X11_kindOf hl (fun G h1 => go_X11_kindOf_0 h1 (Or.inl (cs_needSlot_ok (Ct_fl h1) ha hf hg (cs_heldBy (Ct_fl h1) hf (by omega) (fun z => ⟨z, ⟨by decide, by decide⟩, fun hne => absurd e1 hne, fun _ => ⟨⟨by decide, by decide⟩, k⟩⟩)))))
  · have k := h1 p hp ec en
    have h4 := ho.2.2.2.1 p (by omega)
    have hO := ho.2.2.2.2.2.1 p hp
    have hne : M 22 (sx M a) ≠ -1 := by rw [ec]; omega
    have e : M 9 (M 22 (sx M a)).toNat = if M 82 p = 0 then M 83 p else -1 := by
      rw [ec]
      split
      · rename_i h; exact (hO.2.2.1 h).1.1
      · rename_i h; exact (hO.2.2.2.1 h).1
    rw [← e] at k
    exact ok_X11_kindOf hl (fun G h1 => go_X11_kindOf_0 h1 (Or.inl (cs_needSlot_ok (Ct_fl h1) ha hf hg (cs_heldBy (Ct_fl h1) hf (by omega) (fun z => ⟨z, ⟨by decide, by decide⟩, fun _ => ⟨by omega, fun z2 => ⟨z2, k⟩⟩, fun he => absurd he hne⟩)))))
theorem cv_lengthOf (hl : l.stackTraces = false) (hI : Inv i M) (ha : inR a) (hg : 0 ≤ a ∧ a < wd M) (h0 : M 22 (sx M a) = -1 → Q (-1) M) (h1 : ∀ p : Nat, (p : Int) < M 80 0 → M 22 (sx M a) = M 19 p → M 89 (sx M a) = M 81 p → Q (if M 82 p = 0 then M 74 (M 83 p).toNat else M 83 p) M) : OkI B l md_X11_lengthOf 0 0 [.ref (ad B 0), .int (I a)] X M Q NoX := by
  have hf := hI.fr.fs
  have hw := hf.wd
  have ho := hI.ob
  have hcnt := ho.1
  rcases fr_slot hI.fr hg with ⟨e1, e2⟩ | ⟨p, hp, ec, en⟩
  · have k := h0 e1
    exact ok_X11_lengthOf hl (fun G h1 => go_X11_lengthOf_0 h1 (Or.inl (cs_needSlot_ok (Ct_fl h1) ha hf hg (cs_heldBy (Ct_fl h1) hf (by omega) (fun z => ⟨z, ⟨by decide, by decide⟩, fun hne => absurd e1 hne, fun _ => ⟨⟨by decide, by decide⟩, k⟩⟩)))))
  · have k := h1 p hp ec en
    have h4 := ho.2.2.2.1 p (by omega)
    have hO := ho.2.2.2.2.2.1 p hp
    have hne : M 22 (sx M a) ≠ -1 := by rw [ec]; omega
    have e : M 10 (M 22 (sx M a)).toNat = if M 82 p = 0 then M 74 (M 83 p).toNat else M 83 p := by
      rw [ec]
      split
      · rename_i h; exact (hO.2.2.1 h).1.2
      · rename_i h; exact (hO.2.2.2.1 h).2
    rw [← e] at k
    exact ok_X11_lengthOf hl (fun G h1 => go_X11_lengthOf_0 h1 (Or.inl (cs_needSlot_ok (Ct_fl h1) ha hf hg (cs_heldBy (Ct_fl h1) hf (by omega) (fun z => ⟨z, ⟨by decide, by decide⟩, fun _ => ⟨by omega, fun z2 => ⟨z2, k⟩⟩, fun he => absurd he hne⟩)))))
theorem cv_wordsOf (hl : l.stackTraces = false) (hI : Inv i M) (ha : inR a) (hg : 0 ≤ a ∧ a < wd M) (h0 : M 22 (sx M a) = -1 → Q (0) M) (h1 : ∀ p : Nat, (p : Int) < M 80 0 → M 22 (sx M a) = M 19 p → M 89 (sx M a) = M 81 p → Q (wrdR M 80 p) M) : OkI B l md_X11_wordsOf 0 0 [.ref (ad B 0), .int (I a)] X M Q NoX := by
  have hf := hI.fr.fs
  have hw := hf.wd
  have ho := hI.ob
  have hcnt := ho.1
  rcases fr_slot hI.fr hg with ⟨e1, e2⟩ | ⟨p, hp, ec, en⟩
  · have k := h0 e1
    exact ok_X11_wordsOf hl (fun G h1 => go_X11_wordsOf_0 h1 (Or.inl (cs_needSlot_ok (Ct_fl h1) ha hf hg (cs_heldBy (Ct_fl h1) hf (by omega) (fun z => ⟨z, ⟨by decide, by decide⟩, fun hne => absurd e1 hne, fun _ => ⟨inR0, k⟩⟩)))))
  · have k := h1 p hp ec en
    have h4 := ho.2.2.2.1 p (by omega)
    have hO := ho.2.2.2.2.2.1 p hp
    have hne : M 22 (sx M a) ≠ -1 := by rw [ec]; omega
    have e : M 11 (M 22 (sx M a)).toNat = wrdR M 80 p := by
      rw [ec]
      exact hO.2.2.2.2.2.2.2.2.2.1
    rw [← e] at k
    exact ok_X11_wordsOf hl (fun G h1 => go_X11_wordsOf_0 h1 (Or.inl (cs_needSlot_ok (Ct_fl h1) ha hf hg (cs_heldBy (Ct_fl h1) hf (by omega) (fun z => ⟨z, ⟨by decide, by decide⟩, fun _ => ⟨by omega, fun z2 => ⟨z2, k⟩⟩, fun he => absurd he hne⟩)))))
theorem cv_isOld (hl : l.stackTraces = false) (hI : Inv i M) (ha : inR a) (hg : 0 ≤ a ∧ a < wd M) (h0 : M 22 (sx M a) = -1 → Q (0) M) (h1 : ∀ p : Nat, (p : Int) < M 80 0 → M 22 (sx M a) = M 19 p → M 89 (sx M a) = M 81 p → Q (if band (M 86 p) 1 = 0 then 0 else 1) M) : OkI B l md_X11_isOld 0 0 [.ref (ad B 0), .int (I a)] X M Q NoX := by
  have hf := hI.fr.fs
  have hw := hf.wd
  have ho := hI.ob
  have hcnt := ho.1
  rcases fr_slot hI.fr hg with ⟨e1, e2⟩ | ⟨p, hp, ec, en⟩
  · have k := h0 e1
    exact ok_X11_isOld hl (fun G h1 => go_X11_isOld_0 h1 (Or.inl (cs_needSlot_ok (Ct_fl h1) ha hf hg (cs_heldBy (Ct_fl h1) hf (by omega) (fun z => ⟨z, ⟨by decide, by decide⟩, fun _ => ⟨Or.inl rfl, k⟩, fun hne => absurd e1 hne⟩)))))
  · have k := h1 p hp ec en
    have h4 := ho.2.2.2.1 p (by omega)
    have hO := ho.2.2.2.2.2.1 p hp
    have hne : M 22 (sx M a) ≠ -1 := by rw [ec]; omega
    exact ok_X11_isOld hl (fun G h1 => go_X11_isOld_0 h1 (Or.inl (cs_needSlot_ok (Ct_fl h1) ha hf hg (cs_heldBy (Ct_fl h1) hf (by omega) (fun z => ⟨z, ⟨by decide, by decide⟩, fun he => absurd he hne, fun _ => ⟨by omega, fun z2 => ⟨z2, fun h0 => ⟨Or.inl rfl, by rw [ec] at h0; rwa [if_pos ((flag_1 hI hp).mpr h0)] at k⟩, fun h0 => ⟨Or.inr rfl, by rw [ec] at h0; rwa [if_neg (fun h => h0 ((flag_1 hI hp).mp h))] at k⟩⟩⟩⟩)))))
theorem cv_isFinalized (hl : l.stackTraces = false) (hI : Inv i M) (ha : inR a) (hg : 0 ≤ a ∧ a < wd M) (h0 : M 22 (sx M a) = -1 → Q (0) M) (h1 : ∀ p : Nat, (p : Int) < M 80 0 → M 22 (sx M a) = M 19 p → M 89 (sx M a) = M 81 p → Q (if band (M 86 p) 2 = 0 then 0 else 1) M) : OkI B l md_X11_isFinalized 0 0 [.ref (ad B 0), .int (I a)] X M Q NoX := by
  have hf := hI.fr.fs
  have hw := hf.wd
  have ho := hI.ob
  have hcnt := ho.1
  rcases fr_slot hI.fr hg with ⟨e1, e2⟩ | ⟨p, hp, ec, en⟩
  · have k := h0 e1
    exact ok_X11_isFinalized hl (fun G h1 => go_X11_isFinalized_0 h1 (Or.inl (cs_needSlot_ok (Ct_fl h1) ha hf hg (cs_heldBy (Ct_fl h1) hf (by omega) (fun z => ⟨z, ⟨by decide, by decide⟩, fun _ => ⟨Or.inl rfl, k⟩, fun hne => absurd e1 hne⟩)))))
  · have k := h1 p hp ec en
    have h4 := ho.2.2.2.1 p (by omega)
    have hO := ho.2.2.2.2.2.1 p hp
    have hne : M 22 (sx M a) ≠ -1 := by rw [ec]; omega
    exact ok_X11_isFinalized hl (fun G h1 => go_X11_isFinalized_0 h1 (Or.inl (cs_needSlot_ok (Ct_fl h1) ha hf hg (cs_heldBy (Ct_fl h1) hf (by omega) (fun z => ⟨z, ⟨by decide, by decide⟩, fun he => absurd he hne, fun _ => ⟨by omega, fun z2 => ⟨z2, fun h0 => ⟨Or.inl rfl, by rw [ec] at h0; rwa [if_pos ((flag_2 hI hp).mpr h0)] at k⟩, fun h0 => ⟨Or.inr rfl, by rw [ec] at h0; rwa [if_neg (fun h => h0 ((flag_2 hI hp).mp h))] at k⟩⟩⟩⟩)))))
theorem cv_isInterned (hl : l.stackTraces = false) (hI : Inv i M) (ha : inR a) (hg : 0 ≤ a ∧ a < wd M) (h0 : M 22 (sx M a) = -1 → Q (0) M) (h1 : ∀ p : Nat, (p : Int) < M 80 0 → M 22 (sx M a) = M 19 p → M 89 (sx M a) = M 81 p → Q (if band (M 86 p) 4 = 0 then 0 else 1) M) : OkI B l md_X11_isInterned 0 0 [.ref (ad B 0), .int (I a)] X M Q NoX := by
  have hf := hI.fr.fs
  have hw := hf.wd
  have ho := hI.ob
  have hcnt := ho.1
  rcases fr_slot hI.fr hg with ⟨e1, e2⟩ | ⟨p, hp, ec, en⟩
  · have k := h0 e1
    exact ok_X11_isInterned hl (fun G h1 => go_X11_isInterned_0 h1 (Or.inl (cs_needSlot_ok (Ct_fl h1) ha hf hg (cs_heldBy (Ct_fl h1) hf (by omega) (fun z => ⟨z, ⟨by decide, by decide⟩, fun _ => ⟨Or.inl rfl, k⟩, fun hne => absurd e1 hne⟩)))))
  · have k := h1 p hp ec en
    have h4 := ho.2.2.2.1 p (by omega)
    have hO := ho.2.2.2.2.2.1 p hp
    have hne : M 22 (sx M a) ≠ -1 := by rw [ec]; omega
    exact ok_X11_isInterned hl (fun G h1 => go_X11_isInterned_0 h1 (Or.inl (cs_needSlot_ok (Ct_fl h1) ha hf hg (cs_heldBy (Ct_fl h1) hf (by omega) (fun z => ⟨z, ⟨by decide, by decide⟩, fun he => absurd he hne, fun _ => ⟨by omega, fun z2 => ⟨z2, fun h0 => ⟨Or.inl rfl, by rw [ec] at h0; rwa [if_pos ((flag_4 hI hp).mpr h0)] at k⟩, fun h0 => ⟨Or.inr rfl, by rw [ec] at h0; rwa [if_neg (fun h => h0 ((flag_4 hI hp).mp h))] at k⟩⟩⟩⟩)))))
theorem cv_numberOf (hl : l.stackTraces = false) (hI : Inv i M) (ha : inR a) (hg : 0 ≤ a ∧ a < wd M) (hq : Q (M 89 (sx M a)) M) : OkI B l md_X11_numberOf 0 0 [.ref (ad B 0), .int (I a)] X M Q NoX := by
  have hf := hI.fr.fs
  have hw := hf.wd
  exact ok_X11_numberOf hl (fun G h1 => go_X11_numberOf_0 h1 (Or.inl (cs_needSlot_ok (Ct_fl h1) ha hf hg (cs_heldBy (Ct_fl h1) hf (by omega) (fun z => cs_nameOf (Ct_fl h1) hI.ob (fr_slot hI.fr hg) (fun z => ⟨z, hq⟩))))))
theorem cv_globalNumber (hl : l.stackTraces = false) (hI : Inv i M) (ha : inR a) (hg : 0 ≤ a ∧ a < 8) (hq : Q (M 89 (64 + a.toNat)) M) : OkI B l md_X11_globalNumber 0 0 [.ref (ad B 0), .int (I a)] X M Q NoX :=
  ok_X11_globalNumber hl (fun G h1 => go_X11_globalNumber_0 h1 (Or.inl (cs_needGlobal_ok (Ct_fl h1) ha hg ⟨hg, fun z => cs_nameOf (Ct_fl h1) hI.ob (hI.fr.2.2.2.2 a.toNat (by omega)) (fun z => ⟨z, hq⟩)⟩)))
theorem cv_isCleared (hl : l.stackTraces = false) (hI : Inv i M) (ha : inR a) (hg : 0 ≤ a ∧ a < wd M) (h0 : M 22 (sx M a) = -1 → Q 0 M) (h1 : ∀ p : Nat, (p : Int) < M 80 0 → M 22 (sx M a) = M 19 p → M 89 (sx M a) = M 81 p → Q (if (3 ≤ M 82 p ∧ M 82 p ≤ 5) ∧ M 87 (M 84 p).toNat = -1 then 1 else 0) M) : OkI B l md_X11_isCleared 0 0 [.ref (ad B 0), .int (I a)] X M Q NoX := by
  have hf := hI.fr.fs
  have hw := hf.wd
  have ho := hI.ob
  have hcnt := ho.1
  rcases fr_slot hI.fr hg with ⟨e1, e2⟩ | ⟨p, hp, ec, en⟩
  · have k := h0 e1
    exact ok_X11_isCleared hl (fun G h1 => go_X11_isCleared_0 h1 (Or.inl (cs_needSlot_ok (Ct_fl h1) ha hf hg (cs_heldBy (Ct_fl h1) hf (by omega) (fun z => ⟨z, ⟨by decide, by decide⟩, fun _ => ⟨Or.inl rfl, k⟩, fun hne => absurd e1 hne⟩)))))
  · have k := h1 p hp ec en
    have h4 := ho.2.2.2.1 p (by omega)
    have hO := ho.2.2.2.2.2.1 p hp
    have hne : M 22 (sx M a) ≠ -1 := by rw [ec]; omega
    have e8 : M 8 (M 22 (sx M a)).toNat = M 82 p := by rw [ec]; exact hO.2.1
    refine ok_X11_isCleared hl (fun G h1 => go_X11_isCleared_0 h1 (Or.inl (cs_needSlot_ok (Ct_fl h1) ha hf hg (cs_heldBy (Ct_fl h1) hf (by omega) (fun z => ⟨z, ⟨by decide, by decide⟩, fun he => absurd he hne, fun _ => cs_isReference (Ct_fl h1) (by omega) ?_⟩)))))
    rw [e8]
    by_cases hh : 3 ≤ M 82 p ∧ M 82 p ≤ 5
    · have hrf := ob_ref hI hp hh
      have hb2 := rf_inR hrf.1 ho
      have e12 : M 12 (M 22 (sx M a)).toNat = M 84 p := by rw [ec]; exact (at_in hI hp).2.2.2
      rw [if_pos hh]
      refine fun z1 => ⟨z1, n10, fun _ => cs_referentOf (Ct_fl h1) (by omega) (by rw [e12]; exact hrf.2) ?_⟩
      rw [e12]
      refine fun z2 => ⟨z2, ⟨by decide, by decide⟩, fun hne2 => ⟨Or.inl rfl, ?_⟩, fun he2 => ⟨Or.inr rfl, ?_⟩⟩
      · rwa [if_neg (fun h => hne2 (hb2.2.2.1.mpr h.2))] at k
      · rwa [if_pos ⟨hh, hb2.2.2.1.mp he2⟩] at k
    · rw [if_neg hh]
      refine fun z1 => ⟨z1, fun _ => ⟨Or.inl rfl, ?_⟩, n00⟩
      rwa [if_neg (fun h => hh h.1)] at k
theorem cv_entriesOf (hl : l.stackTraces = false) (hI : Inv i M) (ha : inR a) (hg : 0 ≤ a ∧ a < wd M) (h0 : M 22 (sx M a) = -1 → Q (-1) M) (h1 : ∀ p : Nat, (p : Int) < M 80 0 → M 22 (sx M a) = M 19 p → M 89 (sx M a) = M 81 p → Q (if M 82 p = 6 then entS M p (M 83 p).toNat else -1) M) : OkI B l md_X11_entriesOf 0 0 [.ref (ad B 0), .int (I a)] X M Q NoX := by
  have hf := hI.fr.fs
  have hw := hf.wd
  have R := inv_rep hI
  have hn := R.1
  rcases fr_slot hI.fr hg with ⟨e1, e2⟩ | ⟨p, hp, ec, en⟩
  · have k := h0 e1
    exact ok_X11_entriesOf hl (fun G h1 => go_X11_entriesOf_0 h1 (Or.inl (cs_needSlot_ok (Ct_fl h1) ha hf hg (cs_heldBy (Ct_fl h1) hf (by omega) (fun z => ⟨z, ⟨by decide, by decide⟩, fun _ => ⟨inR0, fun _ => ⟨⟨by decide, by decide⟩, k⟩, fun hne => absurd rfl hne⟩, fun hne => absurd e1 hne⟩)))))
  · have k := h1 p hp ec en
    have hc := R.2.1 p (by omega)
    have f1 : M 8 (M 19 p).toNat = M 82 p := (R.2.2.2.2.2 p hp).1
    refine ok_X11_entriesOf hl (fun G h1 => go_X11_entriesOf_0 h1 (Or.inl (cs_needSlot_ok (Ct_fl h1) ha hf hg (cs_heldBy (Ct_fl h1) hf (by omega) (fun z => ⟨z, ⟨by decide, by decide⟩, fun he => absurd he (by omega), fun _ => ?_⟩)))))
    rw [ec]
    refine ⟨hc, fun z2 => ⟨z2, ⟨by decide, by decide⟩, fun hne => ⟨inR0, fun _ => ⟨⟨by decide, by decide⟩, ?_⟩, fun hne => absurd rfl hne⟩, fun he => ⟨inR1, fun he => absurd he (by decide), fun _ => cs_countEntries (Ct_fl h1) hI hp (f1.symm.trans he) (fun z3 => ⟨z3, ?_⟩)⟩⟩⟩
    · rwa [if_neg (fun h => hne (f1.trans h))] at k
    · rwa [if_pos (f1.symm.trans he)] at k
theorem one_if {c : Prop} [Decidable c] : (if c then (0 : Int) else 1) = 0 ∨ (if c then (0 : Int) else 1) = 1 := by split; exact Or.inl rfl; exact Or.inr rfl
theorem one_fi {c : Prop} [Decidable c] : (if c then (1 : Int) else 0) = 0 ∨ (if c then (1 : Int) else 0) = 1 := by split; exact Or.inr rfl; exact Or.inl rfl
/-- one slot mixed -/
theorem cs_mixSlotV {v0 v1 v2 v3 v4 v5 v6 v7 v8 v9 v10 : Int} (hl : l.stackTraces = false) (h6 : v6 = 0 ∨ v6 = 1) (h7 : v7 = 0 ∨ v7 = 1) (h8 : v8 = 0 ∨ v8 = 1) (h9 : v9 = 0 ∨ v9 = 1)
    (c0 : ∀ {B l} {Q : Int → Mem → Prop}, l.stackTraces = false → Q v0 M → OkI B l md_X11_numberOf 0 0 [.ref (ad B 0), .int (I a)] X M Q NoX)
    (c1 : ∀ {B l} {Q : Int → Mem → Prop}, l.stackTraces = false → Q v1 M → OkI B l md_X11_formOf 0 0 [.ref (ad B 0), .int (I a)] X M Q NoX)
    (c2 : ∀ {B l} {Q : Int → Mem → Prop}, l.stackTraces = false → Q v2 M → OkI B l md_X11_kindOf 0 0 [.ref (ad B 0), .int (I a)] X M Q NoX)
    (c3 : ∀ {B l} {Q : Int → Mem → Prop}, l.stackTraces = false → Q v3 M → OkI B l md_X11_lengthOf 0 0 [.ref (ad B 0), .int (I a)] X M Q NoX)
    (c4 : ∀ {B l} {Q : Int → Mem → Prop}, l.stackTraces = false → Q v4 M → OkI B l md_X11_wordsOf 0 0 [.ref (ad B 0), .int (I a)] X M Q NoX)
    (c5 : ∀ {B l} {Q : Int → Mem → Prop}, l.stackTraces = false → Q v5 M → OkI B l md_X11_ageOf 0 0 [.ref (ad B 0), .int (I a)] X M Q NoX)
    (c6 : ∀ {B l} {Q : Int → Mem → Prop}, l.stackTraces = false → Q v6 M → OkI B l md_X11_isOld 0 0 [.ref (ad B 0), .int (I a)] X M Q NoX)
    (c7 : ∀ {B l} {Q : Int → Mem → Prop}, l.stackTraces = false → Q v7 M → OkI B l md_X11_isFinalized 0 0 [.ref (ad B 0), .int (I a)] X M Q NoX)
    (c8 : ∀ {B l} {Q : Int → Mem → Prop}, l.stackTraces = false → Q v8 M → OkI B l md_X11_isInterned 0 0 [.ref (ad B 0), .int (I a)] X M Q NoX)
    (c9 : ∀ {B l} {Q : Int → Mem → Prop}, l.stackTraces = false → Q v9 M → OkI B l md_X11_isCleared 0 0 [.ref (ad B 0), .int (I a)] X M Q NoX)
    (c10 : ∀ {B l} {Q : Int → Mem → Prop}, l.stackTraces = false → Q v10 M → OkI B l md_X11_entriesOf 0 0 [.ref (ad B 0), .int (I a)] X M Q NoX)
    (hq : QL (mxL s [v0, v1, v2, v3, v4, v5, v6, v7, v8, v9, v10]) M) : OkL B l md_X11_mixSlot 0 0 [.ref (ad B 0), .long s, .int (I a)] X M QL NoX := by
  refine ok_X11_mixSlot hl (fun G h => ?_)
  have f := Ct_fl h
  have last : L_X11_mixSlot_132 G X a (I v8).toInt64 (mxL s [v0, v1, v2, v3, v4, v5, v6, v7]) M := by
    refine go_X11_mixSlot_132 h (cs_mix f (c9 f (fun z => ⟨z, ?_⟩)))
    have k := fun t : Int64 => cs_mix (QL := fun r7 M2 => OkI (gB G) (gl G) md_X11_entriesOf 0 0 [.ref (ad (gB G) 0), .int (I a)] X M2 (fun r16 M3 => inR r16 → OkL (gB G) (gl G) md_X11_mix 0 0 [.long r7, .long ((I r16).toInt64)] X M3 (fun r20 M4 => QL r20 M4) NoX) NoX) (l := gl G) (B := gB G) (X := X) (M := M) (s := mxL s [v0, v1, v2, v3, v4, v5, v6, v7, v8]) (x := v9) f (c10 f (fun z => cs_mix f hq))
    exact sp01 (P := fun y => OkL (gB G) (gl G) md_X11_mix 0 0 [.long _, .long y] X M _ NoX) h9 (k 0)
  have mid : L_X11_mixSlot_92 G X a (I v6).toInt64 (mxL s [v0, v1, v2, v3, v4, v5]) M := by
    refine go_X11_mixSlot_92 h (cs_mix f (c7 f (fun z => ⟨z, ?_⟩)))
    have k := cs_mix (QL := fun r7 M2 => OkI (gB G) (gl G) md_X11_isInterned 0 0 [.ref (ad (gB G) 0), .int (I a)] X M2 (fun r16 M3 => inR r16 → (inR r16 ∧ (r16 = 0 → L_X11_mixSlot_132 G X a (0 : Int64) r7 M3) ∧ (r16 ≠ 0 → L_X11_mixSlot_132 G X a (1 : Int64) r7 M3))) NoX) (l := gl G) (B := gB G) (X := X) (M := M) (s := mxL s [v0, v1, v2, v3, v4, v5, v6]) (x := v7) f (c8 f (fun z => ⟨z, sp01 (P := fun y => L_X11_mixSlot_132 G X a y (mxL s [v0, v1, v2, v3, v4, v5, v6, v7]) M) h8 last⟩))
    exact sp01 (P := fun y => OkL (gB G) (gl G) md_X11_mix 0 0 [.long _, .long y] X M _ NoX) h7 k
  exact go_X11_mixSlot_0 h (c0 f (fun _ => cs_mix f (c1 f (fun _ => cs_mix f (c2 f (fun _ => cs_mix f (c3 f (fun _ => cs_mix f (c4 f (fun _ => cs_mix f (c5 f (fun _ => cs_mix f (c6 f (fun z => ⟨z, sp01 (P := fun y => L_X11_mixSlot_92 G X a y (mxL s [v0, v1, v2, v3, v4, v5]) M) h6 mid⟩))))))))))))))
theorem cs_mixSlot (hl : l.stackTraces = false) (hI : Inv i M) (hg : 0 ≤ a ∧ a < wd M) (hq : QL (mxL s (sv M a.toNat)) M) : OkL B l md_X11_mixSlot 0 0 [.ref (ad B 0), .long s, .int (I a)] X M QL NoX := by
  have ho := hI.ob
  have hw := hI.fr.fs.wd
  have ha : inR a := ⟨by omega, by omega⟩
  have esx : sx M (a.toNat : Int) = sx M a := by rw [show ((a.toNat : Nat) : Int) = a by omega]
  rcases fr_slot hI.fr hg with ⟨e1, e2⟩ | ⟨p, hp, ec, en⟩
  · rw [sv_n hI (by rw [esx]; exact e2)] at hq
    have no : ∀ {P : Prop} (p : Nat), (p : Int) < M 80 0 → M 22 (sx M a) = M 19 p → P := fun p hp e => absurd (e.symm.trans e1) (by have := ho.2.2.2.1 p (by have := ho.1; omega); omega)
    exact cs_mixSlotV hl (Or.inl rfl) (Or.inl rfl) (Or.inl rfl) (Or.inl rfl) (fun f k => cv_numberOf f hI ha hg (by rw [e2]; exact k)) (fun f k => cv_formOf f hI ha hg (fun _ => k) (fun p hp e _ => no p hp e)) (fun f k => cv_kindOf f hI ha hg (fun _ => k) (fun p hp e _ => no p hp e)) (fun f k => cv_lengthOf f hI ha hg (fun _ => k) (fun p hp e _ => no p hp e)) (fun f k => cv_wordsOf f hI ha hg (fun _ => k) (fun p hp e _ => no p hp e)) (fun f k => cv_ageOf f hI ha hg (fun _ => k) (fun p hp e _ => no p hp e)) (fun f k => cv_isOld f hI ha hg (fun _ => k) (fun p hp e _ => no p hp e)) (fun f k => cv_isFinalized f hI ha hg (fun _ => k) (fun p hp e _ => no p hp e)) (fun f k => cv_isInterned f hI ha hg (fun _ => k) (fun p hp e _ => no p hp e)) (fun f k => cv_isCleared f hI ha hg (fun _ => k) (fun p hp e _ => no p hp e)) (fun f k => cv_entriesOf f hI ha hg (fun _ => k) (fun p hp e _ => no p hp e)) hq
  · rw [sv_p hI hp (by rw [esx]; exact en.symm)] at hq
    have h4 := ho.2.2.2.1 p (by have := ho.1; omega)
    have no : ∀ {P : Prop}, M 22 (sx M a) = -1 → P := fun e => absurd (ec.symm.trans e) (by omega)
    have un : ∀ {P : Nat → Prop}, P p → ∀ q : Nat, (q : Int) < M 80 0 → M 22 (sx M a) = M 19 q → M 89 (sx M a) = M 81 q → P q := fun {P} k q hq _ e => by
      rw [(ob_num ho).inj hq hp (e.symm.trans en)]
      exact k
    exact cs_mixSlotV hl one_if one_if one_if one_fi (fun f k => cv_numberOf f hI ha hg (by rw [en]; exact k)) (fun {B l Q} f k => cv_formOf f hI ha hg no (un (P := fun q => Q (M 82 q) M) k)) (fun {B l Q} f k => cv_kindOf f hI ha hg no (un (P := fun q => Q (if M 82 q = 0 then M 83 q else -1) M) k)) (fun {B l Q} f k => cv_lengthOf f hI ha hg no (un (P := fun q => Q (if M 82 q = 0 then M 74 (M 83 q).toNat else M 83 q) M) k)) (fun {B l Q} f k => cv_wordsOf f hI ha hg no (un (P := fun q => Q (wrdR M 80 q) M) k)) (fun {B l Q} f k => cv_ageOf f hI ha hg no (un (P := fun q => Q (M 85 q) M) k)) (fun {B l Q} f k => cv_isOld f hI ha hg no (un (P := fun q => Q (if band (M 86 q) 1 = 0 then 0 else 1) M) k)) (fun {B l Q} f k => cv_isFinalized f hI ha hg no (un (P := fun q => Q (if band (M 86 q) 2 = 0 then 0 else 1) M) k)) (fun {B l Q} f k => cv_isInterned f hI ha hg no (un (P := fun q => Q (if band (M 86 q) 4 = 0 then 0 else 1) M) k)) (fun {B l Q} f k => cv_isCleared f hI ha hg no (un (P := fun q => Q (if (3 ≤ M 82 q ∧ M 82 q ≤ 5) ∧ M 87 (M 84 q).toNat = -1 then 1 else 0) M) k)) (fun {B l Q} f k => cv_entriesOf f hI ha hg no (un (P := fun q => Q (if M 82 q = 6 then entS M q (M 83 q).toNat else -1) M) k)) hq
end Mix
