section Find
variable {B : WB} {l : Launch} {X : va_W} {M : Mem} {Q : Int → Mem → Prop} {x c : Int} {i : Nat}
/-- where the object of a number lies, by halves -/
theorem ms_find {o : Nat} (ho : isHp o) (hl : l.stackTraces = false) (hx : inR x) (hn : 0 ≤ M o 0 ∧ M o 0 ≤ 256) (hs : ∀ p q : Nat, p < q → (q : Int) < M o 0 → M (o + 1) p < M (o + 1) q) (h1 : ∀ p : Nat, (p : Int) < M o 0 → M (o + 1) p = x → Q p M) (h2 : (∀ p : Nat, (p : Int) < M o 0 → M (o + 1) p ≠ x) → Q (-1) M) : OkI B l md_X12_find 0 0 [.ref (ad B o), .int (I x)] X M Q NoX := by
  refine ok_X12_find hl (fun G h => ?_)
  have loop : ∀ (r : Nat) (lo hi : Int), 0 ≤ lo → hi < M o 0 → lo ≤ hi + 1 → hi - lo + 1 < r → (∀ p : Nat, (p : Int) < lo → M (o + 1) p ≠ x) → (∀ p : Nat, hi < (p : Int) → (p : Int) < M o 0 → M (o + 1) p ≠ x) → L_X12_find_9 G X o x lo hi M := by
    intro r
    induction r with
    | zero => intro lo hi a1 a2 a3 a4; omega
    | succ r ih =>
      intro lo hi a1 a2 a3 a4 a5 a6
      refine go_X12_find_9 h ho ⟨⟨by omega, by omega⟩, ⟨by omega, by omega⟩, fun hlt => ⟨⟨by decide, by decide⟩, h2 (fun p hp => ?_)⟩, fun hle => ⟨⟨by omega, by omega, by omega, by omega⟩, ⟨by omega, by omega⟩, fun z => ⟨z, hx, fun hne => ⟨⟨by omega, by omega⟩, fun z2 => ⟨z2, hx, fun hle2 => ?_, fun hlt2 => ?_⟩⟩, fun he => ⟨⟨by omega, by omega⟩, ?_⟩⟩⟩⟩
      · by_cases hpl : (p : Int) < lo
        · exact a5 p hpl
        · exact a6 p (by omega) hp
      · refine ih lo _ a1 (by omega) (by omega) (by omega) a5 (fun p hp1 hp2 => ?_)
        by_cases hpm : p = ((lo + hi) / 2).toNat
        · rw [hpm]; exact hne
        · have := hs ((lo + hi) / 2).toNat p (by omega) hp2
          omega
      · refine ih _ hi (by omega) a2 (by omega) (by omega) (fun p hp1 => ?_) a6
        by_cases hpm : p = ((lo + hi) / 2).toNat
        · rw [hpm]; exact hne
        · have := hs p ((lo + hi) / 2).toNat (by omega) (by omega)
          omega
      · have h9 := h1 ((lo + hi) / 2).toNat (by omega) he
        rwa [show (((lo + hi) / 2).toNat : Int) = (lo + hi) / 2 by omega] at h9
  refine go_X12_find_0 h ho (fun _ => loop (M o 0 + 1).toNat 0 _ (by omega) (by omega) (by omega) (by omega) (fun p hp => by omega) (fun p hp1 hp2 => by omega))
/-- in the memory itself, for what the class has as the cell c -/
theorem ms_findR {n : Int} (hl : l.stackTraces = false) (ho : IvOb i M) (hr : Rf M c n) (hnR : inR n) (h1 : c = -1 → n = -1 → Q (-1) M) (h2 : ∀ p : Nat, (p : Int) < M 80 0 → c = M 19 p → n = M 81 p → Q p M) : OkI B l md_X12_find 0 0 [.ref (ad B 80), .int (I n)] X M Q NoX := by
  obtain ⟨o1, o2, o3, o4, o5, o6, o7, o8, -⟩ := ho
  refine ms_find (o := 80) (Or.inl rfl) hl hnR ⟨by omega, by omega⟩ o7 (fun p hp he => ?_) (fun hno => ?_)
  · rcases hr with ⟨-, rfl⟩ | ⟨q, g1, g2, g3⟩
    · have := (o8 p hp).1
      have he : M 81 p = -1 := he
      omega
    · have hpq : p = q := by
        have he : M 81 p = n := he
        rcases Nat.lt_trichotomy p q with hl | hl | hl
        · have := o7 p q hl g1; omega
        · exact hl
        · have := o7 q p hl hp; omega
      subst hpq
      exact h2 p hp g2 g3
  · rcases hr with ⟨a, b⟩ | ⟨q, g1, g2, g3⟩
    · exact h1 a b
    · exact absurd g3.symm (hno q g1)
theorem ms_placeOf {i : Nat} (hl : l.stackTraces = false) (hf : Fs M) (ho : IvOb i M) (hx : 0 ≤ x ∧ x < 8) (hr : Rf M c (M 89 (sx M x))) (h1 : c = -1 → Q (-1) M) (h2 : ∀ p : Nat, (p : Int) < M 80 0 → c = M 19 p → Q p M) : OkI B l md_X13_placeOf 0 0 [.ref (ad B 72), .int (I x)] X M Q NoX :=
  ok_X13_placeOf hl (fun G h => go_X13_placeOf_0 h (ms_inSlot (Ct_fl h) hf hx (fun z => ms_findR (Ct_fl h) ho hr z (fun e _ => fun z2 => ⟨z2, h1 e⟩) (fun p hp e _ => fun z2 => ⟨z2, h2 p hp e⟩))))
theorem ms_formIn {i : Nat} (hl : l.stackTraces = false) (hf : Fs M) (ho : IvOb i M) (hx : 0 ≤ x ∧ x < 8) (hr : Rf M c (M 89 (sx M x))) (h1 : c = -1 → Q (-1) M) (h2 : ∀ p : Nat, (p : Int) < M 80 0 → c = M 19 p → Q (M 82 p) M) : OkI B l md_X13_formIn 0 0 [.ref (ad B 72), .int (I x)] X M Q NoX := by
  have hc := ho.1
  refine ok_X13_formIn hl (fun G h => go_X13_formIn_0 h (ms_placeOf (i := i) (Ct_fl h) hf ho hx hr (fun e z => ⟨z, ⟨by decide, by decide⟩, fun hne => absurd rfl hne, fun _ => ⟨z, h1 e⟩⟩) (fun p hp e z => ⟨z, ⟨by decide, by decide⟩, fun _ => ⟨⟨by omega, by omega⟩, fun z2 => ⟨z2, ?_⟩⟩, fun he => absurd he (by omega)⟩)))
  have h9 := h2 p hp e
  exact h9
theorem ms_ageIn (hl : l.stackTraces = false) (p : Nat) (hp : p < 208) (hq : Q (M 85 p) M) : OkI B l md_X13_ageIn 0 0 [.ref (ad B 72), .int (I (p : Int))] X M Q NoX :=
  ok_X13_ageIn hl (fun G h => go_X13_ageIn_0 h ⟨⟨by omega, by omega⟩, ⟨by decide, by decide⟩, fun _ => ⟨⟨by omega, by omega⟩, fun z => ⟨z, hq⟩⟩, fun he => absurd he (by omega)⟩)
theorem ms_ageInN (hl : l.stackTraces = false) (hq : Q (-1) M) : OkI B l md_X13_ageIn 0 0 [.ref (ad B 72), .int (I (-1))] X M Q NoX :=
  ok_X13_ageIn hl (fun G h => go_X13_ageIn_0 h ⟨⟨by decide, by decide⟩, ⟨by decide, by decide⟩, fun hne => absurd rfl hne, fun _ => ⟨⟨by decide, by decide⟩, hq⟩⟩)
theorem ms_kindIn (hl : l.stackTraces = false) (p : Nat) (hp : p < 208) (hq : Q (if M 82 p = 0 then M 83 p else -1) M) : OkI B l md_X13_kindIn 0 0 [.ref (ad B 72), .int (I (p : Int))] X M Q NoX := by
  refine ok_X13_kindIn hl (fun G h => go_X13_kindIn_0 h ⟨⟨by omega, by omega⟩, ⟨by decide, by decide⟩, fun he => absurd he (by omega), fun _ => ⟨⟨by omega, by omega⟩, fun z => ⟨z, fun hne => ⟨⟨by decide, by decide⟩, ?_⟩, fun he => ⟨⟨by omega, by omega⟩, fun z2 => ⟨z2, ?_⟩⟩⟩⟩⟩)
  · rwa [if_neg (show ¬ M 82 p = 0 from hne)] at hq
  · rwa [if_pos (show M 82 p = 0 from he)] at hq
theorem ms_kindInN (hl : l.stackTraces = false) (hq : Q (-1) M) : OkI B l md_X13_kindIn 0 0 [.ref (ad B 72), .int (I (-1))] X M Q NoX :=
  ok_X13_kindIn hl (fun G h => go_X13_kindIn_0 h ⟨⟨by decide, by decide⟩, ⟨by decide, by decide⟩, fun _ => ⟨⟨by decide, by decide⟩, hq⟩, fun hne => absurd rfl hne⟩)
/-- links by a form and what it is of -/
theorem ms_linksOf {a b : Int} (hl : l.stackTraces = false) (ha : inR a) (hb : inR b) (h0 : a = 0 → 0 ≤ b ∧ b < 12) (hq : Q (if a = 0 then M 74 b.toNat else if a = 1 then b else 0) M) : OkI B l md_X13_linksOf 0 0 [.ref (ad B 72), .int (I a), .int (I b)] X M Q NoX := by
  refine ok_X13_linksOf hl (fun G h => go_X13_linksOf_0 h ⟨ha, fun hne => ⟨ha, inR1, fun hn1 => ⟨inR0, ?_⟩, fun he1 => ⟨hb, ?_⟩⟩, fun he => ⟨h0 he, fun z => ⟨z, ?_⟩⟩⟩)
  · rwa [if_neg hne, if_neg hn1] at hq
  · rwa [if_neg hne, if_pos he1] at hq
  · rwa [if_pos he] at hq
theorem ms_links {o : Nat} (ho : isHp o) (hl : l.stackTraces = false) (p : Nat) (hp : p < 256) (h0 : M (o + 2) p = 0 → 0 ≤ M (o + 3) p ∧ M (o + 3) p < 12) (hq : Q (lnkR M o p) M) : OkI B l md_X12_links 0 0 [.ref (ad B o), .int (I (p : Int))] X M Q NoX :=
  ok_X12_links hl (fun G h => go_X12_links_0 h ho ⟨⟨by omega, by omega⟩, fun z => ⟨⟨by omega, by omega⟩, fun z2 => ms_linksOf (Ct_fl h) z z2 h0 (fun z3 => ⟨z3, hq⟩)⟩⟩)
theorem ms_lengthIn (hl : l.stackTraces = false) (p : Nat) (hp : p < 208) (h0 : M 82 p = 0 → 0 ≤ M 83 p ∧ M 83 p < 12) (hq : Q (if M 82 p = 0 then M 74 (M 83 p).toNat else M 83 p) M) : OkI B l md_X13_lengthIn 0 0 [.ref (ad B 72), .int (I (p : Int))] X M Q NoX := by
  refine ok_X13_lengthIn hl (fun G h => go_X13_lengthIn_0 h ⟨⟨by omega, by omega⟩, ⟨by decide, by decide⟩, fun _ => ⟨⟨by omega, by omega⟩, fun z => ⟨z, fun hne => ⟨⟨by omega, by omega⟩, fun z2 => ⟨z2, ?_⟩⟩, fun he => ms_links (o := 80) (Or.inl rfl) (Ct_fl h) p (by omega) h0 (fun z3 => ⟨z3, ?_⟩)⟩⟩, fun he => absurd he (by omega)⟩)
  · rwa [if_neg (show ¬ M 82 p = 0 from hne)] at hq
  · rw [if_pos (show M 82 p = 0 from he)] at hq
    show Q (lnkR M 80 p) M
    unfold lnkR
    rw [if_pos (show M 82 p = 0 from he)]
    exact hq
theorem ms_lengthInN (hl : l.stackTraces = false) (hq : Q (-1) M) : OkI B l md_X13_lengthIn 0 0 [.ref (ad B 72), .int (I (-1))] X M Q NoX :=
  ok_X13_lengthIn hl (fun G h => go_X13_lengthIn_0 h ⟨⟨by decide, by decide⟩, ⟨by decide, by decide⟩, fun hne => absurd rfl hne, fun _ => ⟨⟨by decide, by decide⟩, hq⟩⟩)
end Find
