/-! ===== flaws, referrers, isKindOf ===== -/
section More
variable {B : WB} {l : Launch} {X : va_W} {M M' : Mem} {Q : Int → Mem → Prop} {QV : Mem → Prop} {o h : Nat} {b : Int} {i qo : Nat} {x : Int}
theorem ws_nn (hI : Inv i M) : ∀ n : Nat, (n : Int) ≤ M 80 0 → 0 ≤ wsR M false n ∧ 0 ≤ wsR M true n := by
  intro n hn
  have h1 := aw_ws hI n hn
  have h2 := aw_bd (x := 0) (rep_ref (inv_rep hI)) n hn
  have h3 := aw_bd (x := 1) (rep_ref (inv_rep hI)) n hn
  omega
theorem cs_countFlaws (hl : l.stackTraces = false) (hI : Inv i M) (hq : ∀ M', Inv i M' → M' 72 0 = M 72 0 → Q 0 M') : OkI B l md_X9_countFlaws 0 0 [.ref (ad B 58)] X M Q NoX := by
  have h62 : isSc 62 := Or.inr (Or.inr (Or.inr (Or.inr (Or.inr (Or.inl rfl)))))
  have c62 := sc_cs h62
  have hS := (hI.sc.1 62 c62).1
  have hn := hI.ob.1
  have hw0 := hI.ob.2.2.2.2.2.2.2.2.1
  have hw1 := hI.ob.2.2.2.2.2.2.2.2.2
  refine ok_X9_countFlaws hl (fun G hG => go_X9_countFlaws_0 hG (cs_makeEmpty c62 (Ct_fl hG) hS (fun M1 s1 f1 z1 n1 => ?_)))
  have f161 : ∀ (M2 : Mem), Inv i M2 → M2 72 0 = M 72 0 → SetOk M2 62 → Prs M2 59 80 M2 → (∀ p : Nat, (p : Int) < M2 80 0 → Sm M2 62 (M2 19 p)) → ∀ (r k : Nat), (k : Int) + r = M2 59 2 → L_X9_countFlaws_161 G X 0 (k : Int) M2 := by
    intro M2 I2 e2 s2 p2 m2 r
    have h59 : isCS 59 := Or.inr (Or.inr (Or.inr (Or.inr (Or.inr (Or.inr (Or.inl rfl))))))
    have s59 := (I2.sc.1 59 h59).1
    have b59 := s59.1
    induction r with
    | zero =>
      intro k hk
      exact go_X9_countFlaws_161 hG (fun z => ⟨⟨by omega, by omega⟩, z, fun _ => ⟨inR0, hq M2 I2 e2⟩, fun hlt => absurd hlt (by omega)⟩)
    | succ r ih =>
      intro k hk
      obtain ⟨p, hp, ep⟩ := p2 (M2 61 k) ((sm_iff s59).mpr ⟨k, by omega, rfl⟩)
      refine go_X9_countFlaws_161 hG (fun z => ⟨⟨by omega, by omega⟩, z, fun hle => absurd hle (by omega), fun _ => ⟨⟨by omega, by omega⟩, fun z2 => cs_contains c62 (Ct_fl hG) z2 s2 (fun _ z3 => ⟨z3, fun h0 => absurd h0 (by decide), fun _ => ih (k + 1) (by omega)⟩) (fun hns => absurd (m2 p hp) (fun hs => hns ?_))⟩⟩)
      have ep : M2 61 ((k : Nat) : Int).toNat = M2 19 p := ep
      rw [ep]
      exact hs
  have f121 : ∀ (M2 : Mem), Fo 62 M2 M → SetOk M2 62 → (∀ p : Nat, (p : Int) < M 80 0 → Sm M2 62 (M 19 p)) → L_X9_countFlaws_121 G X (wsR M false (M 80 0).toNat) (wsR M false (M 80 0).toNat + wsR M true (M 80 0).toNat) 0 0 M2 := by
    intro M2 f2 s2 m2
    have I2 := inv_fo h62 hI f2 s2
    have hr2 := fo_rel h62 f2
    have e19 : M2 6 19 = wsR M true (M 80 0).toNat := (hr2 6 19 rfl).trans hw1.1
    have nn := ws_nn hI (M 80 0).toNat (by omega)
    have last : OkV (gB G) (gl G) md_X9_findReached 0 0 [.ref (ad (gB G) 58), .int (I (-1))] X M2 (fun M1 => L_X9_countFlaws_161 G X (0 + 0 + 0) 0 M1) NoX := by
      refine cs_findReached (i := i) (b := -1) (Ct_fl hG) I2 ⟨by decide, by decide⟩ (Or.inl ⟨rfl, rfl⟩) (fun M3 f3 s3 p3 m3 => ?_)
      have I3 := inv_59 I2 f3 s3
      have s59 := s3.1
      have h9 := f161 M3 I3 ((f3 72 0 (by decide) (by decide) (by decide)).trans (f2 72 0 (by decide) (by decide) (by decide))) (I3.sc.1 62 c62).1 (fun c hc => ?_) (fun p hp => ?_) (M3 59 2).toNat 0 (by omega)
      · exact h9
      · obtain ⟨p, h1, h2⟩ := p3 c hc
        exact ⟨p, by rw [f3.rel 80 0 rfl]; exact h1, by rw [f3.rel 19 p rfl]; exact h2⟩
      · rw [f3.rel 80 0 rfl, hr2 80 0 rfl] at hp
        have h5 := m2 p hp
        rw [f3.rel 19 p rfl, hr2 19 p rfl]
        exact ⟨h5.1, h5.2.1, by rw [f3 63 _ (by decide) (by decide) (by decide)]; exact h5.2.2⟩
    refine go_X9_countFlaws_121 hG (fun z => ⟨⟨by omega, by omega⟩, z, fun hne => absurd (show wsR M false (M 80 0).toNat + wsR M true (M 80 0).toNat - wsR M false (M 80 0).toNat = M2 6 19 by omega) hne, fun _ => ⟨⟨by omega, by omega⟩, ⟨by decide, by decide⟩, fun hlt => absurd hlt (by omega), fun _ => last⟩⟩)
  have f16 : ∀ (r t : Nat) (M2 : Mem), (t : Int) + r = M 80 0 → Fo 62 M2 M → SetOk M2 62 → (∀ p : Nat, p < t → Sm M2 62 (M 19 p)) → L_X9_countFlaws_16 G X 0 (wsR M false t) (wsR M false t + wsR M true t) (t : Int) M2 := by
    intro r
    induction r with
    | zero =>
      intro t M2 ht f2 s2 m2
      have hr2 := fo_rel h62 f2
      have e15 : M2 6 15 = M 80 0 := (hr2 6 15 rfl).trans hn.1
      have e18 : M2 6 18 = wsR M false t := by rw [hr2 6 18 rfl, hw0.1, show (M 80 0).toNat = t by omega]
      have nn := ws_nn hI t (by omega)
      have h9 := f121 M2 f2 s2 (fun p hp => m2 p (by omega))
      rw [show (M 80 0).toNat = t by omega] at h9
      have b1 : wsR M false t = wsR M false (M 80 0).toNat := by rw [show (M 80 0).toNat = t by omega]
      have b2 : wsR M true t = wsR M true (M 80 0).toNat := by rw [show (M 80 0).toNat = t by omega]
      refine go_X9_countFlaws_16 hG (fun z => ⟨⟨by omega, by omega⟩, z, fun _ z2 => ⟨⟨by omega, by omega⟩, z2, fun hne => absurd e18.symm hne, fun _ => ⟨⟨by omega, by omega⟩, ⟨by decide, by decide⟩, fun hlt => absurd hlt (by omega), fun _ => h9⟩⟩, fun hlt => absurd hlt (by omega)⟩)
    | succ r ih =>
      intro t M2 ht f2 s2 m2
      have hr2 := fo_rel h62 f2
      have e15 : M2 6 15 = M 80 0 := (hr2 6 15 rfl).trans hn.1
      have e19 : M2 19 ((t : Nat) : Int).toNat = M 19 t := hr2 19 t rfl
      have hc := hI.ob.2.2.2.1 t (by omega)
      have b62 : M2 62 3 = -1 := by rw [f2.barred]; exact (hI.sc.1 62 c62).2.resolve_left (by decide)
      refine go_X9_countFlaws_16 hG (fun z => ⟨⟨by omega, by omega⟩, z, fun hle => absurd hle (by omega), fun _ => ⟨⟨by omega, by omega⟩, fun z2 => ?_⟩⟩)
      rw [e19] at z2 ⊢
      refine cs_inc c62 (Ct_fl hG) z2 s2 (fun M3 g3 m3 => ⟨hc, fun z3 => ⟨hc, fun z4 => ⟨z4, fun he => ⟨hc, fun z5 => ?_⟩, fun hne => ?_⟩⟩⟩)
      all_goals have f3 : Fo 62 M3 M := g3.2.1.trans f2
      all_goals have hr3 := fo_rel h62 f3
      all_goals have e11 : M3 11 (M 19 t).toNat = wrdR M 80 t := (hr3 11 _ rfl).trans (ob_wr hI (by omega))
      all_goals have e14 : M3 14 (M 19 t).toNat = M 14 (M 19 t).toNat := hr3 14 _ rfl
      all_goals have mem3 : ∀ p : Nat, p < t + 1 → Sm M3 62 (M 19 p) := fun p hp => (Nat.lt_or_ge p t).elim (fun hpt => (m3 _).mpr (Or.inl (m2 p hpt))) (fun hpt => (m3 _).mpr (Or.inr ⟨by rw [show p = t by omega], hc.1, hc.2, by omega⟩))
      all_goals have h9 := ih (t + 1) M3 (by omega) f3 g3.1 mem3
      all_goals have s1 := ws_step M t
      all_goals have f0 : wsR M false (t + 1) = wsR M false t + (if (M 14 (M 19 t).toNat = 1) = (false = true) then wrdR M 80 t else 0) := rfl
      all_goals have h15 := (hI.ob.2.2.2.2.2.1 t (by omega)).2.2.2.2.2.2.2.2.2.2.2.2.2.2.1
      · rw [e14] at he
        have ef : wsR M false (t + 1) = wsR M false t + wrdR M 80 t := by rw [f0]; simp [he]
        rw [e11]
        rw [show wsR M false (t + 1) + wsR M true (t + 1) = wsR M false t + wsR M true t + wrdR M 80 t from s1, ef] at h9
        exact h9
      · rw [e14] at hne
        have h1 : M 14 (M 19 t).toNat = 1 := by omega
        have ef : wsR M false (t + 1) = wsR M false t + 0 := by rw [f0]; simp [h1]
        rw [e11]
        rw [show wsR M false (t + 1) + wsR M true (t + 1) = wsR M false t + wsR M true t + wrdR M 80 t from s1, ef] at h9
        exact h9
  exact f16 (M 80 0).toNat 0 M1 (by omega) f1 s1 (fun p hp => absurd hp (by omega))
/-- how many fields and places hold the object of a number -/
def refS (M : Mem) (v : Int) (p n : Nat) : Int := sumF (fun k => if M 87 ((M 84 p).toNat + k) = v then 1 else 0) n
def refT (M : Mem) (v : Int) (n : Nat) : Int := sumF (fun p => refS M v p (lnkR M 80 p).toNat) n
theorem refS_bd {v : Int} {p : Nat} (n : Nat) : 0 ≤ refS M v p n ∧ refS M v p n ≤ n := sum_01 (fun k => by split; exact Or.inr rfl; exact Or.inl rfl) n
theorem refT_bd (R : RefO M 80) {v : Int} (n : Nat) (hn : (n : Int) ≤ M 80 0) : 0 ≤ refT M v n ∧ refT M v n ≤ 40 * n := by
  refine sum_bd (C := 40) n (fun p hp => ?_)
  have h1 := ref_lnk (R.2 p (by omega))
  have h2 := refS_bd (M := M) (v := v) (p := p) (lnkR M 80 p).toNat
  show 0 ≤ refS M v p (lnkR M 80 p).toNat ∧ refS M v p (lnkR M 80 p).toNat ≤ 40
  omega
theorem cs_countHolders (hl : l.stackTraces = false) (hI : Inv i M) {q : Nat} (hqn : (q : Int) < M 80 0) (hq : Q (refT M (M 81 q) (M 80 0).toNat) M) : OkI B l md_X9_countHolders 0 0 [.ref (ad B 58), .int (I (M 19 q))] X M Q NoX := by
  have R := inv_rep hI
  have RO := rep_ref R
  have hn := hI.ob.1
  have hcq := R.2.1 q (by omega)
  have hrq : Rf M (M 19 q) (M 81 q) := Or.inr ⟨q, hqn, rfl, rfl⟩
  refine ok_X9_countHolders hl (fun G hG => ?_)
  have f29 : ∀ (t : Nat), (t : Int) < M 80 0 → ∀ acc : Int, (∀ acc2, acc2 = acc + refS M (M 81 q) t (lnkR M 80 t).toNat → L_X9_countHolders_4 G X (M 19 q) acc2 ((t : Int) + 1) M) → ∀ (r k : Nat), (k : Int) + r = lnkR M 80 t → L_X9_countHolders_29 G X (M 19 q) (acc + refS M (M 81 q) t k) (t : Int) (M 19 t) (k : Int) M := by
    intro t ht acc nx r
    have hk := ref_lnk (RO.2 t ht)
    have hs := ref_siz (RO.2 t ht)
    have hat := cel_le hI ht
    have e12 : M 12 (M 19 t).toNat = M 84 t := (at_in hI ht).2.2.2
    have hct := R.2.1 t (by omega)
    induction r with
    | zero =>
      intro k hk2
      refine go_X9_countHolders_29 hG (cs_fieldsOf (Ct_fl hG) R ht (fun z => ⟨⟨by omega, by omega⟩, z, fun _ => nx _ ?_, fun hlt => absurd hlt (by omega)⟩))
      rw [show (lnkR M 80 t).toNat = k by omega]
    | succ r ih =>
      intro k hk2
      have ej : (M 84 t + (k : Int)).toNat = (M 84 t).toNat + k := by omega
      have hiff := rf_inj (cel_rf hI (k := k) ht (by omega)) hrq hI.ob
      have h9 := ih (k + 1) (by omega)
      have e : refS M (M 81 q) t (k + 1) = refS M (M 81 q) t k + (if M 87 ((M 84 t).toNat + k) = M 81 q then 1 else 0) := rfl
      refine go_X9_countHolders_29 hG (cs_fieldsOf (Ct_fl hG) R ht (fun z => ⟨⟨by omega, by omega⟩, z, fun hle => absurd hle (by omega), fun _ => ⟨hct, fun z2 => ?_⟩⟩))
      rw [e12, ej]
      refine ⟨⟨by omega, by omega⟩, fun z3 => ⟨z3, ⟨by omega, by omega⟩, fun hne => ?_, fun he => ?_⟩⟩
      · rw [e, if_neg (fun z => hne (hiff.mpr z)), Int.add_zero] at h9
        exact h9
      · rw [e, if_pos (hiff.mp he), ← Int.add_assoc] at h9
        exact h9
  have f4 : ∀ (r t : Nat), (t : Int) + r = M 80 0 → L_X9_countHolders_4 G X (M 19 q) (refT M (M 81 q) t) (t : Int) M := by
    intro r
    induction r with
    | zero =>
      intro t ht
      have hb := refT_bd (v := M 81 q) RO t (by omega)
      refine go_X9_countHolders_4 hG (fun z => ⟨⟨by omega, by omega⟩, z, fun _ => ⟨⟨by omega, by omega⟩, ?_⟩, fun hlt => absurd hlt (by omega)⟩)
      rw [show (M 80 0).toNat = t by omega] at hq
      exact hq
    | succ r ih =>
      intro t ht
      refine go_X9_countHolders_4 hG (fun z => ⟨⟨by omega, by omega⟩, z, fun hle => absurd hle (by omega), fun _ => ⟨⟨by omega, by omega⟩, fun z2 => ?_⟩⟩)
      have h9 := f29 t (by omega) (refT M (M 81 q) t) (fun acc2 ha => by rw [ha]; exact ih (t + 1) (by omega)) (lnkR M 80 t).toNat 0 (by have := ref_lnk (RO.2 t (by omega)); omega)
      have e : refT M (M 81 q) t + refS M (M 81 q) t 0 = refT M (M 81 q) t := Int.add_zero _
      rw [e] at h9
      exact h9
  exact go_X9_countHolders_0 hG (f4 (M 80 0).toNat 0 (by omega))
/-- whether a kind comes from another, by so many steps at most -/
def ancF (M : Mem) (a : Int) : Nat → Int → Int
  | 0, _ => 0
  | n + 1, v => if v = -1 then 0 else if v = a then 1 else ancF M a n (M 73 v.toNat)
theorem anc_01 {a : Int} : ∀ (n : Nat) (v : Int), ancF M a n v = 0 ∨ ancF M a n v = 1 := by
  intro n
  induction n with
  | zero => intro v; exact Or.inl rfl
  | succ n ih =>
    intro v
    unfold ancF
    split
    · exact Or.inl rfl
    · split
      · exact Or.inr rfl
      · exact ih _
end More
