/-! ===== defineKind, whole ===== -/
/-- what the new kind is to have -/
def DkP (M : Mem) (a b c d rv nv fv : Int) : Prop := (a = -1 ∧ rv = b ∧ nv = c ∧ fv = (if d = 0 then 0 else 1)) ∨ (0 ≤ a ∧ a < M 72 1 ∧ rv = b + M 74 a.toNat ∧ nv = c + M 75 a.toNat ∧ fv = (if d = 0 then M 76 a.toNat else 1))
def dkRg (b c : Int) : Prop := (0 ≤ b ∧ b ≤ 4) ∧ 0 ≤ c ∧ c ≤ 4
def dkC (M : Mem) (a rv nv fv : Int) : Mem := up (up (up (up (up M 2 (M 1 4).toNat a) 3 (M 1 4).toNat rv) 4 (M 1 4).toNat nv) 5 (M 1 4).toNat fv) 1 4 (M 1 4 + 1)
def dkM (M : Mem) (a rv nv fv : Int) : Mem := up (up (up (up (up M 73 (M 72 1).toNat a) 74 (M 72 1).toNat rv) 75 (M 72 1).toNat nv) 76 (M 72 1).toNat fv) 72 1 (M 72 1 + 1)
section Kind6
variable {B : WB} {l : Launch} {X : va_W} {i : Nat} {M M' : Mem} {qo : Nat} {Q : Int → Mem → Prop} {E : String → Mem → Prop} {a b c d rv nv fv : Int}
theorem dk_bd (hk : IvKd M) (hD : DkP M a b c d rv nv fv) (hr : dkRg b c) (hd : d = 0 ∨ d = 1) : (0 ≤ rv ∧ rv ≤ 12) ∧ (0 ≤ nv ∧ nv ≤ 12) ∧ (fv = 0 ∨ fv = 1) ∧ (-1 ≤ a ∧ a < M 72 1) := by
  obtain ⟨k1, k2, k3⟩ := hk
  obtain ⟨⟨b1, b2⟩, c1, c2⟩ := hr
  rcases hD with ⟨h1, h2, h3, h4⟩ | ⟨h1, h2, h3, h4, h5⟩
  · refine ⟨⟨by omega, by omega⟩, ⟨by omega, by omega⟩, ?_, by omega, by omega⟩
    rcases hd with rfl | rfl
    · rw [if_pos rfl] at h4; exact Or.inl h4
    · rw [if_neg (by decide)] at h4; exact Or.inr h4
  · obtain ⟨q1, q2, q3, q4, q5⟩ := k3 a.toNat (by omega)
    refine ⟨⟨by omega, by omega⟩, ⟨by omega, by omega⟩, ?_, by omega, h2⟩
    rcases hd with rfl | rfl
    · rw [if_pos rfl] at h5; rw [h5]; exact q5
    · rw [if_neg (by decide)] at h5; exact Or.inr h5
/-- the class, from its first test to the second -/
theorem cs_dk0 {G : GT} {k n : Nat} (h : Ct G md_X11_defineKind X (oI Q E) B l k n) (ra : inR a) (rb : inR b) (rc : inR c) (hp : a = -1 ∨ (0 ≤ a ∧ a < M 1 4)) (b0 : ¬ dkRg b c → L_X11_defineKind_33 G X a b c d 0 M) (b1 : dkRg b c → L_X11_defineKind_33 G X a b c d 1 M) : L_X11_defineKind_0 G X a b c d M :=
  go_X11_defineKind_0 h ⟨ra, ⟨by decide, by decide⟩, fun _ => kd_tests rb rc b0 b1, fun hne => Or.inl (cs_needKind_ok (Ct_fl h) ra (hp.resolve_left hne) (kd_tests rb rc b0 b1))⟩
theorem cs_dk33 {G : GT} {k n : Nat} (h : Ct G md_X11_defineKind X (oI Q E) B l k n) (ra : inR a) (rb : inR b) (rc : inR c) (hk : IvKd M) (hD : DkP M a b c d rv nv fv) (hr : dkRg b c) (hd : d = 0 ∨ d = 1)
    (bad : ¬ (rv ≤ 8 ∧ nv ≤ 8) → (1 ≤ k ∧ 6 ≤ n) ∧ E "java/lang/IllegalArgumentException" M)
    (full : rv ≤ 8 ∧ nv ≤ 8 → M 72 1 = 12 → (1 ≤ k ∧ 6 ≤ n) ∧ E "java/lang/IllegalStateException" M)
    (good : rv ≤ 8 ∧ nv ≤ 8 → M 72 1 < 12 → inR (M 1 4) → Q (M 1 4) (dkC M a rv nv fv)) : L_X11_defineKind_33 G X a b c d 1 M := by
  obtain ⟨y1, y2, y3, y4⟩ := dk_bd hk hD hr hd
  obtain ⟨k1, k2, k3⟩ := hk
  have r8 : inR 8 := ⟨by decide, by decide⟩
  have r12 : inR 12 := ⟨by decide, by decide⟩
  have irv : inR rv := ⟨by omega, by omega⟩
  have inv : inR nv := ⟨by omega, by omega⟩
  have hdr : inR d := ⟨by omega, by omega⟩
  have hR : (a = -1 ∧ rv = b) ∨ (0 ≤ a ∧ a < M 1 4 ∧ a < 12 ∧ M 3 a.toNat + b = rv) := by
    rcases hD with ⟨h1, h2, -, -⟩ | ⟨h1, h2, h3, -, -⟩
    · exact Or.inl ⟨h1, h2⟩
    · have := (k3 a.toNat (by omega)).1.2.1
      exact Or.inr ⟨h1, by omega, by omega, by omega⟩
  have hN : (a = -1 ∧ nv = c) ∨ (0 ≤ a ∧ a < M 1 4 ∧ a < 12 ∧ M 4 a.toNat + c = nv) := by
    rcases hD with ⟨h1, -, h2, -⟩ | ⟨h1, h2, -, h3, -⟩
    · exact Or.inl ⟨h1, h2⟩
    · have := (k3 a.toNat (by omega)).1.2.2.1
      exact Or.inr ⟨h1, by omega, by omega, by omega⟩
  have hF : (d ≠ 0 ∧ fv = 1) ∨ (d = 0 ∧ ((a = -1 ∧ fv = 0) ∨ (0 ≤ a ∧ a < M 1 4 ∧ a < 12 ∧ M 5 a.toNat = fv ∧ (fv = 0 ∨ fv = 1)))) := by
    rcases hd with rfl | rfl
    · refine Or.inr ⟨rfl, ?_⟩
      rcases hD with ⟨h1, -, -, h2⟩ | ⟨h1, h2, -, -, h3⟩
      · exact Or.inl ⟨h1, by rw [h2, if_pos rfl]⟩
      · have := (k3 a.toNat (by omega)).1.2.2.2
        rw [if_pos rfl] at h3
        exact Or.inr ⟨h1, by omega, by omega, by omega, y3⟩
    · refine Or.inl ⟨by decide, ?_⟩
      rcases hD with ⟨-, -, -, h2⟩ | ⟨-, -, -, -, h2⟩ <;> rw [h2, if_neg (by decide)]
  refine go_X11_defineKind_33 h ⟨inR1, n10, fun _ => cs_refs (v := rv) (Ct_fl h) ra rb irv hR (fun z => ⟨z, r8, fun hgt => bad (fun w => by omega), fun h1 => cs_nums (v := nv) (Ct_fl h) ra rc inv hN (fun z2 => ⟨z2, r8, fun h2 z3 => ⟨z3, r12, fun hlt => ?_, fun hge => full ⟨h1, h2⟩ (by omega)⟩, fun hgt => bad (fun w => by omega)⟩)⟩)⟩
  exact cs_kadd (Ct_fl h) ra rb rc hdr ⟨by omega, hlt⟩ irv inv hR hN hF (fun z4 => fun z5 => ⟨z5, good ⟨h1, h2⟩ (by omega) z4⟩)
/-- the reference -/
theorem ms_dk0 {G : GT} {k n : Nat} (hG : Ct G md_X13_defineKind X (oI Q NoX) B l k n) (ra : inR a) (rb : inR b) (rc : inR c) (hk : 0 ≤ M 72 1 ∧ M 72 1 ≤ 12) (hd : d = 0 ∨ d = 1)
    (noP : ¬ (a = -1 ∨ (0 ≤ a ∧ a < M 72 1)) → Q 0 (up M 72 0 1))
    (unfit : (a = -1 ∨ (0 ≤ a ∧ a < M 72 1)) → ¬ dkRg b c → Q 0 (up (up M 72 0 0) 72 0 2))
    (rest : dkRg b c → (a = -1 ∨ (0 ≤ a ∧ a < M 72 1)) → ∃ rv nv fv, DkP M a b c d rv nv fv ∧ ((0 ≤ rv ∧ rv ≤ 12) ∧ (0 ≤ nv ∧ nv ≤ 12) ∧ (fv = 0 ∨ fv = 1) ∧ (-1 ≤ a ∧ a < M 72 1)) ∧ (¬ (rv ≤ 8 ∧ nv ≤ 8) → Q 0 (up (up M 72 0 0) 72 0 2)) ∧ (rv ≤ 8 ∧ nv ≤ 8 → M 72 1 = 12 → Q 0 (up (up M 72 0 0) 72 0 3)) ∧ (rv ≤ 8 ∧ nv ≤ 8 → M 72 1 < 12 → Q (M 72 1) (dkM (up M 72 0 0) a rv nv fv))) : L_X13_defineKind_0 G X a b c d M := by
  have rm1 : inR (-1) := ⟨by decide, by decide⟩
  have main : ∀ s0 : Int, (s0 = 1 ∧ a = -1) ∨ (s0 = 0 ∧ 0 ≤ a ∧ a < M 72 1) → L_X13_defineKind_37 G X a b c d s0 (up M 72 0 0) := by
    intro s0 hs
    have hp : a = -1 ∨ (0 ≤ a ∧ a < M 72 1) := hs.elim (fun z => Or.inl z.2) (fun z => Or.inr z.2)
    have irs : inR s0 := by rcases hs with ⟨rfl, -⟩ | ⟨rfl, -⟩; exact inR1; exact inR0
    refine ms_k37 hG rb rc irs (fun hn => ?_) (fun hr => ?_)
    · have hq := unfit hp hn
      exact go_X13_defineKind_86 hG ⟨irs, fun _ => ⟨inR0, fun _ => ms_kunfit hG hq, n00⟩, fun _ => ⟨inR0, n00, fun _ => ⟨inR0, fun _ => ms_kunfit hG hq, n00⟩⟩⟩
    · obtain ⟨rv, nv, fv, hD, ⟨y1, y2, y3, y4⟩, q1, q2, q3⟩ := rest hr hp
      have irv : inR rv := ⟨by omega, by omega⟩
      have inv : inR nv := ⟨by omega, by omega⟩
      have hdr : inR d := ⟨by omega, by omega⟩
      have c0 : (up M 72 0 0) 72 1 = M 72 1 := rfl
      have tail : ∀ x5 : Int, x5 = s0 → inR x5 → (rv ≤ 8 ∧ nv ≤ 8) → L_X13_defineKind_137 G X a d x5 rv nv 1 (up M 72 0 0) := by
        intro x5 e5 i5 hg
        have hk0 := hk
        by_cases hc : M 72 1 = 12
        · exact ms_kfull hG hc (fun _ => q2 hg hc)
        · refine ms_kadd (fv := fv) hG ra hdr i5 irv inv ⟨by rw [c0]; omega, by rw [c0]; omega⟩ ?_ (q3 hg (by omega))
          rcases hd with rfl | rfl
          · refine Or.inr ⟨rfl, ?_⟩
            rcases hD with ⟨h1, -, -, h2⟩ | ⟨h1, h2, -, -, h3⟩
            · rw [if_pos rfl] at h2
              refine Or.inl ⟨?_, h2⟩
              rcases hs with ⟨g1, -⟩ | ⟨-, g2, -⟩ <;> omega
            · rw [if_pos rfl] at h3
              refine Or.inr ⟨?_, ⟨h1, by omega⟩, h3.symm, y3⟩
              rcases hs with ⟨-, g2⟩ | ⟨g1, -⟩ <;> omega
          · refine Or.inl ⟨by decide, ?_⟩
            rcases hD with ⟨-, -, -, h2⟩ | ⟨-, -, -, -, h2⟩ <;> rw [h2, if_neg (by decide)]
      refine ⟨fun hne => ?_, fun he => ?_⟩
      · have h1 : a = -1 := by rcases hs with ⟨-, h⟩ | ⟨h, -⟩; exact h; exact absurd h hne
        have hD2 : rv = b ∧ nv = c := by rcases hD with ⟨-, h2, h3, -⟩ | ⟨h2, -⟩; exact ⟨h2, h3⟩; omega
        refine ms_k86 (rv := rv) (nv := nv) hG irs inR1 rc rb inv hD2.1.symm (Or.inl ⟨hne, hD2.2⟩) (fun v hb => ms_kunfit hG (q1 (fun w => hb ⟨by decide, w⟩))) (fun hg => tail s0 rfl irs hg.2)
      · have h1 : 0 ≤ a ∧ a < M 72 1 := by rcases hs with ⟨h, -⟩ | ⟨-, h⟩; omega; exact h
        have hD2 : rv = b + M 74 a.toNat ∧ nv = c + M 75 a.toNat := by rcases hD with ⟨h2, -⟩ | ⟨-, -, h2, h3, -⟩; omega; exact ⟨h2, h3⟩
        have ha12 : 0 ≤ a ∧ a < 12 := ⟨h1.1, by omega⟩
        have e74 : b + (up M 72 0 0) 74 a.toNat = rv := hD2.1.symm
        refine ⟨ha12, ms_k86 (rv := rv) (nv := nv) hG irs inR1 rc (by rw [e74]; exact irv) inv e74 (Or.inr ⟨he, ha12, hD2.2.symm⟩) (fun v hb => ?_) (fun hg => ?_)⟩
        · exact ms_kunfit hG (q1 (fun w => hb ⟨by decide, w⟩))
        · exact tail s0 rfl irs hg.2
  by_cases h1 : a = -1
  · refine go_X13_defineKind_0 hG ⟨ra, rm1, fun _ => ms_known1 (Ct_fl hG) (fun z => ⟨z, fun _ => ⟨ra, rm1, fun hn => absurd h1 hn, fun _ => main 1 (Or.inl ⟨rfl, h1⟩)⟩, n10⟩), fun hn => absurd h1 hn⟩
  · by_cases h2 : 0 ≤ a ∧ a < M 72 1
    · refine go_X13_defineKind_0 hG ⟨ra, rm1, fun hn => absurd hn h1, fun _ => ms_isKind (Ct_fl hG) ra hk (by rw [if_pos h2]; exact fun z => ⟨z, n10, fun _ => ms_known1 (Ct_fl hG) (fun z => ⟨z, fun _ => ⟨ra, rm1, fun _ => main 0 (Or.inr ⟨rfl, h2⟩), fun hn => absurd hn h1⟩, n10⟩)⟩)⟩
    · refine go_X13_defineKind_0 hG ⟨ra, rm1, fun hn => absurd hn h1, fun _ => ms_isKind (Ct_fl hG) ra hk (by rw [if_neg h2]; exact fun z => ⟨z, fun _ => ms_known0 (Ct_fl hG) (fun z => ⟨z, n00, fun _ => ⟨inR0, noP (fun w => w.elim h1 h2)⟩⟩), n00⟩)⟩
theorem dk_inv (hI : Inv i M) (hD : DkP M a b c d rv nv fv) (hr : dkRg b c) (hd : d = 0 ∨ d = 1) (h8 : rv ≤ 8 ∧ nv ≤ 8) (hc : M 72 1 < 12) : Inv (i + 1) (dkM (up (dkC M a rv nv fv) 72 0 0) a rv nv fv) := by
  obtain ⟨y1, y2, y3, y4⟩ := dk_bd hI.kd hD hr hd
  obtain ⟨k1, k2, k3⟩ := hI.kd
  have eK : (up (dkC M a rv nv fv) 72 0 0) 72 1 = M 72 1 := rfl
  refine inv_keep i _ (inv_kind hI hc y4 ⟨y1.1, h8.1⟩ ⟨y2.1, h8.2⟩ y3 ⟨fun o k h1 h2 h3 h4 => ?_, ⟨?_, ?_⟩, ⟨?_, ?_, ?_, ?_⟩, ⟨?_, ?_, ?_, ?_⟩⟩)
  · unfold dkM
    rw [eK]
    rw [up_n (by omega), up_n (by omega), up_n (by omega), up_n (by omega), up_n (by omega), up_n (by omega)]
    unfold dkC
    rw [k1]
    rw [up_n (by omega), up_n (by omega), up_n (by omega), up_n (by omega), up_n (by omega)]
  · show M 1 4 + 1 = M 72 1 + 1
    rw [k1]
  · rfl
  · show up M 2 (M 1 4).toNat a 2 (M 72 1).toNat = a
    rw [k1]; exact up_s _ _ _ _
  · show up M 3 (M 1 4).toNat rv 3 (M 72 1).toNat = rv
    rw [k1]; exact up_s _ _ _ _
  · show up M 4 (M 1 4).toNat nv 4 (M 72 1).toNat = nv
    rw [k1]; exact up_s _ _ _ _
  · show up M 5 (M 1 4).toNat fv 5 (M 72 1).toNat = fv
    rw [k1]; exact up_s _ _ _ _
  · show up M 73 (M 72 1).toNat a 73 (M 72 1).toNat = a
    exact up_s _ _ _ _
  · show up M 74 (M 72 1).toNat rv 74 (M 72 1).toNat = rv
    exact up_s _ _ _ _
  · show up M 75 (M 72 1).toNat nv 75 (M 72 1).toNat = nv
    exact up_s _ _ _ _
  · show up M 76 (M 72 1).toNat fv 76 (M 72 1).toNat = fv
    exact up_s _ _ _ _
theorem dk_ex (M : Mem) (a b c d : Int) (hp : a = -1 ∨ (0 ≤ a ∧ a < M 72 1)) : ∃ rv nv fv, DkP M a b c d rv nv fv := by
  rcases hp with h | ⟨h1, h2⟩
  · exact ⟨_, _, _, Or.inl ⟨h, rfl, rfl, rfl⟩⟩
  · exact ⟨_, _, _, Or.inr ⟨h1, h2, rfl, rfl, rfl⟩⟩
theorem pr_defineKind (hl : l.stackTraces = false) (ra : inR a) (rb : inR b) (rc : inR c) (hd : d = 0 ∨ d = 1) (hM : MOK M) (hi : i < 513) (hI : Inv i M) : PrI B l i M qo md_L_defineKind hh_L_defineKind md_X13_defineKind [.int (I a), .int (I b), .int (I c), .int (I d)] := by
  intro f Qw H
  have hk := hI.kd
  have hk1 := hk.1
  have hk2 := hk.2.1
  have r2 : inR 2 := ⟨by decide, by decide⟩
  have r3 : inR 3 := ⟨by decide, by decide⟩
  refine ok_L_defineKind hl (fun G q1 q2 => ?_)
  unfold T_L_defineKind
  rw [q1, q2]
  by_cases hp : a = -1 ∨ (0 ≤ a ∧ a < M 72 1)
  · by_cases hr : dkRg b c
    · obtain ⟨rv, nv, fv, hD⟩ := dk_ex M a b c d hp
      have hB := dk_bd hk hD hr hd
      by_cases h8 : rv ≤ 8 ∧ nv ≤ 8
      · by_cases hc : M 72 1 = 12
        · refine Or.inr (ok_X11_defineKind hl (fun G h1 => cs_dk0 h1 ra rb rc (by rw [hk1]; exact hp) (fun hn => absurd hr hn) (fun _ => cs_dk33 h1 ra rb rc hk hD hr hd (fun hn => absurd h8 hn) (fun _ _ => ⟨⟨by omega, by omega⟩, Or.inr (Or.inr ⟨rfl, r3, ?_⟩)⟩) (fun _ hlt => absurd hc (by omega)))))
          refine H 3 _ _ r3 (fun Qm hm => ok_X13_defineKind hl (fun G h2 => ms_dk0 h2 ra rb rc hk2 hd (fun hn => absurd hp hn) (fun _ hn => absurd hr hn) (fun _ _ => ⟨rv, nv, fv, hD, hB, fun hn => absurd h8 hn, fun _ _ => ?_, fun _ hlt => absurd hc (by omega)⟩)))
          exact hm _ _ inR0 (inv_keep i _ (inv_thr0 (inv_thr0 hI))) rfl (fun h => absurd h (by decide))
        · refine Or.inl (ok_X11_defineKind hl (fun G h1 => cs_dk0 h1 ra rb rc (by rw [hk1]; exact hp) (fun hn => absurd hr hn) (fun _ => cs_dk33 h1 ra rb rc hk hD hr hd (fun hn => absurd h8 hn) (fun _ h => absurd h hc) (fun _ hlt z => fun z1 f1 e9 => ⟨inR0, ?_⟩))))
          subst e9
          refine H 0 _ _ inR0 (fun Qm hm => ok_X13_defineKind hl (fun G h2 => ?_))
          have hQ : Qm (M 72 1) (dkM (up (dkC M a rv nv fv) 72 0 0) a rv nv fv) := hm _ _ (by rw [← hk1]; exact z) (dk_inv hI hD hr hd h8 hlt) rfl (fun _ => by rw [updL0, hk1])
          exact ms_dk0 (M := dkC M a rv nv fv) h2 ra rb rc hk2 hd (fun hn => absurd hp hn) (fun _ hn => absurd hr hn) (fun _ _ => ⟨rv, nv, fv, hD, hB, fun hn => absurd h8 hn, fun _ h => absurd h hc, fun _ _ => hQ⟩)
      · refine Or.inr (ok_X11_defineKind hl (fun G h1 => cs_dk0 h1 ra rb rc (by rw [hk1]; exact hp) (fun hn => absurd hr hn) (fun _ => cs_dk33 h1 ra rb rc hk hD hr hd (fun _ => ⟨⟨by omega, by omega⟩, Or.inr (Or.inl ⟨rfl, r2, ?_⟩)⟩) (fun h _ => absurd h h8) (fun h _ => absurd h h8))))
        refine H 2 _ _ r2 (fun Qm hm => ok_X13_defineKind hl (fun G h2 => ms_dk0 h2 ra rb rc hk2 hd (fun hn => absurd hp hn) (fun _ hn => absurd hr hn) (fun _ _ => ⟨rv, nv, fv, hD, hB, fun _ => ?_, fun h _ => absurd h h8, fun h _ => absurd h h8⟩)))
        exact hm _ _ inR0 (inv_keep i _ (inv_thr0 (inv_thr0 hI))) rfl (fun h => absurd h (by decide))
    · refine Or.inr (ok_X11_defineKind hl (fun G h1 => cs_dk0 h1 ra rb rc (by rw [hk1]; exact hp) (fun _ => go_X11_defineKind_33 h1 ⟨inR0, fun _ => ⟨⟨by omega, by omega⟩, Or.inr (Or.inl ⟨rfl, r2, ?_⟩)⟩, n00⟩) (fun h => absurd h hr)))
      refine H 2 _ _ r2 (fun Qm hm => ok_X13_defineKind hl (fun G h2 => ms_dk0 h2 ra rb rc hk2 hd (fun hn => absurd hp hn) (fun _ _ => ?_) (fun h _ => absurd h hr)))
      exact hm _ _ inR0 (inv_keep i _ (inv_thr0 (inv_thr0 hI))) rfl (fun h => absurd h (by decide))
  · refine Or.inr (ok_X11_defineKind hl (fun G h1 => go_X11_defineKind_0 h1 ⟨ra, ⟨by decide, by decide⟩, fun h => absurd (Or.inl h) hp, fun _ => Or.inr ⟨⟨by omega, by omega⟩, cs_needKind_bad (Ct_fl h1) ra (by rw [hk1]; exact fun h => hp (Or.inr h)) (Or.inl ⟨rfl, inR1, ?_⟩)⟩⟩))
    refine H 1 _ _ inR1 (fun Qm hm => ok_X13_defineKind hl (fun G h2 => ms_dk0 h2 ra rb rc hk2 hd (fun _ => ?_) (fun h _ => absurd h hp) (fun _ h => absurd h hp)))
    exact hm _ _ inR0 (inv_thr hI) rfl (fun h => absurd h (by decide))
theorem st_0 : StpC Inv 0 := by
  intro i G b L xs qo k n x4 M f hC hz hfl h0 h5 hk hM hi hI next
  refine go_law_384 hC hz hk ?_
  unfold T_law_384
  refine ⟨⟨by omega, by omega⟩, fun a1 => ⟨⟨by omega, by omega⟩, fun a2 => ⟨⟨by omega, by omega⟩, fun a3 => ⟨⟨by omega, by omega⟩, fun a4 => ⟨a4, fun he => ?_, fun hne => ?_⟩⟩⟩⟩⟩
  · refine pr_defineKind (d := 0) hfl a1 a2 a3 (Or.inl rfl) hM hi hI f _ (fun r M1 f1 hr h2 => ?_)
    intro zr
    refine ⟨⟨by omega, by omega⟩, fun _ => ⟨⟨by omega, by omega⟩, fun _ => ⟨⟨by omega, by omega⟩, fun _ => ⟨⟨by omega, by omega⟩, fun a5 => ⟨a5, fun _ => ?_, fun hne => absurd he hne⟩⟩⟩⟩⟩
    refine h2 _ (fun v M2 hv hI2 ht he2 z2 => ?_)
    exact tail_I hfl hr ht he2 (next _ _ _ _ (by omega) (by omega) hI2)
  · refine pr_defineKind (d := 1) hfl a1 a2 a3 (Or.inr rfl) hM hi hI f _ (fun r M1 f1 hr h2 => ?_)
    intro zr
    refine ⟨⟨by omega, by omega⟩, fun _ => ⟨⟨by omega, by omega⟩, fun _ => ⟨⟨by omega, by omega⟩, fun _ => ⟨⟨by omega, by omega⟩, fun a5 => ⟨a5, fun he => absurd he hne, fun _ => ?_⟩⟩⟩⟩⟩
    refine h2 _ (fun v M2 hv hI2 ht he2 z2 => ?_)
    exact tail_I hfl hr ht he2 (next _ _ _ _ (by omega) (by omega) hI2)
end Kind6
