/-! ===== defineKind, whole ===== -/
/-- what the new kind is to have -/
def DkP (M : Mem) (a b c d rv nv fv : Int) : Prop := (a = -1 ∧ rv = b ∧ nv = c ∧ fv = (if d = 0 then 0 else 1)) ∨ (0 ≤ a ∧ a < M 72 1 ∧ rv = b + M 74 a.toNat ∧ nv = c + M 75 a.toNat ∧ fv = (if d = 0 then M 76 a.toNat else 1))
def dkRg (b c : Int) : Prop := (0 ≤ b ∧ b ≤ 4) ∧ 0 ≤ c ∧ c ≤ 4
def dkC (M : Mem) (a rv nv fv : Int) : Mem := up (up (up (up (up M 2 (M 1 4).toNat a) 3 (M 1 4).toNat rv) 4 (M 1 4).toNat nv) 5 (M 1 4).toNat fv) 1 4 (M 1 4 + 1)
def dkM (M : Mem) (a rv nv fv : Int) : Mem := up (up (up (up (up M 73 (M 72 1).toNat a) 74 (M 72 1).toNat rv) 75 (M 72 1).toNat nv) 76 (M 72 1).toNat fv) 72 1 (M 72 1 + 1)
section Kind6
variable {B : WB} {l : Launch} {X : va_W} {i : Nat} {M M' : Mem} {qo : Nat} {Q : Int → Mem → Prop} {E : String → Mem → Prop} {a b c d rv nv fv : Int}
theorem dk_bd (hk : IvKd M) (hD : DkP M a b c d rv nv fv) (hr : dkRg b c) (hd : d = 0 ∨ d = 1) : (0 ≤ rv ∧ rv ≤ 12) ∧ (0 ≤ nv ∧ nv ≤ 12) ∧ (fv = 0 ∨ fv = 1) ∧ (-1 ≤ a ∧ a < M 72 1) := by
  obtain ⟨k1, k2, k3⟩ := hk
  obtain ⟨⟨b1, b2⟩, c1, c2⟩ := hr
  rcases hD with ⟨h1, h2, h3, h4⟩ | ⟨h1, h2, h3, h4, h5⟩
  · refine ⟨⟨by omega, by omega⟩, ⟨by omega, by omega⟩, ?_, by omega, by omega⟩
    rcases hd with rfl | rfl
    · rw [if_pos rfl] at h4; exact Or.inl h4
    · rw [if_neg (by decide)] at h4; exact Or.inr h4
  · obtain ⟨q1, q2, q3, q4, q5⟩ := k3 a.toNat (by omega)
    refine ⟨⟨by omega, by omega⟩, ⟨by omega, by omega⟩, ?_, by omega, h2⟩
    rcases hd with rfl | rfl
    · rw [if_pos rfl] at h5; rw [h5]; exact q5
    · rw [if_neg (by decide)] at h5; exact Or.inr h5
/-- the class, from its first test to the second -/
theorem cs_dk0 {G : GT} {k n : Nat} (h : Ct G md_X11_defineKind X (oI Q E) B l k n) (ra : inR a) (rb : inR b) (rc : inR c) (hp : a = -1 ∨ (0 ≤ a ∧ a < M 1 4)) (b0 : ¬ dkRg b c → L_X11_defineKind_33 G X a b c d 0 M) (b1 : dkRg b c → L_X11_defineKind_33 G X a b c d 1 M) : L_X11_defineKind_0 G X a b c d M :=
  go_X11_defineKind_0 h ⟨ra, ⟨by decide, by decide⟩, fun _ => kd_tests rb rc b0 b1, fun hne => Or.inl (cs_needKind_ok (Ct_fl h) ra (hp.resolve_left hne) (kd_tests rb rc b0 b1))⟩
theorem cs_dk33 {G : GT} {k n : Nat} (h : Ct G md_X11_defineKind X (oI Q E) B l k n) (ra : inR a) (rb : inR b) (rc : inR c) (hk : IvKd M) (hD : DkP M a b c d rv nv fv) (hr : dkRg b c) (hd : d = 0 ∨ d = 1)
    (bad : ¬ (rv ≤ 8 ∧ nv ≤ 8) → (1 ≤ k ∧ 6 ≤ n) ∧ E "java/lang/IllegalArgumentException" M)
    (full : rv ≤ 8 ∧ nv ≤ 8 → M 72 1 = 12 → (1 ≤ k ∧ 6 ≤ n) ∧ E "java/lang/IllegalStateException" M)
    (good : rv ≤ 8 ∧ nv ≤ 8 → M 72 1 < 12 → inR (M 1 4) → Q (M 1 4) (dkC M a rv nv fv)) : L_X11_defineKind_33 G X a b c d 1 M := by
  obtain ⟨y1, y2, y3, y4⟩ := dk_bd hk hD hr hd
  obtain ⟨k1, k2, k3⟩ := hk
  have r8 : inR 8 := ⟨by decide, by decide⟩
  have r12 : inR 12 := ⟨by decide, by decide⟩
  have irv : inR rv := ⟨by omega, by omega⟩
  have inv : inR nv := ⟨by omega, by omega⟩
  have hdr : inR d := ⟨by omega, by omega⟩
  have hR : (a = -1 ∧ rv = b) ∨ (0 ≤ a ∧ a < M 1 4 ∧ a < 12 ∧ M 3 a.toNat + b = rv) := by
    rcases hD with ⟨h1, h2, -, -⟩ | ⟨h1, h2, h3, -, -⟩
    · exact Or.inl ⟨h1, h2⟩
    · have := (k3 a.toNat (by omega)).1.2.1
      exact Or.inr ⟨h1, by omega, by omega, by omega⟩
  have hN : (a = -1 ∧ nv = c) ∨ (0 ≤ a ∧ a < M 1 4 ∧ a < 12 ∧ M 4 a.toNat + c = nv) := by
    rcases hD with ⟨h1, -, h2, -⟩ | ⟨h1, h2, -, h3, -⟩
    · exact Or.inl ⟨h1, h2⟩
    · have := (k3 a.toNat (by omega)).1.2.2.1
      exact Or.inr ⟨h1, by omega, by omega, by omega⟩
  have hF : (d ≠ 0 ∧ fv = 1) ∨ (d = 0 ∧ ((a = -1 ∧ fv = 0) ∨ (0 ≤ a ∧ a < M 1 4 ∧ a < 12 ∧ M 5 a.toNat = fv ∧ (fv = 0 ∨ fv = 1)))) := by
    rcases hd with rfl | rfl
    · refine Or.inr ⟨rfl, ?_⟩
      rcases hD with ⟨h1, -, -, h2⟩ | ⟨h1, h2, -, -, h3⟩
      · exact Or.inl ⟨h1, by rw [h2, if_pos rfl]⟩
      · have := (k3 a.toNat (by omega)).1.2.2.2
        rw [if_pos rfl] at h3
        exact Or.inr ⟨h1, by omega, by omega, by omega, y3⟩
    · refine Or.inl ⟨by decide, ?_⟩
      rcases hD with ⟨-, -, -, h2⟩ | ⟨-, -, -, -, h2⟩ <;> rw [h2, if_neg (by decide)]
  refine go_X11_defineKind_33 h ⟨inR1, n10, fun _ => cs_refs (v := rv) (Ct_fl h) ra rb irv hR (fun z => ⟨z, r8, fun hgt => bad (fun w => by omega), fun h1 => cs_nums (v := nv) (Ct_fl h) ra rc inv hN (fun z2 => ⟨z2, r8, fun h2 z3 => ⟨z3, r12, fun hlt => ?_, fun hge => full ⟨h1, h2⟩ (by omega)⟩, fun hgt => bad (fun w => by omega)⟩)⟩)⟩
  exact cs_kadd (Ct_fl h) ra rb rc hdr ⟨by omega, hlt⟩ irv inv hR hN hF (fun z4 => fun z5 => ⟨z5, good ⟨h1, h2⟩ (by omega) z4⟩)
theorem dk_inv (hI : Inv i M) (hD : DkP M a b c d rv nv fv) (hr : dkRg b c) (hd : d = 0 ∨ d = 1) (h8 : rv ≤ 8 ∧ nv ≤ 8) (hc : M 72 1 < 12) : Inv (i + 1) (dkM (up (dkC M a rv nv fv) 72 0 0) a rv nv fv) := by
  obtain ⟨y1, y2, y3, y4⟩ := dk_bd hI.kd hD hr hd
  obtain ⟨k1, k2, k3⟩ := hI.kd
  have eK : (up (dkC M a rv nv fv) 72 0 0) 72 1 = M 72 1 := rfl
  refine inv_keep i _ (inv_kind hI hc y4 ⟨y1.1, h8.1⟩ ⟨y2.1, h8.2⟩ y3 ⟨fun o k h1 h2 h3 h4 => ?_, ⟨?_, ?_⟩, ⟨?_, ?_, ?_, ?_⟩, ⟨?_, ?_, ?_, ?_⟩⟩)
  · unfold dkM
    rw [eK]
    rw [up_n (by omega), up_n (by omega), up_n (by omega), up_n (by omega), up_n (by omega), up_n (by omega)]
    unfold dkC
    rw [k1]
    rw [up_n (by omega), up_n (by omega), up_n (by omega), up_n (by omega), up_n (by omega)]
  · show M 1 4 + 1 = M 72 1 + 1
    rw [k1]
  · rfl
  · show up M 2 (M 1 4).toNat a 2 (M 72 1).toNat = a
    rw [k1]; exact up_s _ _ _ _
  · show up M 3 (M 1 4).toNat rv 3 (M 72 1).toNat = rv
    rw [k1]; exact up_s _ _ _ _
  · show up M 4 (M 1 4).toNat nv 4 (M 72 1).toNat = nv
    rw [k1]; exact up_s _ _ _ _
  · show up M 5 (M 1 4).toNat fv 5 (M 72 1).toNat = fv
    rw [k1]; exact up_s _ _ _ _
  · show up M 73 (M 72 1).toNat a 73 (M 72 1).toNat = a
    exact up_s _ _ _ _
  · show up M 74 (M 72 1).toNat rv 74 (M 72 1).toNat = rv
    exact up_s _ _ _ _
  · show up M 75 (M 72 1).toNat nv 75 (M 72 1).toNat = nv
    exact up_s _ _ _ _
  · show up M 76 (M 72 1).toNat fv 76 (M 72 1).toNat = fv
    exact up_s _ _ _ _
theorem dk_ex (M : Mem) (a b c d : Int) (hp : a = -1 ∨ (0 ≤ a ∧ a < M 72 1)) : ∃ rv nv fv, DkP M a b c d rv nv fv := by
  rcases hp with h | ⟨h1, h2⟩
  · exact ⟨_, _, _, Or.inl ⟨h, rfl, rfl, rfl⟩⟩
  · exact ⟨_, _, _, Or.inr ⟨h1, h2, rfl, rfl, rfl⟩⟩
end Kind6
