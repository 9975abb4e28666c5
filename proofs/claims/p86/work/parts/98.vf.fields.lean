/-! ===== deeds of fields, by hand ===== -/
section Fld
variable {B : WB} {l : Launch} {S : Sh} {D M N : Mem} {c : SC} {i kc nc : Nat} {x1 a b e : Int} {Q : Int → Sh → Mem → Prop}
theorem nr_inR (hS : SOK S D) (hO : SrO N S D c) {u : Nat} {n : Int} (h : Nr N D c u n) : inR n := by
  rcases h with h | ⟨p, h1, -, h3⟩
  · rw [h.2]; exact ⟨by decide, by decide⟩
  · have ht := hO.2.2 p h1
    rw [h3, ← ht.2.1.1]
    exact (hS.2 _ _ _ _ ht.1).2 0 rfl
/-- what a slot holds: nothing, or one object -/
theorem sl_what (hI : Inv i N) (hR : SR N S D c) (ha : 0 ≤ a ∧ a < wd N) : (slD N D c a = 0 ∧ N 89 (sx N a) = -1) ∨ ∃ p : Nat, (p : Int) < N 80 0 ∧ slD N D c a = tg c D p ∧ N 89 (sx N a) = N 81 p := sl_nr hR.f hI.fr.fs ha
theorem lnk_bd (hI : Inv i N) {p : Nat} (hp : (p : Int) < N 80 0) : (0 ≤ lnkR N 80 p ∧ lnkR N 80 p ≤ 1000) ∧ (0 ≤ numR N p ∧ numR N p ≤ 1000) ∧ 0 ≤ capR N p ∧ capR N p ≤ 1000 := by
  obtain ⟨⟨l0, n0, c0⟩, cu1, cu2, -⟩ := siz_cut hI hp
  have h1 := sh_ok hI p hp
  have h2 := at_in hI hp
  refine ⟨h1.1, ⟨n0, ?_⟩, h1.2⟩
  have hw := ob_what hI hp
  unfold numR
  by_cases z : N 82 p = 0
  · rw [if_pos z]
    have h83 := ((hI.ob.2.2.2.2.2.1 p hp).2.2.1 z).2
    obtain ⟨-, -, v2, v3, v4⟩ := hI.kd.2.2 (N 83 p).toNat (by have := hI.kd.1; omega)
    omega
  · rw [if_neg z]
    split <;> omega
theorem frm_b (hI : Inv i N) {p : Nat} (hp : (p : Int) < N 80 0) : 0 ≤ N 82 p ∧ N 82 p ≤ 6 := (ob_what hI hp).1
theorem rw_b (hS : SOK S D) {t r o' n j : Nat} (h : lk S t = some (r, o', n)) (hr : shD r = 100) : inR (D t j) := (hS.2 t r o' n h).2 j (by rw [hr]; rfl)
section L70
variable {G : GT} {Qd : Int → Mem → Prop} {p : Nat} {q : Int}
/-- the checks of a field's place; then `next` -/
theorem f70 (hG : CtU G md_X12_dueOfFields [] S (uD kI S M Qd) B l 0 0) (hI : Inv i N) (hR : SR N S D c) (hx : x1 = 14 ∨ x1 = 15) (hq : inR q) (h0 : N 89 (sx N b) = -1 → Qd (-1012) D) (hb : 0 ≤ b ∧ b < wd N) (h1 : ∀ p : Nat, (p : Int) < N 80 0 → N 89 (sx N b) = N 81 p → ¬ (0 ≤ q ∧ q < lnkR N 80 p) → Qd (-1012) D)
    (nx : ∀ p : Nat, (p : Int) < N 80 0 → N 89 (sx N b) = N 81 p → slD N D c b = tg c D p → 0 ≤ q → q < lnkR N 80 p → (x1 ≠ 14 → OkU (gB G) (gl G) md_X12_at [] 0 0 [rv (s_m c), .int (I e)] S D M (uN kR S D M (fun (r150 : Nat) => ((∃ L : Nat, IsA S (D (tg c D p) 4).toNat 102 L ∧ 0 ≤ q ∧ q < L) ∧ (r150 = 0 ∨ IsC S r150 13) ∧ ∀ D1 : Mem, D1 = up D (D (tg c D p) 4).toNat q.toNat (r150 : Int) → (inR (N 87 ((N 84 p).toNat + q.toNat)) ∧ Qd (N 87 ((N 84 p).toNat + q.toNat)) D1))))) ∧ (x1 = 14 → OkU (gB G) (gl G) md_X12_hold [] 0 0 [rv (s_m c), .int (I a), rv (D (D (tg c D p) 4).toNat q.toNat).toNat] S D M (uD kI S M (fun (r136 : Int) D1 => inR r136 → (inR r136 ∧ Qd r136 D1))))) :
    L_X12_dueOfFields_70 G S D M (s_m c) x1 a e (slD N D c b) q := by
  intro hS
  have hL := hR.l
  have hO := hR.o
  rcases sl_what hI hR hb with ⟨e0, e1⟩ | ⟨p, hp, e0, e1⟩
  · rw [e0]
    exact go_X12_dueOfFields_70 hG (smC hL) ⟨fun h => absurd rfl h, fun _ => ⟨⟨by decide, by decide⟩, h0 e1⟩⟩ hS
  · have ht := hO.2.2 p hp
    have hC := thC ht
    have hne := tg_ne hS hO hp
    obtain ⟨b1, b2, b3⟩ := lnk_bd hI hp
    have h4 := ht.2.2.1.1
    have el := lnS_of h4
    have n12 := fun h => h1 p hp e1 h
    have hnx := nx p hp e1 e0
    rw [e0]
    refine go_X12_dueOfFields_70 hG (smC hL) ⟨fun _ => ⟨⟨by omega, by omega⟩, ⟨by decide, by decide⟩, fun z => absurd z (by omega), fun _ => ⟨hq, fun hn => ⟨⟨by decide, by decide⟩, n12 (by omega)⟩, fun hpos => ⟨hC, fun u hu => ?_⟩⟩⟩, fun z => absurd z hne⟩ hS
    rw [hu]
    refine ⟨⟨102, _, ⟨7, _, h4, rfl⟩, by decide⟩, fun w hw => ?_⟩
    rw [hw, el]
    refine ⟨hq, ⟨by omega, by omega⟩, fun hlt => ⟨hC, fun u2 hu2 => ?_⟩, fun hge => ⟨⟨by decide, by decide⟩, n12 (by omega)⟩⟩
    rw [hu2]
    refine ⟨⟨_, ⟨7, _, h4, rfl⟩, by omega, by omega⟩, fun u3 hu3 => ?_⟩
    have hn := ht.2.2.2.2.1 q.toNat (by omega)
    obtain ⟨y1, y2⟩ := hnx hpos (by omega)
    rw [hu3]
    refine w_number (CtU_fl hG) hO hn (fun zz z9 => ⟨⟨by omega, by omega⟩, ⟨by decide, by decide⟩, fun hx9 => ⟨hC, fun u4 hu4 => ?_⟩, fun hx9 => ⟨hC, fun u4 hu4 => ?_⟩⟩)
    · rw [hu4]
      exact y1 hx9
    · rw [hu4]
      exact ⟨⟨_, ⟨7, _, h4, rfl⟩, by omega, by omega⟩, fun u5 hu5 => by rw [hu5]; exact y2 hx9⟩
end L70
theorem du_14 (hl : l.stackTraces = false) (hI : Inv i N) (hR : SR N S D c) (ha : 0 ≤ a ∧ a < wd N) (hb : 0 ≤ b ∧ b < wd N) (he : inR e) (q0 : N 89 (sx N b) = -1 → Q (-1012) S D) (q1 : ∀ p : Nat, (p : Int) < N 80 0 → N 89 (sx N b) = N 81 p → ¬ (0 ≤ e ∧ e < lnkR N 80 p) → Q (-1012) S D) (q2 : ∀ p : Nat, (p : Int) < N 80 0 → N 89 (sx N b) = N 81 p → 0 ≤ e → e < lnkR N 80 p → ∀ D1, (∀ V, HdN N V a (N 87 ((N 84 p).toNat + e.toNat)) → SR V S D1 c) → Q (N 87 ((N 84 p).toNat + e.toNat)) S D1) : OkU B l md_X12_due [] kc nc [rv (s_m c), .int (I 14), .int (I a), .int (I b), .int (I e)] S D M (uS kI M Q) := by
  have hL := hR.l
  have hO := hR.o
  have hF := hR.f
  have hf := hI.fr.fs
  have hwb := wd_b hf
  refine due_f hl hL ⟨by decide, by decide⟩ (fun B' l' hl' => ok_X12_dueOfFields hl' (fun G hG hS => go_X12_dueOfFields_0 hG (smC hL) ?_ hS))
  refine w_isSlotY (CtU_fl hG) hL hF hf ha (fun z1 => ⟨inR_b z1, n10, fun _ => ⟨⟨by decide, by decide⟩, ⟨by decide, by decide⟩, fun z => absurd rfl z, fun _ => w_isSlotY (CtU_fl hG) hL hF hf hb (fun z2 => ⟨inR_b z2, n10, fun _ => ?_⟩)⟩⟩)
  refine go_X12_dueOfFields_22 hG (smC hL) ⟨⟨by decide, by decide⟩, ⟨by decide, by decide⟩, fun _ => ⟨⟨by decide, by decide⟩, ⟨by decide, by decide⟩, fun z => absurd rfl z, fun _ => w_at (CtU_fl hG) hL hF hf hb ⟨⟨by decide, by decide⟩, ⟨by decide, by decide⟩, fun z => absurd rfl z, fun _ => f70 hG hI hR (Or.inl rfl) he q0 hb q1 (fun p hp e1 e0 h1 h2 => ⟨fun z => absurd rfl z, fun _ => ?_⟩)⟩⟩, fun z => absurd z (by decide)⟩
  have hn := (hO.2.2 p hp).2.2.2.2.1 e.toNat (by omega)
  have e9 : ((e.toNat : Nat) : Int) = e := by omega
  exact w_hold (CtU_fl hG) hL hO hF hf ha hn (fun zz z9 => ⟨z9, q2 p hp e1 h1 h2 _ (fun V hV => sr_hd hI hR ha hn hV)⟩)
theorem du_15 (hl : l.stackTraces = false) (hI : Inv i N) (hR : SR N S D c) (ha : 0 ≤ a ∧ a < wd N) (hb : inR b) (he : 0 ≤ e ∧ e < wd N) (q0 : N 89 (sx N a) = -1 → Q (-1012) S D) (q1 : ∀ p : Nat, (p : Int) < N 80 0 → N 89 (sx N a) = N 81 p → ¬ (0 ≤ b ∧ b < lnkR N 80 p) → Q (-1012) S D) (q2 : ∀ p : Nat, (p : Int) < N 80 0 → N 89 (sx N a) = N 81 p → 0 ≤ b → b < lnkR N 80 p → ∀ D1, (∀ V, CeN N V p b.toNat (N 89 (sx N e)) → SR V S D1 c) → Q (N 87 ((N 84 p).toNat + b.toNat)) S D1) : OkU B l md_X12_due [] kc nc [rv (s_m c), .int (I 15), .int (I a), .int (I b), .int (I e)] S D M (uS kI M Q) := by
  have hL := hR.l
  have hO := hR.o
  have hF := hR.f
  have hf := hI.fr.fs
  have hwb := wd_b hf
  refine due_f hl hL ⟨by decide, by decide⟩ (fun B' l' hl' => ok_X12_dueOfFields hl' (fun G hG hS => go_X12_dueOfFields_0 hG (smC hL) ?_ hS))
  refine w_isSlotY (CtU_fl hG) hL hF hf ha (fun z1 => ⟨inR_b z1, n10, fun _ => ⟨⟨by decide, by decide⟩, ⟨by decide, by decide⟩, fun _ => ?_, fun z => absurd z (by decide)⟩⟩)
  refine go_X12_dueOfFields_22 hG (smC hL) ⟨⟨by decide, by decide⟩, ⟨by decide, by decide⟩, fun z => absurd rfl z, fun _ => w_isSlotY (CtU_fl hG) hL hF hf he (fun z2 => ⟨inR_b z2, fun _ => ⟨⟨by decide, by decide⟩, ⟨by decide, by decide⟩, fun _ => w_at (CtU_fl hG) hL hF hf ha ⟨⟨by decide, by decide⟩, ⟨by decide, by decide⟩, fun _ => f70 hG hI hR (Or.inr rfl) hb q0 ha q1 (fun p hp e1 e0 h1 h2 => ⟨fun _ => ?_, fun z => absurd z (by decide)⟩), fun z => absurd z (by decide)⟩, fun z => absurd z (by decide)⟩, n10⟩)⟩
  have ht := hO.2.2 p hp
  have h4 := ht.2.2.1.1
  have hb9 := (lnk_bd hI hp).1
  have hv := sl_nr hF hf he
  have hin : inR (N 87 ((N 84 p).toNat + b.toNat)) := nr_inR hS hO (ht.2.2.2.2.1 b.toNat (by omega))
  refine w_at (CtU_fl hG) hL hF hf he ⟨⟨_, ⟨7, _, h4, rfl⟩, by omega, by omega⟩, nrC hO hv, fun D1 hD1 => ⟨hin, q2 p hp e1 h1 h2 D1 (fun V hV => sr_fld hI hR hp (by omega) hv hV hD1)⟩⟩
section L215
variable {G : GT} {Qd : Int → Mem → Prop}
theorem f215 (hG : CtU G md_X12_dueOfFields [] S (uD kI S M Qd) B l 0 0) (hI : Inv i N) (hR : SR N S D c) (hx : x1 = 16 ∨ x1 = 17 ∨ x1 = 18 ∨ x1 = 19) (he : inR e) {p : Nat} (hp : (p : Int) < N 80 0) (hb : 0 ≤ b ∧ b < numR N p) (h3 : x1 = 19 → N 16 (N 19 p).toNat ≠ 0 → Qd (-1013) D) (h1 : x1 = 16 ∨ x1 = 18 → Qd (N 87 ((N 84 p).toNat + (lnkR N 80 p).toNat + b.toNat)) D)
    (h2 : x1 = 17 ∨ (x1 = 19 ∧ N 16 (N 19 p).toNat = 0) → ∀ D1, D1 = up D (D (tg c D p) 5).toNat b.toNat e → Qd (N 87 ((N 84 p).toNat + (lnkR N 80 p).toNat + b.toNat)) D1) : L_X12_dueOfFields_215 G S D M (s_m c) x1 e (tg c D p) b := by
  intro hS
  have hL := hR.l
  have ht := hR.o.2.2 p hp
  have hC := thC ht
  have h5 := ht.2.2.1.2.1
  have e2 := ht.2.2.2.2.2.1 b.toNat (by omega)
  have ia : ∃ L : Nat, IsA S (D (tg c D p) 5).toNat 100 L ∧ 0 ≤ b ∧ b < L := ⟨_, ⟨14, _, h5, rfl⟩, by omega, by omega⟩
  have hin : inR (D (D (tg c D p) 5).toNat b.toNat) := rw_b hS h5 rfl
  have e14 : D (tg c D p) 14 = N 16 (N 19 p).toNat := ht.2.2.2.1.2.2.2.2.2
  have rest : (x1 = 19 → N 16 (N 19 p).toNat = 0) → (∀ u235 : Nat, u235 = (D (tg c D p) 5).toNat → ((∃ L : Nat, IsA S u235 100 L ∧ 0 ≤ b ∧ b < L) ∧ (inR (D u235 b.toNat) → ((0 ≤ x1 ∧ x1 < 2147483648 ∧ 0 < (2 : Int) ∧ (2 : Int) < 2147483648) ∧ (inR (x1 % 2) ∧ inR (1 : Int) ∧ (x1 % 2 ≠ 1 → (inR (D u235 b.toNat) ∧ Qd (D u235 b.toNat) D)) ∧ (x1 % 2 = 1 → (IsC S (tg c D p) 13 ∧ (∀ u252 : Nat, u252 = (D (tg c D p) 5).toNat → ((∃ L : Nat, IsA S u252 100 L ∧ 0 ≤ b ∧ b < L) ∧ inR e ∧ ∀ D1 : Mem, D1 = up D u252 b.toNat e → (inR (D u235 b.toNat) ∧ Qd (D u235 b.toNat) D1)))))))))) := by
    intro h19 u hu
    rw [hu]
    refine ⟨ia, fun z1 => ⟨⟨by omega, by omega, by decide, by decide⟩, ⟨by omega, by omega⟩, ⟨by decide, by decide⟩, fun h => ⟨z1, ?_⟩, fun h => ⟨hC, fun u2 hu2 => ?_⟩⟩⟩
    · rw [e2]
      exact h1 (by omega)
    · rw [hu2]
      refine ⟨ia, he, fun D1 hD1 => ⟨z1, ?_⟩⟩
      rw [e2]
      refine h2 ?_ D1 hD1
      rcases hx with y | y | y | y
      · omega
      · exact Or.inl y
      · omega
      · exact Or.inr ⟨y, h19 y⟩
  exact go_X12_dueOfFields_215 hG (smC hL) ⟨⟨by omega, by omega⟩, ⟨by decide, by decide⟩, fun h => ⟨hC, rest (fun z => absurd z h)⟩, fun h => ⟨hC, fun z1 => ⟨z1, fun h0 => ⟨hC, rest (fun _ => e14.symm.trans h0)⟩, fun h0 => ⟨⟨by decide, by decide⟩, h3 h (fun z => h0 (e14.trans z))⟩⟩⟩⟩ hS
/-- numbers (form fm = 0) and bytes (fm = 2) -/
theorem f70n {fm : Int} (hG : CtU G md_X12_dueOfFields [] S (uD kI S M Qd) B l 0 0) (hI : Inv i N) (hR : SR N S D c) (hx : ((x1 = 16 ∨ x1 = 17) ∧ fm = 0) ∨ ((x1 = 18 ∨ x1 = 19) ∧ fm = 2)) (ha : 0 ≤ a ∧ a < wd N) (hb : inR b) (he : inR e) (h0 : N 89 (sx N a) = -1 → Qd (-1012) D) (h1 : ∀ p : Nat, (p : Int) < N 80 0 → N 89 (sx N a) = N 81 p → ¬ ((N 82 p = fm ∧ 0 ≤ b ∧ b < numR N p) ∧ (x1 = 19 → 0 ≤ e ∧ e ≤ 255)) → Qd (-1012) D)
    (h3 : ∀ p : Nat, (p : Int) < N 80 0 → N 89 (sx N a) = N 81 p → (N 82 p = fm ∧ 0 ≤ b ∧ b < numR N p) → (x1 = 19 → 0 ≤ e ∧ e ≤ 255) → x1 = 19 → N 16 (N 19 p).toNat ≠ 0 → Qd (-1013) D)
    (h2 : ∀ p : Nat, (p : Int) < N 80 0 → N 89 (sx N a) = N 81 p → (N 82 p = fm ∧ 0 ≤ b ∧ b < numR N p) → (x1 = 16 ∨ x1 = 18) → Qd (N 87 ((N 84 p).toNat + (lnkR N 80 p).toNat + b.toNat)) D)
    (h4 : ∀ p : Nat, (p : Int) < N 80 0 → N 89 (sx N a) = N 81 p → (N 82 p = fm ∧ 0 ≤ b ∧ b < numR N p) → (x1 = 19 → 0 ≤ e ∧ e ≤ 255) → (x1 = 17 ∨ (x1 = 19 ∧ N 16 (N 19 p).toNat = 0)) → ∀ D1, (∀ V, CeN N V p ((lnkR N 80 p).toNat + b.toNat) e → SR V S D1 c) → Qd (N 87 ((N 84 p).toNat + (lnkR N 80 p).toNat + b.toNat)) D1) : L_X12_dueOfFields_70 G S D M (s_m c) x1 a e (slD N D c a) b := by
  intro hS
  have hL := hR.l
  have hO := hR.o
  rcases sl_what hI hR ha with ⟨e0, e1⟩ | ⟨p, hp, e0, e1⟩
  · rw [e0]
    exact go_X12_dueOfFields_70 hG (smC hL) ⟨fun h => absurd rfl h, fun _ => ⟨⟨by decide, by decide⟩, h0 e1⟩⟩ hS
  · have ht := hO.2.2 p hp
    have hC := thC ht
    have hne := tg_ne hS hO hp
    obtain ⟨b1, b2, b3⟩ := lnk_bd hI hp
    have h5 := ht.2.2.1.2.1
    have el := lnS_of h5
    have hfm := ht.2.1.2.1
    have hfb := frm_b hI hp
    have n12 := fun h => h1 p hp e1 h
    have last : N 82 p = fm → 0 ≤ b → b < numR N p → (x1 = 19 → 0 ≤ e ∧ e ≤ 255) → L_X12_dueOfFields_215 G S D M (s_m c) x1 e (tg c D p) b := fun z1 z2 z3 z4 => f215 hG hI hR (by omega) he hp ⟨z2, z3⟩ (fun z5 z6 => h3 p hp e1 ⟨z1, z2, z3⟩ z4 z5 z6) (fun z5 => h2 p hp e1 ⟨z1, z2, z3⟩ z5) (fun z5 D1 hD1 => h4 p hp e1 ⟨z1, z2, z3⟩ z4 z5 D1 (fun V hV => sr_tell hI hR hp (by omega) hV hD1))
    have tail : N 82 p = fm → (inR b ∧ (b < 0 → (inR (-1012 : Int) ∧ Qd (-1012 : Int) D)) ∧ (0 ≤ b → (IsC S (tg c D p) 13 ∧ (∀ u185 : Nat, u185 = (D (tg c D p) 5).toNat → ((∃ c L : Nat, IsA S u185 c L ∧ 100 ≤ c) ∧ ∀ w188 : Nat, w188 = lnS S u185 → (inR b ∧ inR (w188 : Int) ∧ ((w188 : Int) ≤ b → (inR (-1012 : Int) ∧ Qd (-1012 : Int) D)) ∧ (b < (w188 : Int) → (inR x1 ∧ inR (19 : Int) ∧ (x1 ≠ (19 : Int) → L_X12_dueOfFields_215 G S D M (s_m c) x1 e (tg c D p) b) ∧ (x1 = (19 : Int) → (inR e ∧ (e < 0 → (inR (-1012 : Int) ∧ Qd (-1012 : Int) D)) ∧ (0 ≤ e → (inR e ∧ inR (255 : Int) ∧ (e ≤ (255 : Int) → L_X12_dueOfFields_215 G S D M (s_m c) x1 e (tg c D p) b) ∧ ((255 : Int) < e → (inR (-1012 : Int) ∧ Qd (-1012 : Int) D)))))))))))))) := by
      intro hz
      refine ⟨hb, fun hn => ⟨⟨by decide, by decide⟩, n12 (by omega)⟩, fun hpos => ⟨hC, fun u hu => ?_⟩⟩
      rw [hu]
      refine ⟨⟨100, _, ⟨14, _, h5, rfl⟩, by decide⟩, fun w hw => ?_⟩
      rw [hw, el]
      refine ⟨hb, ⟨by omega, by omega⟩, fun hge => ⟨⟨by decide, by decide⟩, n12 (by omega)⟩, fun hlt => ⟨⟨by omega, by omega⟩, ⟨by decide, by decide⟩, fun h19 => last hz hpos (by omega) (fun z => absurd z h19), fun h19 => ⟨he, fun hn => ⟨⟨by decide, by decide⟩, n12 (by omega)⟩, fun hp0 => ⟨he, ⟨by decide, by decide⟩, fun h255 => last hz hpos (by omega) (fun _ => ⟨hp0, h255⟩), fun h255 => ⟨⟨by decide, by decide⟩, n12 (by omega)⟩⟩⟩⟩⟩
    rw [e0]
    refine go_X12_dueOfFields_70 hG (smC hL) ⟨fun _ => ⟨⟨by omega, by omega⟩, ⟨by decide, by decide⟩, fun _ => ⟨hC, fun z1 => ⟨⟨by omega, by omega⟩, ⟨by decide, by decide⟩, fun h18 => ?_, fun h18 => ?_⟩⟩, fun z => absurd z (by omega)⟩, fun z => absurd z hne⟩ hS
    · rw [hfm]
      exact ⟨⟨by omega, by omega⟩, ⟨by decide, by decide⟩, fun hne2 => ⟨⟨by decide, by decide⟩, n12 (by omega)⟩, fun h2 => tail (by omega)⟩
    · rw [hfm]
      exact ⟨⟨by omega, by omega⟩, ⟨by decide, by decide⟩, fun hne2 => ⟨⟨by decide, by decide⟩, n12 (by omega)⟩, fun h2 => tail (by omega)⟩
end L215
theorem du_16 (hl : l.stackTraces = false) (hI : Inv i N) (hR : SR N S D c) (ha : 0 ≤ a ∧ a < wd N) (hb : inR b) (he : inR e) (q0 : N 89 (sx N a) = -1 → Q (-1012) S D) (q1 : ∀ p : Nat, (p : Int) < N 80 0 → N 89 (sx N a) = N 81 p → ¬ (N 82 p = 0 ∧ 0 ≤ b ∧ b < numR N p) → Q (-1012) S D) (q2 : ∀ p : Nat, (p : Int) < N 80 0 → N 89 (sx N a) = N 81 p → (N 82 p = 0 ∧ 0 ≤ b ∧ b < numR N p) → Q (N 87 ((N 84 p).toNat + (lnkR N 80 p).toNat + b.toNat)) S D) : OkU B l md_X12_due [] kc nc [rv (s_m c), .int (I 16), .int (I a), .int (I b), .int (I e)] S D M (uS kI M Q) := by
  have hL := hR.l
  have hO := hR.o
  have hF := hR.f
  have hf := hI.fr.fs
  have hwb := wd_b hf
  refine due_f hl hL ⟨by decide, by decide⟩ (fun B' l' hl' => ok_X12_dueOfFields hl' (fun G hG hS => go_X12_dueOfFields_0 hG (smC hL) ?_ hS))
  refine w_isSlotY (CtU_fl hG) hL hF hf ha (fun z1 => ⟨inR_b z1, n10, fun _ => ⟨⟨by decide, by decide⟩, ⟨by decide, by decide⟩, fun _ => ?_, fun z => absurd z (by decide)⟩⟩)
  refine go_X12_dueOfFields_22 hG (smC hL) ⟨⟨by decide, by decide⟩, ⟨by decide, by decide⟩, fun _ => ⟨⟨by decide, by decide⟩, ⟨by decide, by decide⟩, fun _ => w_at (CtU_fl hG) hL hF hf ha ⟨⟨by decide, by decide⟩, ⟨by decide, by decide⟩, fun _ => ?_, fun z => absurd z (by decide)⟩, fun z => absurd z (by decide)⟩, fun z => absurd z (by decide)⟩
  exact f70n hG hI hR (Or.inl ⟨Or.inl rfl, rfl⟩) ha hb he q0 (fun p hp e1 h => q1 p hp e1 (fun z => h ⟨z, fun z => absurd z (by decide)⟩)) (fun p hp e1 h h19 z => absurd z (by decide)) (fun p hp e1 h _ => q2 p hp e1 h) (fun p hp e1 h h19 z => z.elim (fun y => absurd y (by decide)) (fun y => absurd y.1 (by decide)))
theorem du_17 (hl : l.stackTraces = false) (hI : Inv i N) (hR : SR N S D c) (ha : 0 ≤ a ∧ a < wd N) (hb : inR b) (he : inR e) (q0 : N 89 (sx N a) = -1 → Q (-1012) S D) (q1 : ∀ p : Nat, (p : Int) < N 80 0 → N 89 (sx N a) = N 81 p → ¬ (N 82 p = 0 ∧ 0 ≤ b ∧ b < numR N p) → Q (-1012) S D) (q2 : ∀ p : Nat, (p : Int) < N 80 0 → N 89 (sx N a) = N 81 p → (N 82 p = 0 ∧ 0 ≤ b ∧ b < numR N p) → ∀ D1, (∀ V, CeN N V p ((lnkR N 80 p).toNat + b.toNat) e → SR V S D1 c) → Q (N 87 ((N 84 p).toNat + (lnkR N 80 p).toNat + b.toNat)) S D1) : OkU B l md_X12_due [] kc nc [rv (s_m c), .int (I 17), .int (I a), .int (I b), .int (I e)] S D M (uS kI M Q) := by
  have hL := hR.l
  have hO := hR.o
  have hF := hR.f
  have hf := hI.fr.fs
  have hwb := wd_b hf
  refine due_f hl hL ⟨by decide, by decide⟩ (fun B' l' hl' => ok_X12_dueOfFields hl' (fun G hG hS => go_X12_dueOfFields_0 hG (smC hL) ?_ hS))
  refine w_isSlotY (CtU_fl hG) hL hF hf ha (fun z1 => ⟨inR_b z1, n10, fun _ => ⟨⟨by decide, by decide⟩, ⟨by decide, by decide⟩, fun _ => ?_, fun z => absurd z (by decide)⟩⟩)
  refine go_X12_dueOfFields_22 hG (smC hL) ⟨⟨by decide, by decide⟩, ⟨by decide, by decide⟩, fun _ => ⟨⟨by decide, by decide⟩, ⟨by decide, by decide⟩, fun _ => w_at (CtU_fl hG) hL hF hf ha ⟨⟨by decide, by decide⟩, ⟨by decide, by decide⟩, fun _ => ?_, fun z => absurd z (by decide)⟩, fun z => absurd z (by decide)⟩, fun z => absurd z (by decide)⟩
  exact f70n hG hI hR (Or.inl ⟨Or.inr rfl, rfl⟩) ha hb he q0 (fun p hp e1 h => q1 p hp e1 (fun z => h ⟨z, fun z => absurd z (by decide)⟩)) (fun p hp e1 h h19 z => absurd z (by decide)) (fun p hp e1 h z => absurd z (by decide)) (fun p hp e1 h h19 _ D1 hV => q2 p hp e1 h D1 hV)
theorem du_18 (hl : l.stackTraces = false) (hI : Inv i N) (hR : SR N S D c) (ha : 0 ≤ a ∧ a < wd N) (hb : inR b) (he : inR e) (q0 : N 89 (sx N a) = -1 → Q (-1012) S D) (q1 : ∀ p : Nat, (p : Int) < N 80 0 → N 89 (sx N a) = N 81 p → ¬ (N 82 p = 2 ∧ 0 ≤ b ∧ b < numR N p) → Q (-1012) S D) (q2 : ∀ p : Nat, (p : Int) < N 80 0 → N 89 (sx N a) = N 81 p → (N 82 p = 2 ∧ 0 ≤ b ∧ b < numR N p) → Q (N 87 ((N 84 p).toNat + (lnkR N 80 p).toNat + b.toNat)) S D) : OkU B l md_X12_due [] kc nc [rv (s_m c), .int (I 18), .int (I a), .int (I b), .int (I e)] S D M (uS kI M Q) := by
  have hL := hR.l
  have hO := hR.o
  have hF := hR.f
  have hf := hI.fr.fs
  have hwb := wd_b hf
  refine due_f hl hL ⟨by decide, by decide⟩ (fun B' l' hl' => ok_X12_dueOfFields hl' (fun G hG hS => go_X12_dueOfFields_0 hG (smC hL) ?_ hS))
  refine w_isSlotY (CtU_fl hG) hL hF hf ha (fun z1 => ⟨inR_b z1, n10, fun _ => ⟨⟨by decide, by decide⟩, ⟨by decide, by decide⟩, fun _ => ?_, fun z => absurd z (by decide)⟩⟩)
  refine go_X12_dueOfFields_22 hG (smC hL) ⟨⟨by decide, by decide⟩, ⟨by decide, by decide⟩, fun _ => ⟨⟨by decide, by decide⟩, ⟨by decide, by decide⟩, fun _ => w_at (CtU_fl hG) hL hF hf ha ⟨⟨by decide, by decide⟩, ⟨by decide, by decide⟩, fun _ => ?_, fun z => absurd z (by decide)⟩, fun z => absurd z (by decide)⟩, fun z => absurd z (by decide)⟩
  exact f70n hG hI hR (Or.inr ⟨Or.inl rfl, rfl⟩) ha hb he q0 (fun p hp e1 h => q1 p hp e1 (fun z => h ⟨z, fun z => absurd z (by decide)⟩)) (fun p hp e1 h h19 z => absurd z (by decide)) (fun p hp e1 h _ => q2 p hp e1 h) (fun p hp e1 h h19 z => z.elim (fun y => absurd y (by decide)) (fun y => absurd y.1 (by decide)))
theorem du_19 (hl : l.stackTraces = false) (hI : Inv i N) (hR : SR N S D c) (ha : 0 ≤ a ∧ a < wd N) (hb : inR b) (he : inR e) (q0 : N 89 (sx N a) = -1 → Q (-1012) S D) (q1 : ∀ p : Nat, (p : Int) < N 80 0 → N 89 (sx N a) = N 81 p → ¬ ((N 82 p = 2 ∧ 0 ≤ b ∧ b < numR N p) ∧ 0 ≤ e ∧ e ≤ 255) → Q (-1012) S D) (q3 : ∀ p : Nat, (p : Int) < N 80 0 → N 89 (sx N a) = N 81 p → (N 82 p = 2 ∧ 0 ≤ b ∧ b < numR N p) → 0 ≤ e ∧ e ≤ 255 → N 16 (N 19 p).toNat ≠ 0 → Q (-1013) S D) (q2 : ∀ p : Nat, (p : Int) < N 80 0 → N 89 (sx N a) = N 81 p → (N 82 p = 2 ∧ 0 ≤ b ∧ b < numR N p) → 0 ≤ e ∧ e ≤ 255 → N 16 (N 19 p).toNat = 0 → ∀ D1, (∀ V, CeN N V p ((lnkR N 80 p).toNat + b.toNat) e → SR V S D1 c) → Q (N 87 ((N 84 p).toNat + (lnkR N 80 p).toNat + b.toNat)) S D1) : OkU B l md_X12_due [] kc nc [rv (s_m c), .int (I 19), .int (I a), .int (I b), .int (I e)] S D M (uS kI M Q) := by
  have hL := hR.l
  have hO := hR.o
  have hF := hR.f
  have hf := hI.fr.fs
  have hwb := wd_b hf
  refine due_f hl hL ⟨by decide, by decide⟩ (fun B' l' hl' => ok_X12_dueOfFields hl' (fun G hG hS => go_X12_dueOfFields_0 hG (smC hL) ?_ hS))
  refine w_isSlotY (CtU_fl hG) hL hF hf ha (fun z1 => ⟨inR_b z1, n10, fun _ => ⟨⟨by decide, by decide⟩, ⟨by decide, by decide⟩, fun _ => ?_, fun z => absurd z (by decide)⟩⟩)
  refine go_X12_dueOfFields_22 hG (smC hL) ⟨⟨by decide, by decide⟩, ⟨by decide, by decide⟩, fun _ => ⟨⟨by decide, by decide⟩, ⟨by decide, by decide⟩, fun _ => w_at (CtU_fl hG) hL hF hf ha ⟨⟨by decide, by decide⟩, ⟨by decide, by decide⟩, fun _ => ?_, fun z => absurd z (by decide)⟩, fun z => absurd z (by decide)⟩, fun z => absurd z (by decide)⟩
  exact f70n hG hI hR (Or.inr ⟨Or.inr rfl, rfl⟩) ha hb he q0 (fun p hp e1 h => q1 p hp e1 (fun z => h ⟨z.1, fun _ => z.2⟩)) (fun p hp e1 h h19 _ hz => q3 p hp e1 h (h19 rfl) hz) (fun p hp e1 h z => absurd z (by decide)) (fun p hp e1 h h19 z D1 hV => q2 p hp e1 h (h19 rfl) (z.elim (fun y => absurd y (by decide)) (fun y => y.2)) D1 hV)
end Fld
