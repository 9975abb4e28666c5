/-! ===== deeds of references and tables, by hand ===== -/
/-- the first entry of the table p whose key has the number n -/
def EntN (N : Mem) (p : Nat) (n r : Int) : Prop := (r = -1 ∧ ∀ e : Nat, (e : Int) < N 83 p → N 87 ((N 84 p).toNat + 2 * e) ≠ n) ∨ ∃ e : Nat, r = e ∧ (e : Int) < N 83 p ∧ N 87 ((N 84 p).toNat + 2 * e) = n ∧ ∀ e' : Nat, e' < e → N 87 ((N 84 p).toNat + 2 * e') ≠ n
section Rfs
variable {B : WB} {l : Launch} {S : Sh} {D D' M N V : Mem} {c : SC} {i kc nc : Nat} {x1 a b e : Int} {Q : Int → Sh → Mem → Prop}
theorem entN_uni {p : Nat} {n r r' : Int} (h : EntN N p n r) (h' : EntN N p n r') : r = r' := by
  rcases h with ⟨h1, h2⟩ | ⟨e, h1, h2, h3, h4⟩
  · rcases h' with ⟨g1, g2⟩ | ⟨e', g1, g2, g3, g4⟩
    · omega
    · exact absurd g3 (h2 e' g2)
  · rcases h' with ⟨g1, g2⟩ | ⟨e', g1, g2, g3, g4⟩
    · exact absurd h3 (g2 e h2)
    · rcases Nat.lt_trichotomy e e' with y | y | y
      · exact absurd h3 (g4 e y)
      · omega
      · exact absurd g3 (h4 e' y)
theorem nr_eq (hS : SOK S D) (hI : ObI N) (hO : SrO N S D c) {u u' : Nat} {n n' : Int} (h : Nr N D c u n) (h' : Nr N D c u' n') : u = u' ↔ n = n' := by
  rcases h with ⟨h1, h2⟩ | ⟨p, h1, h2, h3⟩
  · rcases h' with ⟨g1, g2⟩ | ⟨p', g1, g2, g3⟩
    · exact ⟨fun _ => by omega, fun _ => by omega⟩
    · have hz := tg_ne hS hO g1
      have hn := hI.2.2 p' g1
      exact ⟨fun z => absurd (by omega : tg c D p' = 0) hz, fun z => by omega⟩
  · have := nr_iff hS hI hO h' h1
    rw [h2, h3]
    exact ⟨fun z => this.mp z.symm, fun z => (this.mpr z).symm⟩
theorem nted_ex (N : Mem) (hm : N 72 10 = 0 ∨ N 72 10 = 1) (n : Int) : ∃ V, Nted N V n := by
  rcases hm with h | h
  · exact ⟨N, Or.inl ⟨rfl, Or.inl h⟩⟩
  · rcases Classical.em (∃ p : Nat, (p : Int) < N 97 0 ∧ N 98 p = n) with ⟨p, h1, h2⟩ | hn
    · exact ⟨up N 109 p 1, Or.inr ⟨h, p, h1, h2, fun _ _ _ _ _ => rfl⟩⟩
    · exact ⟨N, Or.inl ⟨rfl, Or.inr ⟨h, fun p h1 h2 => hn ⟨p, h1, h2⟩⟩⟩⟩
theorem nted_k {n : Int} (h : Nted N V n) {o k : Nat} (ho : ¬ (33 ≤ o ∧ o ≤ 35) ∧ o ≠ 109) : V o k = N o k := by
  rcases h with ⟨rfl, -⟩ | ⟨-, p, -, -, h⟩
  · rfl
  · rw [h o k (by omega) (by omega) (by omega), up_o ho.2]
theorem w_rd (hl : l.stackTraces = false) (hI : Inv i N) (hR : SR N S D c) (ha : 0 ≤ a ∧ a < wd N) {u : Nat} {n : Int} (hn : Nr N D c u n) {Q : Nat → Mem → Prop} (hq : ∀ D1, (∀ Q2 : Int → Mem → Prop, (∀ D2, inR n → (∀ V V', Nted N V n → HdN V V' a n → SR V' S D2 c) → Q2 n D2) → OkU B l md_X12_hold [] 0 0 [rv (s_m c), .int (I a), rv u] S D1 M (uD kI S M Q2)) → Q u D1) : OkU B l md_X12_read [] 0 0 [rv (s_m c), rv u] S D M (uD kR S M Q) := by
  refine w_read hl hI hR hn (fun D1 h et => hq D1 (fun Q2 h2 => ?_))
  obtain ⟨V, hV⟩ := nted_ex N hI.mk.1.2 n
  have k : ∀ {V}, Nted N V n → ∀ {o k : Nat}, (¬ (33 ≤ o ∧ o ≤ 35) ∧ o ≠ 109) → V o k = N o k := fun h _ _ ho => nted_k h ho
  have hfr := hI.fr
  have hR1 := h V hV
  have g6 : V 80 6 = N 80 6 := k hV (by omega)
  have hw : ∀ {V}, Nted N V n → wd V = wd N ∧ sx V a = sx N a := fun h => by
    unfold wd sx
    rw [k h (by omega), k h (by omega)]
    exact ⟨rfl, rfl⟩
  have hf : Fs V := by
    unfold Fs
    rw [g6, k hV (by omega)]
    refine ⟨hfr.1, hfr.2.1, fun f hf => ?_⟩
    rw [k hV (by omega), k hV (by omega)]
    exact hfr.2.2.1 f hf
  have nr : ∀ {V}, Nted N V n → Nr V D1 c u n := fun h => nr_n (k h (by omega)) (fun p => k h (by omega)) (nr_d et hn)
  refine w_hold hl hR1.l hR1.o hR1.f hf (by rw [(hw hV).1]; exact ha) (nr hV) (fun z => h2 _ z (fun V1 V' h1 h3 => ?_))
  have e : hoD V D1 c a u = hoD V1 D1 c a u := by
    unfold hoD
    rw [g6, k h1 (by omega)]
  rw [e]
  refine sr_hold0 (by rw [k h1 (by omega)]; exact hfr.1) (fun f hf => ?_) (fun hon => ?_) (h V1 h1) (by rw [(hw h1).1]; exact ha) (nr h1) h3.1 h3.2
  · rw [k h1 (by omega)] at hf ⊢
    exact (hfr.2.2.1 f hf).2
  · rw [k h1 (by omega)] at hon
    rw [k h1 (by omega), k h1 (by omega)]
    exact pi_le hI hon
theorem w_entry (hl : l.stackTraces = false) (hI : Inv i N) (hR : SR N S D c) {p u : Nat} {n : Int} (hp : (p : Int) < N 80 0) (h6 : N 82 p = 6) (hn : Nr N D c u n) {Q : Int → Prop} (hq : ∀ r, EntN N p n r → inR r → Q r) : OkU B l md_X13_entry [] 0 0 [rv (tg c D p), rv u] S D M (uN kI S D M Q) := by
  have ht := hR.o.2.2 p hp
  have hC := thC ht
  obtain ⟨-, -, b3, b4⟩ := lnk_bd hI hp
  have ec : capR N p = N 83 p := (cap_0 h6).2.2.2
  have h6r := ht.2.2.1.2.2.1
  have el := lnS_of h6r
  have hb := obI_of hI.ob
  refine ok_X13_entry hl (fun G hG hS => go_X13_entry_0 hG hC ?_ hS)
  have key : ∀ r k : Nat, (k : Int) + r = N 83 p → (∀ e' : Nat, e' < k → N 87 ((N 84 p).toNat + 2 * e') ≠ n) → L_X13_entry_2 G S D M (tg c D p) u k := by
    intro r
    induction r with
    | zero =>
      intro k hk hno
      refine go_X13_entry_2 hG hC (fun u hu => ?_)
      rw [hu]
      refine ⟨⟨102, _, ⟨8, _, h6r, rfl⟩, by decide⟩, fun w hw => ?_⟩
      rw [hw, el]
      exact ⟨⟨by omega, by omega⟩, ⟨by omega, by omega⟩, fun _ => ⟨⟨by decide, by decide⟩, hq _ (Or.inl ⟨rfl, fun e he => hno e (by omega)⟩) ⟨by decide, by decide⟩⟩, fun z => absurd z (by omega)⟩
    | succ r ih =>
      intro k hk hno
      have hkn := (ht.2.2.2.2.2.2.1 k (by omega)).1
      refine go_X13_entry_2 hG hC (fun u2 hu => ?_)
      rw [hu]
      refine ⟨⟨102, _, ⟨8, _, h6r, rfl⟩, by decide⟩, fun w hw => ?_⟩
      rw [hw, el]
      refine ⟨⟨by omega, by omega⟩, ⟨by omega, by omega⟩, fun z => absurd z (by omega), fun _ u3 hu3 => ?_⟩
      rw [hu3]
      refine ⟨⟨_, ⟨8, _, h6r, rfl⟩, by omega, by omega⟩, fun u4 hu4 => ?_⟩
      have e4 : u4 = (D (D (tg c D p) 6).toNat k).toNat := hu4
      rw [e4]
      have hiff := nr_eq hS hb hR.o hkn hn
      refine ⟨fun hne => ih (k + 1) (by push_cast at hk ⊢; omega) (fun e' he' => ?_), fun he => ⟨⟨by omega, by omega⟩, hq _ (Or.inr ⟨k, rfl, by omega, hiff.mp he, hno⟩) ⟨by omega, by omega⟩⟩⟩
      rcases Nat.lt_or_ge e' k with y | y
      · exact hno e' y
      · have : e' = k := by omega
        subst this
        exact fun z => hne (hiff.mpr z)
  exact key (N 83 p).toNat 0 (by omega) (fun e' he' => absurd he' (Nat.not_lt_zero _))
theorem du_20 (hl : l.stackTraces = false) (hI : Inv i N) (hR : SR N S D c) (ha : 0 ≤ a ∧ a < wd N) (hb : 0 ≤ b ∧ b < wd N) (q1 : (∀ p : Nat, (p : Int) < N 80 0 → N 89 (sx N b) = N 81 p → ¬ (N 82 p = 3 ∨ N 82 p = 4)) → Q (-1012) S D) (q2 : ∀ p : Nat, (p : Int) < N 80 0 → N 89 (sx N b) = N 81 p → (N 82 p = 3 ∨ N 82 p = 4) → ∀ D1, (∀ V V', Nted N V (N 87 (N 84 p).toNat) → HdN V V' a (N 87 (N 84 p).toNat) → SR V' S D1 c) → Q (N 87 (N 84 p).toNat) S D1) : OkU B l md_X12_due [] kc nc [rv (s_m c), .int (I 20), .int (I a), .int (I b), .int (I e)] S D M (uS kI M Q) := by
  have hL := hR.l
  have hO := hR.o
  have hF := hR.f
  have hf := hI.fr.fs
  have hwb := wd_b hf
  have hob := obI_of hI.ob
  refine due_r hl hL ⟨by decide, by decide⟩ (fun B' l' hl' => ok_X12_dueOfReferences hl' (fun G hG hS => go_X12_dueOfReferences_0 hG (smC hL) ⟨⟨by decide, by decide⟩, ⟨by decide, by decide⟩, fun z => absurd z (by decide), fun _ => ⟨⟨by decide, by decide⟩, ⟨by decide, by decide⟩, fun z => absurd z (by decide), fun _ => ⟨⟨by decide, by decide⟩, ⟨by decide, by decide⟩, fun _ => w_isSlotY (CtU_fl hG) hL hF hf ha (fun z1 => ⟨inR_b z1, n10, fun _ => ⟨⟨by decide, by decide⟩, fun z => absurd rfl z, fun _ => w_isSlotY (CtU_fl hG) hL hF hf hb (fun z2 => ⟨inR_b z2, n10, fun _ => go_X12_dueOfReferences_46 hG (smC hL) ⟨⟨by decide, by decide⟩, ⟨by decide, by decide⟩, fun z => absurd z (by decide), fun _ => ⟨⟨by decide, by decide⟩, ⟨by decide, by decide⟩, fun _ => ⟨⟨by decide, by decide⟩, fun z => absurd z (by decide), fun _ => go_X12_dueOfReferences_108 hG (smC hL) ?_, fun z => absurd z (by decide), fun z => absurd z (by decide), fun z => absurd z (by decide), fun z => absurd z (by decide)⟩, fun z => absurd z (by decide)⟩⟩⟩)⟩⟩), fun z => absurd z (by decide)⟩⟩⟩ hS))
  have hsl := sl_what hI hR hb
  have yes : ∀ p : Nat, (p : Int) < N 80 0 → slD N D c b = tg c D p → N 89 (sx N b) = N 81 p → (N 82 p = 3 ∨ N 82 p = 4) → OkU (gB G) (gl G) md_X12_at [] 0 0 [rv (s_m c), .int (I b)] S D M (uN kR S D M (fun (r137 : Nat) => (IsC S r137 13 ∧ (∀ u140 : Nat, u140 = (D r137 8).toNat → OkU (gB G) (gl G) md_X12_read [] 0 0 [rv (s_m c), rv u140] S D M (uD kR S M (fun (r143 : Nat) D1 => OkU (gB G) (gl G) md_X12_hold [] 0 0 [rv (s_m c), .int (I a), rv r143] S D1 M (uD kI S M (fun (r146 : Int) D2 => inR r146 → (inR r146 ∧ Q r146 S D2))))))))) := by
    intro p hp e0 e1 h34
    have ht := hO.2.2 p hp
    have h35 : 3 ≤ N 82 p ∧ N 82 p ≤ 5 := by omega
    have hof := ht.2.2.2.2.2.2.2
    rw [if_pos h35] at hof
    refine w_at (CtU_fl hG) hL hF hf hb ?_
    rw [e0]
    refine ⟨thC ht, fun u hu => ?_⟩
    rw [hu]
    exact w_rd (CtU_fl hG) hI hR ha hof (fun D1 h9 => h9 _ (fun D2 z9 hV => fun _ => ⟨z9, q2 p hp e1 h34 D2 hV⟩))
  rcases hsl with ⟨e0, e1⟩ | ⟨p, hp, e0, e1⟩
  · have hq := q1 (fun p hp e9 => by have := hob.2.2 p hp; omega)
    have hfr : ∀ f, fmN N (N 89 (sx N b)) f → f = -1 := fun f h => by
      rcases h with h | ⟨p, hp, h9, -⟩
      · exact h.2
      · have := hob.2.2 p hp
        omega
    refine w_form (CtU_fl hG) hL hO hF hf hb (fun f h => ?_)
    rw [hfr f h]
    refine fun z1 => ⟨z1, ⟨by decide, by decide⟩, fun z => absurd z (by decide), fun _ => w_form (CtU_fl hG) hL hO hF hf hb (fun f2 h2 => ?_)⟩
    rw [hfr f2 h2]
    exact fun z2 => ⟨z2, ⟨by decide, by decide⟩, fun z => absurd z (by decide), fun _ => ⟨⟨by decide, by decide⟩, hq⟩⟩
  · have hfr : ∀ f, fmN N (N 89 (sx N b)) f → f = N 82 p := fun f h => by
      rcases h with h | ⟨p', hp', h9, h8⟩
      · have := hob.2.2 p hp
        omega
      · have := nu_inj hob hp hp' (e1.symm.trans h9)
        rw [h8, this]
    have hq : ¬ (N 82 p = 3 ∨ N 82 p = 4) → Q (-1012) S D := fun h => q1 (fun p' hp' e9 => by
      have := nu_inj hob hp hp' (e1.symm.trans e9)
      rw [← this]
      exact h)
    refine w_form (CtU_fl hG) hL hO hF hf hb (fun f h => ?_)
    rw [hfr f h]
    refine fun z1 => ⟨z1, ⟨by decide, by decide⟩, fun h3 => yes p hp e0 e1 (Or.inl h3), fun h3 => w_form (CtU_fl hG) hL hO hF hf hb (fun f2 h2 => ?_)⟩
    rw [hfr f2 h2]
    exact fun z2 => ⟨z2, ⟨by decide, by decide⟩, fun h4 => yes p hp e0 e1 (Or.inr h4), fun h4 => ⟨⟨by decide, by decide⟩, hq (fun z => z.elim h3 h4)⟩⟩
theorem du_21 (hl : l.stackTraces = false) (hI : Inv i N) (hR : SR N S D c) (ha : 0 ≤ a ∧ a < wd N) (hb : 0 ≤ b ∧ b < wd N) (q1 : (∀ p : Nat, (p : Int) < N 80 0 → N 89 (sx N a) = N 81 p → ¬ (3 ≤ N 82 p ∧ N 82 p ≤ 5)) → Q (-1012) S D) (q2 : ∀ p : Nat, (p : Int) < N 80 0 → N 89 (sx N a) = N 81 p → (3 ≤ N 82 p ∧ N 82 p ≤ 5) → ∀ r : Int, (r = 0 ∨ r = 1) → (r = 1 ↔ N 87 (N 84 p).toNat ≠ -1 ∧ N 87 (N 84 p).toNat = N 89 (sx N b)) → Q r S D) : OkU B l md_X12_due [] kc nc [rv (s_m c), .int (I 21), .int (I a), .int (I b), .int (I e)] S D M (uS kI M Q) := by
  have hL := hR.l
  have hO := hR.o
  have hF := hR.f
  have hf := hI.fr.fs
  have hwb := wd_b hf
  have hob := obI_of hI.ob
  refine due_r hl hL ⟨by decide, by decide⟩ (fun B' l' hl' => ok_X12_dueOfReferences hl' (fun G hG hS => go_X12_dueOfReferences_0 hG (smC hL) ⟨⟨by decide, by decide⟩, ⟨by decide, by decide⟩, fun z => absurd z (by decide), fun _ => ⟨⟨by decide, by decide⟩, ⟨by decide, by decide⟩, fun z => absurd z (by decide), fun _ => ⟨⟨by decide, by decide⟩, ⟨by decide, by decide⟩, fun _ => w_isSlotY (CtU_fl hG) hL hF hf ha (fun z1 => ⟨inR_b z1, n10, fun _ => ⟨⟨by decide, by decide⟩, fun z => absurd rfl z, fun _ => w_isSlotY (CtU_fl hG) hL hF hf hb (fun z2 => ⟨inR_b z2, n10, fun _ => go_X12_dueOfReferences_46 hG (smC hL) ⟨⟨by decide, by decide⟩, ⟨by decide, by decide⟩, fun z => absurd z (by decide), fun _ => ⟨⟨by decide, by decide⟩, ⟨by decide, by decide⟩, fun _ => ⟨⟨by decide, by decide⟩, fun z => absurd z (by decide), fun z => absurd z (by decide), fun _ => go_X12_dueOfReferences_150 hG (smC hL) ?_, fun z => absurd z (by decide), fun z => absurd z (by decide), fun z => absurd z (by decide)⟩, fun z => absurd z (by decide)⟩⟩⟩)⟩⟩), fun z => absurd z (by decide)⟩⟩⟩ hS))
  have hsl := sl_what hI hR ha
  rcases hsl with ⟨e0, e1⟩ | ⟨p, hp, e0, e1⟩
  · have hq := q1 (fun p hp e9 => by have := hob.2.2 p hp; omega)
    refine w_form (CtU_fl hG) hL hO hF hf ha (fun f h => ?_)
    have hfr : f = -1 := by
      rcases h with h | ⟨p, hp, h9, -⟩
      · exact h.2
      · have := hob.2.2 p hp
        omega
    rw [hfr]
    exact fun z1 => ⟨z1, ⟨by decide, by decide⟩, fun _ => ⟨⟨by decide, by decide⟩, hq⟩, fun z => absurd z (by decide)⟩
  have hfr : ∀ f, fmN N (N 89 (sx N a)) f → f = N 82 p := fun f h => by
    rcases h with h | ⟨p', hp', h9, h8⟩
    · have := hob.2.2 p hp
      omega
    · have := nu_inj hob hp hp' (e1.symm.trans h9)
      rw [h8, this]
  have hq : ¬ (3 ≤ N 82 p ∧ N 82 p ≤ 5) → Q (-1012) S D := fun h => q1 (fun p' hp' e9 => by
    have := nu_inj hob hp hp' (e1.symm.trans e9)
    rw [← this]
    exact h)
  refine w_form (CtU_fl hG) hL hO hF hf ha (fun f h => ?_)
  rw [hfr f h]
  refine fun z1 => ⟨z1, ⟨by decide, by decide⟩, fun h3 => ⟨⟨by decide, by decide⟩, hq (by omega)⟩, fun h3 => w_form (CtU_fl hG) hL hO hF hf ha (fun f2 h2 => ?_)⟩
  rw [hfr f2 h2]
  refine fun z2 => ⟨z2, ⟨by decide, by decide⟩, fun h5 => ?_, fun h5 => ⟨⟨by decide, by decide⟩, hq (by omega)⟩⟩
  have h35 : 3 ≤ N 82 p ∧ N 82 p ≤ 5 := ⟨h3, h5⟩
  have ht := hO.2.2 p hp
  have hof := ht.2.2.2.2.2.2.2
  rw [if_pos h35] at hof
  refine w_at (CtU_fl hG) hL hF hf ha ?_
  rw [e0]
  refine ⟨thC ht, fun u hu => ?_⟩
  have hof0 : u = 0 ↔ N 87 (N 84 p).toNat = -1 := by
    have := nr_eq hS hob hO hof (u' := 0) (n' := -1) (Or.inl ⟨rfl, rfl⟩)
    rw [hu]
    exact this
  refine ⟨fun h0 => ⟨⟨by decide, by decide⟩, q2 p hp e1 h35 0 (Or.inl rfl) ⟨fun z => absurd z (by decide), fun z => absurd (hof0.mp h0) z.1⟩⟩, fun h0 => w_at (CtU_fl hG) hL hF hf ha ?_⟩
  rw [e0]
  refine ⟨thC ht, fun u2 hu2 => w_at (CtU_fl hG) hL hF hf hb ?_⟩
  have hiff := nr_eq hS hob hO hof (sl_nr hF hf hb)
  rw [hu2]
  exact ⟨fun hne => ⟨⟨by decide, by decide⟩, q2 p hp e1 h35 0 (Or.inl rfl) ⟨fun z => absurd z (by decide), fun z => absurd (hiff.mpr z.2) hne⟩⟩, fun he => ⟨⟨by decide, by decide⟩, q2 p hp e1 h35 1 (Or.inr rfl) ⟨fun _ => ⟨fun z => h0 (hof0.mpr z), hiff.mp he⟩, fun _ => rfl⟩⟩⟩
theorem du_22 (hl : l.stackTraces = false) (hI : Inv i N) (hR : SR N S D c) (ha : 0 ≤ a ∧ a < wd N) (q1 : (∀ p : Nat, (p : Int) < N 80 0 → N 89 (sx N a) = N 81 p → ¬ (3 ≤ N 82 p ∧ N 82 p ≤ 5)) → Q (-1012) S D) (q2 : ∀ p : Nat, (p : Int) < N 80 0 → N 89 (sx N a) = N 81 p → (3 ≤ N 82 p ∧ N 82 p ≤ 5) → ∀ D1, (∀ V, CeN N V p 0 (-1) → SR V S D1 c) → ∀ r : Int, (r = 0 ∨ r = 1) → (r = 1 ↔ N 87 (N 84 p).toNat ≠ -1) → Q r S D1) : OkU B l md_X12_due [] kc nc [rv (s_m c), .int (I 22), .int (I a), .int (I b), .int (I e)] S D M (uS kI M Q) := by
  have hL := hR.l
  have hO := hR.o
  have hF := hR.f
  have hf := hI.fr.fs
  have hwb := wd_b hf
  have hob := obI_of hI.ob
  refine due_r hl hL ⟨by decide, by decide⟩ (fun B' l' hl' => ok_X12_dueOfReferences hl' (fun G hG hS => go_X12_dueOfReferences_0 hG (smC hL) ⟨⟨by decide, by decide⟩, ⟨by decide, by decide⟩, fun _ => w_isSlotY (CtU_fl hG) hL hF hf ha (fun z1 => ⟨inR_b z1, n10, fun _ => ⟨⟨by decide, by decide⟩, fun _ => go_X12_dueOfReferences_46 hG (smC hL) ⟨⟨by decide, by decide⟩, ⟨by decide, by decide⟩, fun z => absurd z (by decide), fun _ => ⟨⟨by decide, by decide⟩, ⟨by decide, by decide⟩, fun _ => ⟨⟨by decide, by decide⟩, fun z => absurd z (by decide), fun z => absurd z (by decide), fun z => absurd z (by decide), fun _ => go_X12_dueOfReferences_207 hG (smC hL) ?_, fun z => absurd z (by decide), fun z => absurd z (by decide)⟩, fun z => absurd z (by decide)⟩⟩, fun z => absurd z (by decide)⟩⟩), fun z => absurd rfl z⟩ hS))
  have hsl := sl_what hI hR ha
  rcases hsl with ⟨e0, e1⟩ | ⟨p, hp, e0, e1⟩
  · have hq := q1 (fun p hp e9 => by have := hob.2.2 p hp; omega)
    refine w_form (CtU_fl hG) hL hO hF hf ha (fun f h => ?_)
    have hfr : f = -1 := by
      rcases h with h | ⟨p, hp, h9, -⟩
      · exact h.2
      · have := hob.2.2 p hp
        omega
    rw [hfr]
    exact fun z1 => ⟨z1, ⟨by decide, by decide⟩, fun _ => ⟨⟨by decide, by decide⟩, hq⟩, fun z => absurd z (by decide)⟩
  have hfr : ∀ f, fmN N (N 89 (sx N a)) f → f = N 82 p := fun f h => by
    rcases h with h | ⟨p', hp', h9, h8⟩
    · have := hob.2.2 p hp
      omega
    · have := nu_inj hob hp hp' (e1.symm.trans h9)
      rw [h8, this]
  have hq : ¬ (3 ≤ N 82 p ∧ N 82 p ≤ 5) → Q (-1012) S D := fun h => q1 (fun p' hp' e9 => by
    have := nu_inj hob hp hp' (e1.symm.trans e9)
    rw [← this]
    exact h)
  refine w_form (CtU_fl hG) hL hO hF hf ha (fun f h => ?_)
  rw [hfr f h]
  refine fun z1 => ⟨z1, ⟨by decide, by decide⟩, fun h3 => ⟨⟨by decide, by decide⟩, hq (by omega)⟩, fun h3 => w_form (CtU_fl hG) hL hO hF hf ha (fun f2 h2 => ?_)⟩
  rw [hfr f2 h2]
  refine fun z2 => ⟨z2, ⟨by decide, by decide⟩, fun h5 => ?_, fun h5 => ⟨⟨by decide, by decide⟩, hq (by omega)⟩⟩
  have h35 : 3 ≤ N 82 p ∧ N 82 p ≤ 5 := ⟨h3, h5⟩
  have ht := hO.2.2 p hp
  have hof := ht.2.2.2.2.2.2.2
  rw [if_pos h35] at hof
  refine w_at (CtU_fl hG) hL hF hf ha ?_
  rw [e0]
  refine ⟨thC ht, fun u hu => ?_⟩
  have hof0 : u = 0 ↔ N 87 (N 84 p).toNat = -1 := by
    have := nr_eq hS hob hO hof (u' := 0) (n' := -1) (Or.inl ⟨rfl, rfl⟩)
    rw [hu]
    exact this
  have fin : ∀ D1, D1 = up D (tg c D p) 8 ((0 : Nat) : Int) → ∀ V, CeN N V p 0 (-1) → SR V S D1 c := fun D1 hD1 V hV => sr_of hI hR hp h35 (Or.inl ⟨rfl, rfl⟩) hV hD1
  refine ⟨fun h0 => w_at (CtU_fl hG) hL hF hf ha ?_, fun h0 => w_at (CtU_fl hG) hL hF hf ha ?_⟩
  · rw [e0]
    exact ⟨thC ht, fun D1 hD1 => ⟨⟨by decide, by decide⟩, fun _ => ⟨⟨by decide, by decide⟩, q2 p hp e1 h35 D1 (fin D1 hD1) 0 (Or.inl rfl) ⟨fun z => absurd z (by decide), fun z => absurd (hof0.mp h0) z⟩⟩, fun z => absurd rfl z⟩⟩
  · rw [e0]
    exact ⟨thC ht, fun D1 hD1 => ⟨⟨by decide, by decide⟩, fun z => absurd z (by decide), fun _ => ⟨⟨by decide, by decide⟩, q2 p hp e1 h35 D1 (fin D1 hD1) 1 (Or.inr rfl) ⟨fun _ z => h0 (hof0.mpr z), fun _ => rfl⟩⟩⟩⟩
theorem sr_poll (hpi : N 72 10 = 1 → N 97 0 ≤ N 80 0) (hR : SR N S D c) (h : LiN N V 90 7) (ag : ∀ kk : Nat → Nat → Bool, kk 0 9 = false → (∀ j, kk 4 j = false) → AgD S D D' kk) (h9 : D' (s_m c) 9 = N 80 7 - 1) (hs : ∀ k : Nat, (k : Int) + 1 < N 80 7 → (D' (s_qu c) k).toNat = (D (s_qu c) (k + 1)).toNat) : SR V S D' c := by
  have hL := hR.l
  obtain ⟨ev, e7, e90, eo⟩ := h
  have em := mkLi_eq ev
  have et : ∀ q, tg c D' q = tg c D q := fun q => tg_k hL (ag kA2 rfl (fun _ => rfl)) (fun _ => rfl) q
  have nr : ∀ {u : Nat} {n : Int}, Nr N D c u n → Nr V D' c u n := fun h => nr_n (ev _ _ (by omega)) (fun p => ev _ _ (by omega)) (nr_d et h)
  refine ⟨srl_k Xs.rf (ag kL rfl (fun _ => rfl)) hL, srf_Li.mp (em ▸ srf_Li.mpr (srf_k hL Xs.rf (ag kF rfl (fun _ => rfl)) hR.f)), ?_, srk_Li.mp (em ▸ srk_Li.mpr (srk_k hL Xs.rf (ag kK rfl (fun _ => rfl)) hR.k)), sro_Li.mp (em ▸ sro_Li.mpr (sro_k hL Xs.rf (ag kO rfl (fun _ => rfl)) hR.o)), srb_Li.mp (em ▸ srb_Li.mpr (srb_k hL hR.o (ag kB rfl (fun _ => rfl)) hR.b)), sri_Li.mp (em ▸ sri_Li.mpr (sri_k hL Xs.rf (ag kIm rfl (fun _ => rfl)) hR.i)), src_Li.mp (em ▸ src_Li.mpr (src_k hL (ag kC rfl (fun _ => rfl)) hR.c)), srm_Li.mp (em ▸ srm_Li.mpr (srm_k hL hR.o hpi Xs.rf (ag kM rfl (fun _ => rfl)) hR.m))⟩
  have m : D' (s_m c) 9 = V 80 7 ∧ ∀ k : Nat, (k : Int) < V 80 7 → Nr V D' c (D' (s_qu c) k).toNat (V 90 k) := by
    refine ⟨h9.trans e7.symm, fun k hk => ?_⟩
    rw [e7] at hk
    rw [e90 k (by omega), hs k (by omega)]
    exact nr (hR.q.1.2 (k + 1) (by push_cast; omega))
  have m2 : D' (s_m c) 11 = V 80 8 ∧ ∀ k : Nat, (k : Int) < V 80 8 → Nr V D' c (D' (s_la c) k).toNat (V 91 k) := by
    obtain ⟨x1, x2⟩ := eo 8 91 (by decide) (by decide)
    refine ⟨?_, fun k hk => ?_⟩
    · rw [x1, ag (fun r j => Nat.beq r 0 && Nat.beq j 11) rfl (fun _ => rfl) _ _ _ _ hL.1 11 rfl]
      exact hR.q.2.1
    · rw [x1] at hk
      rw [x2, ag (fun r j => Nat.beq r 5) rfl (fun _ => rfl) _ _ _ _ hL.2.2.2.2.2.2.1.2 k rfl]
      exact nr (hR.q.2.2 k hk)
  exact ⟨m, m2⟩
theorem du_23 (hl : l.stackTraces = false) (hI : Inv i N) (hR : SR N S D c) (ha : 0 ≤ a ∧ a < wd N) (q0 : N 80 7 = 0 → Q (-1) S D) (q1 : 0 < N 80 7 → ∀ D1, (∀ V V', LiN N V 90 7 → HdN V V' a (N 90 0) → SR V' S D1 c) → Q (N 90 0) S D1) : OkU B l md_X12_due [] kc nc [rv (s_m c), .int (I 23), .int (I a), .int (I b), .int (I e)] S D M (uS kI M Q) := by
  have hL := hR.l
  have hO := hR.o
  have hF := hR.f
  have hf := hI.fr.fs
  have hwb := wd_b hf
  have hob := obI_of hI.ob
  refine due_r hl hL ⟨by decide, by decide⟩ (fun B' l' hl' => ok_X12_dueOfReferences hl' (fun G hG hS => go_X12_dueOfReferences_0 hG (smC hL) ⟨⟨by decide, by decide⟩, ⟨by decide, by decide⟩, fun z => absurd z (by decide), fun _ => ⟨⟨by decide, by decide⟩, ⟨by decide, by decide⟩, fun _ => w_isSlotY (CtU_fl hG) hL hF hf ha (fun z1 => ⟨inR_b z1, n10, fun _ => ⟨⟨by decide, by decide⟩, fun _ => go_X12_dueOfReferences_46 hG (smC hL) ⟨⟨by decide, by decide⟩, ⟨by decide, by decide⟩, fun z => absurd z (by decide), fun _ => ⟨⟨by decide, by decide⟩, ⟨by decide, by decide⟩, fun _ => ⟨⟨by decide, by decide⟩, fun z => absurd z (by decide), fun z => absurd z (by decide), fun z => absurd z (by decide), fun z => absurd z (by decide), fun _ => go_X12_dueOfReferences_267 hG (smC hL) ?_, fun z => absurd z (by decide)⟩, fun z => absurd z (by decide)⟩⟩, fun z => absurd z (by decide)⟩⟩), fun z => absurd rfl z⟩⟩ hS))
  have h7 : D (s_m c) 9 = N 80 7 := hR.q.1.1
  have hb7 := hI.li.1.2.1
  have hb8 := hI.li.1.2.2.1
  have nmq : s_m c ≠ s_qu c := lk_ne hL.1 hL.2.2.2.2.2.1.2 (by decide)
  have nsa : s_al c ≠ s_qu c := lk_ne hL.2.1.2 hL.2.2.2.2.2.1.2 (by decide)
  refine fun z1 => ⟨z1, fun hne u hu => ?_, fun he => ⟨⟨by decide, by decide⟩, q0 (by omega)⟩⟩
  have hpos : 0 < N 80 7 := by omega
  have hn0 := hR.q.1.2 0 (by simpa using hpos)
  rw [hu.trans hL.2.2.2.2.2.1.1]
  refine ⟨⟨256, ia_qu hL, by decide, by decide⟩, fun u2 hu2 z2 => ⟨⟨by omega, by omega⟩, fun D1 hD1 => ?_⟩⟩
  have hu2 : u2 = (D (s_qu c) 0).toNat := hu2
  have key : ∀ r k : Nat, (k : Int) + r = N 80 7 - 1 → ∀ D2 : Mem, (∀ aa j, aa ≠ s_m c → aa ≠ s_qu c → D2 aa j = D aa j) → (∀ j, j ≠ 9 → D2 (s_m c) j = D (s_m c) j) → D2 (s_m c) 9 = N 80 7 - 1 → (∀ j, j < k → (D2 (s_qu c) j).toNat = (D (s_qu c) (j + 1)).toNat) → (∀ j, k ≤ j → D2 (s_qu c) j = D (s_qu c) j) → L_X12_dueOfReferences_297 G S D2 M (s_m c) a u2 k := by
    intro r
    induction r with
    | zero =>
      intro k hk D2 c1 c2 c3 c4 c5
      have ag : ∀ kk : Nat → Nat → Bool, kk 0 9 = false → (∀ j, kk 4 j = false) → AgD S D D2 kk := fun kk k1 k2 aa r o n haa j hj => by
        by_cases h1 : aa = s_m c
        · rw [h1]
          refine c2 j (fun z => ?_)
          rw [h1, hL.1] at haa
          cases haa
          rw [z, k1] at hj
          cases hj
        · refine c1 aa j h1 (fun z => ?_)
          rw [z, hL.2.2.2.2.2.1.2] at haa
          cases haa
          rw [k2] at hj
          cases hj
      have et : ∀ q, tg c D2 q = tg c D q := fun q => tg_k hL (ag kA2 rfl (fun _ => rfl)) (fun _ => rfl) q
      have hV0 : ∃ V, LiN N V 90 7 ∧ (∀ o k, o ≠ 25 → o ≠ 26 → o ≠ 27 → o ≠ 28 → o ≠ 90 → o ≠ 91 → ¬ (o = 80 ∧ (k = 7 ∨ k = 8)) → V o k = N o k) := by
        refine ⟨fun o k => if o = 80 ∧ k = 7 then N 80 7 - 1 else if o = 90 then N 90 (k + 1) else N o k, ⟨fun o k h => ?_, if_pos ⟨rfl, rfl⟩, fun k _ => ?_, fun z' a' h h2 => ?_⟩, fun o k g1 g2 g3 g4 g5 g6 g7 => ?_⟩
        · show (if o = 80 ∧ k = 7 then N 80 7 - 1 else if o = 90 then N 90 (k + 1) else N o k) = _
          rw [if_neg (by omega), if_neg (by omega)]
        · show (if 90 = 80 ∧ k = 7 then N 80 7 - 1 else if 90 = 90 then N 90 (k + 1) else N 90 k) = _
          rw [if_neg (by omega), if_pos rfl]
        · refine ⟨?_, fun k => ?_⟩
          · show (if 80 = 80 ∧ z' = 7 then N 80 7 - 1 else if 80 = 90 then N 90 (z' + 1) else N 80 z') = _
            rw [if_neg (by omega), if_neg (by omega)]
          · show (if a' = 80 ∧ k = 7 then N 80 7 - 1 else if a' = 90 then N 90 (k + 1) else N a' k) = _
            rw [if_neg (by omega), if_neg (by omega)]
        · show (if o = 80 ∧ k = 7 then N 80 7 - 1 else if o = 90 then N 90 (k + 1) else N o k) = _
          rw [if_neg (by omega), if_neg (by omega)]
      have hsr : ∀ V, LiN N V 90 7 → SR V S D2 c := fun V hV => sr_poll (pi_le hI) hR hV ag c3 (fun j hj => c4 j (by omega))
      have nr : ∀ {V}, LiN N V 90 7 → Nr V D2 c u2 (N 90 0) := fun hV => by
        rw [hu2]
        exact nr_n (hV.1 _ _ (by omega)) (fun p => hV.1 _ _ (by omega)) (nr_d et hn0)
      have hw : ∀ {V}, LiN N V 90 7 → wd V = wd N := fun hV => by
        unfold wd
        rw [hV.1 80 6 (by omega), hV.1 88 _ (by omega)]
      obtain ⟨V, hV, hV2⟩ := hV0
      have hRV := hsr V hV
      have g6 : V 80 6 = N 80 6 := hV.1 80 6 (by omega)
      have hfV : Fs V := by
        unfold Fs
        rw [g6, hV2 21 5 (by omega) (by omega) (by omega) (by omega) (by omega) (by omega) (by omega)]
        refine ⟨hI.fr.1, hI.fr.2.1, fun f hf9 => ?_⟩
        rw [hV.1 23 f (by omega), hV.1 88 f (by omega)]
        exact hI.fr.2.2.1 f hf9
      refine go_X12_dueOfReferences_297 hG (smC hL) (fun z3 => ⟨⟨by omega, by omega⟩, z3, fun _ => ?_, fun z => by omega⟩)
      refine w_hold (CtU_fl hG) hRV.l hRV.o hRV.f hfV (by rw [hw hV]; exact ha) (nr hV) (fun zz z9 => ⟨z9, q1 hpos _ (fun V1 V' h1 h3 => ?_)⟩)
      have e : hoD V D2 c a u2 = hoD V1 D2 c a u2 := by
        unfold hoD
        rw [g6, h1.1 80 6 (by omega)]
      rw [e]
      refine sr_hold0 (by rw [h1.1 80 6 (by omega)]; exact hI.fr.1) (fun f hf9 => ?_) (fun hon => ?_) (hsr V1 h1) (by rw [hw h1]; exact ha) (nr h1) h3.1 h3.2
      · rw [h1.1 80 6 (by omega)] at hf9
        rw [h1.1 88 f (by omega)]
        exact (hI.fr.2.2.1 f hf9).2
      · rw [h1.1 72 10 (by omega)] at hon
        rw [h1.1 97 0 (by omega), h1.1 80 0 (by omega)]
        exact pi_le hI hon
    | succ r ih =>
      intro k hk D2 c1 c2 c3 c4 c5
      have e8 : ∀ w : Nat, w = (D2 (s_m c) 8).toNat → w = s_qu c := fun w hw => hw.trans (by rw [c2 8 (by decide)]; exact hL.2.2.2.2.2.1.1)
      refine go_X12_dueOfReferences_297 hG (smC hL) (fun z3 => ⟨⟨by omega, by omega⟩, z3, fun z => by omega, fun _ w hw w2 hw2 => ?_⟩)
      rw [e8 w hw, e8 w2 hw2]
      have hnk := hR.q.1.2 (k + 1) (by push_cast; omega)
      refine ⟨⟨256, ia_qu hL, by omega, by omega⟩, fun w3 hw3 => ?_⟩
      have hw3 : w3 = (D2 (s_qu c) (k + 1)).toNat := hw3
      rw [c5 (k + 1) (by omega)] at hw3
      refine ⟨⟨256, ia_qu hL, by omega, by omega⟩, ?_, fun D3 hD3 => ?_⟩
      · rw [hw3]
        exact nrC hO hnk
      · have hD3 : D3 = up D2 (s_qu c) k (w3 : Int) := hD3
        refine ih (k + 1) (by push_cast at hk ⊢; omega) D3 (fun aa j h1 h2 => ?_) (fun j h => ?_) ?_ (fun j hj => ?_) (fun j hj => ?_)
        · rw [hD3, up_ad h2]
          exact c1 aa j h1 h2
        · rw [hD3, up_ad nmq]
          exact c2 j h
        · rw [hD3, up_ad nmq]
          exact c3
        · rw [hD3]
          by_cases hjk : j = k
          · rw [hjk, up_s, Int.toNat_natCast, hw3]
          · rw [up_k hjk]
            exact c4 j (by omega)
        · rw [hD3, up_k (by omega)]
          exact c5 j (by omega)
  exact key (N 80 7 - 1).toNat 0 (by omega) D1 (fun aa j h1 _ => by rw [hD1, up_ad h1]) (fun j h => by rw [hD1, up_k h]) (by rw [hD1, up_s, h7]) (fun j hj => absurd hj (Nat.not_lt_zero _)) (fun j _ => by rw [hD1, up_ad (Ne.symm nmq)])
theorem sr_last (hpi : N 72 10 = 1 → N 97 0 ≤ N 80 0) (hR : SR N S D c) (h : LiN N V 91 8) (ag : ∀ kk : Nat → Nat → Bool, kk 0 11 = false → (∀ j, kk 5 j = false) → AgD S D D' kk) (h9 : D' (s_m c) 11 = N 80 8 - 1) (hs : ∀ k : Nat, (k : Int) + 1 < N 80 8 → (D' (s_la c) k).toNat = (D (s_la c) (k + 1)).toNat) : SR V S D' c := by
  have hL := hR.l
  obtain ⟨ev, e7, e90, eo⟩ := h
  have em := mkLi_eq ev
  have et : ∀ q, tg c D' q = tg c D q := fun q => tg_k hL (ag kA2 rfl (fun _ => rfl)) (fun _ => rfl) q
  have nr : ∀ {u : Nat} {n : Int}, Nr N D c u n → Nr V D' c u n := fun h => nr_n (ev _ _ (by omega)) (fun p => ev _ _ (by omega)) (nr_d et h)
  refine ⟨srl_k Xs.rf (ag kL rfl (fun _ => rfl)) hL, srf_Li.mp (em ▸ srf_Li.mpr (srf_k hL Xs.rf (ag kF rfl (fun _ => rfl)) hR.f)), ?_, srk_Li.mp (em ▸ srk_Li.mpr (srk_k hL Xs.rf (ag kK rfl (fun _ => rfl)) hR.k)), sro_Li.mp (em ▸ sro_Li.mpr (sro_k hL Xs.rf (ag kO rfl (fun _ => rfl)) hR.o)), srb_Li.mp (em ▸ srb_Li.mpr (srb_k hL hR.o (ag kB rfl (fun _ => rfl)) hR.b)), sri_Li.mp (em ▸ sri_Li.mpr (sri_k hL Xs.rf (ag kIm rfl (fun _ => rfl)) hR.i)), src_Li.mp (em ▸ src_Li.mpr (src_k hL (ag kC rfl (fun _ => rfl)) hR.c)), srm_Li.mp (em ▸ srm_Li.mpr (srm_k hL hR.o hpi Xs.rf (ag kM rfl (fun _ => rfl)) hR.m))⟩
  have m : D' (s_m c) 11 = V 80 8 ∧ ∀ k : Nat, (k : Int) < V 80 8 → Nr V D' c (D' (s_la c) k).toNat (V 91 k) := by
    refine ⟨h9.trans e7.symm, fun k hk => ?_⟩
    rw [e7] at hk
    rw [e90 k (by omega), hs k (by omega)]
    exact nr (hR.q.2.2 (k + 1) (by push_cast; omega))
  have m2 : D' (s_m c) 9 = V 80 7 ∧ ∀ k : Nat, (k : Int) < V 80 7 → Nr V D' c (D' (s_qu c) k).toNat (V 90 k) := by
    obtain ⟨x1, x2⟩ := eo 7 90 (by decide) (by decide)
    refine ⟨?_, fun k hk => ?_⟩
    · rw [x1, ag (fun r j => Nat.beq r 0 && Nat.beq j 9) rfl (fun _ => rfl) _ _ _ _ hL.1 9 rfl]
      exact hR.q.1.1
    · rw [x1] at hk
      rw [x2, ag (fun r j => Nat.beq r 4) rfl (fun _ => rfl) _ _ _ _ hL.2.2.2.2.2.1.2 k rfl]
      exact nr (hR.q.1.2 k hk)
  exact ⟨m2, m⟩
theorem du_24 (hl : l.stackTraces = false) (hI : Inv i N) (hR : SR N S D c) (ha : 0 ≤ a ∧ a < wd N) (q0 : N 80 8 = 0 → Q (-1) S D) (q1 : 0 < N 80 8 → ∀ D1, (∀ V V', LiN N V 91 8 → HdN V V' a (N 91 0) → SR V' S D1 c) → Q (N 91 0) S D1) : OkU B l md_X12_due [] kc nc [rv (s_m c), .int (I 24), .int (I a), .int (I b), .int (I e)] S D M (uS kI M Q) := by
  have hL := hR.l
  have hO := hR.o
  have hF := hR.f
  have hf := hI.fr.fs
  have hwb := wd_b hf
  have hob := obI_of hI.ob
  refine due_r hl hL ⟨by decide, by decide⟩ (fun B' l' hl' => ok_X12_dueOfReferences hl' (fun G hG hS => go_X12_dueOfReferences_0 hG (smC hL) ⟨⟨by decide, by decide⟩, ⟨by decide, by decide⟩, fun z => absurd z (by decide), fun _ => ⟨⟨by decide, by decide⟩, ⟨by decide, by decide⟩, fun z => absurd z (by decide), fun _ => ⟨⟨by decide, by decide⟩, ⟨by decide, by decide⟩, fun z => absurd rfl z, fun _ => w_isSlotY (CtU_fl hG) hL hF hf ha (fun z1 => ⟨inR_b z1, n10, fun _ => ⟨⟨by decide, by decide⟩, fun _ => go_X12_dueOfReferences_46 hG (smC hL) ⟨⟨by decide, by decide⟩, ⟨by decide, by decide⟩, fun z => absurd z (by decide), fun _ => ⟨⟨by decide, by decide⟩, ⟨by decide, by decide⟩, fun _ => ⟨⟨by decide, by decide⟩, fun z => absurd z (by decide), fun z => absurd z (by decide), fun z => absurd z (by decide), fun z => absurd z (by decide), fun z => absurd z (by decide), fun _ => go_X12_dueOfReferences_336 hG (smC hL) ?_⟩, fun z => absurd z (by decide)⟩⟩, fun z => absurd z (by decide)⟩⟩)⟩⟩⟩ hS))
  have h7 : D (s_m c) 11 = N 80 8 := hR.q.2.1
  have hb7 := hI.li.2.2.1
  have hb8 := hI.li.2.2.2.1
  have nmq : s_m c ≠ s_la c := lk_ne hL.1 hL.2.2.2.2.2.2.1.2 (by decide)
  have nsa : s_al c ≠ s_la c := lk_ne hL.2.1.2 hL.2.2.2.2.2.2.1.2 (by decide)
  refine fun z1 => ⟨z1, fun hne u hu => ?_, fun he => ⟨⟨by decide, by decide⟩, q0 (by omega)⟩⟩
  have hpos : 0 < N 80 8 := by omega
  have hn0 := hR.q.2.2 0 (by simpa using hpos)
  rw [hu.trans hL.2.2.2.2.2.2.1.1]
  refine ⟨⟨256, ia_la hL, by decide, by decide⟩, fun u2 hu2 z2 => ⟨⟨by omega, by omega⟩, fun D1 hD1 => ?_⟩⟩
  have hu2 : u2 = (D (s_la c) 0).toNat := hu2
  have key : ∀ r k : Nat, (k : Int) + r = N 80 8 - 1 → ∀ D2 : Mem, (∀ aa j, aa ≠ s_m c → aa ≠ s_la c → D2 aa j = D aa j) → (∀ j, j ≠ 11 → D2 (s_m c) j = D (s_m c) j) → D2 (s_m c) 11 = N 80 8 - 1 → (∀ j, j < k → (D2 (s_la c) j).toNat = (D (s_la c) (j + 1)).toNat) → (∀ j, k ≤ j → D2 (s_la c) j = D (s_la c) j) → L_X12_dueOfReferences_366 G S D2 M (s_m c) a u2 k := by
    intro r
    induction r with
    | zero =>
      intro k hk D2 c1 c2 c3 c4 c5
      have ag : ∀ kk : Nat → Nat → Bool, kk 0 11 = false → (∀ j, kk 5 j = false) → AgD S D D2 kk := fun kk k1 k2 aa r o n haa j hj => by
        by_cases h1 : aa = s_m c
        · rw [h1]
          refine c2 j (fun z => ?_)
          rw [h1, hL.1] at haa
          cases haa
          rw [z, k1] at hj
          cases hj
        · refine c1 aa j h1 (fun z => ?_)
          rw [z, hL.2.2.2.2.2.2.1.2] at haa
          cases haa
          rw [k2] at hj
          cases hj
      have et : ∀ q, tg c D2 q = tg c D q := fun q => tg_k hL (ag kA2 rfl (fun _ => rfl)) (fun _ => rfl) q
      have hV0 : ∃ V, LiN N V 91 8 ∧ (∀ o k, o ≠ 25 → o ≠ 26 → o ≠ 27 → o ≠ 28 → o ≠ 90 → o ≠ 91 → ¬ (o = 80 ∧ (k = 7 ∨ k = 8)) → V o k = N o k) := by
        refine ⟨fun o k => if o = 80 ∧ k = 8 then N 80 8 - 1 else if o = 91 then N 91 (k + 1) else N o k, ⟨fun o k h => ?_, if_pos ⟨rfl, rfl⟩, fun k _ => ?_, fun z' a' h h2 => ?_⟩, fun o k g1 g2 g3 g4 g5 g6 g7 => ?_⟩
        · show (if o = 80 ∧ k = 8 then N 80 8 - 1 else if o = 91 then N 91 (k + 1) else N o k) = _
          rw [if_neg (by omega), if_neg (by omega)]
        · show (if 91 = 80 ∧ k = 8 then N 80 8 - 1 else if 91 = 91 then N 91 (k + 1) else N 91 k) = _
          rw [if_neg (by omega), if_pos rfl]
        · refine ⟨?_, fun k => ?_⟩
          · show (if 80 = 80 ∧ z' = 8 then N 80 8 - 1 else if 80 = 91 then N 91 (z' + 1) else N 80 z') = _
            rw [if_neg (by omega), if_neg (by omega)]
          · show (if a' = 80 ∧ k = 8 then N 80 8 - 1 else if a' = 91 then N 91 (k + 1) else N a' k) = _
            rw [if_neg (by omega), if_neg (by omega)]
        · show (if o = 80 ∧ k = 8 then N 80 8 - 1 else if o = 91 then N 91 (k + 1) else N o k) = _
          rw [if_neg (by omega), if_neg (by omega)]
      have hsr : ∀ V, LiN N V 91 8 → SR V S D2 c := fun V hV => sr_last (pi_le hI) hR hV ag c3 (fun j hj => c4 j (by omega))
      have nr : ∀ {V}, LiN N V 91 8 → Nr V D2 c u2 (N 91 0) := fun hV => by
        rw [hu2]
        exact nr_n (hV.1 _ _ (by omega)) (fun p => hV.1 _ _ (by omega)) (nr_d et hn0)
      have hw : ∀ {V}, LiN N V 91 8 → wd V = wd N := fun hV => by
        unfold wd
        rw [hV.1 80 6 (by omega), hV.1 88 _ (by omega)]
      obtain ⟨V, hV, hV2⟩ := hV0
      have hRV := hsr V hV
      have g6 : V 80 6 = N 80 6 := hV.1 80 6 (by omega)
      have hfV : Fs V := by
        unfold Fs
        rw [g6, hV2 21 5 (by omega) (by omega) (by omega) (by omega) (by omega) (by omega) (by omega)]
        refine ⟨hI.fr.1, hI.fr.2.1, fun f hf9 => ?_⟩
        rw [hV.1 23 f (by omega), hV.1 88 f (by omega)]
        exact hI.fr.2.2.1 f hf9
      refine go_X12_dueOfReferences_366 hG (smC hL) (fun z3 => ⟨⟨by omega, by omega⟩, z3, fun _ => ?_, fun z => by omega⟩)
      refine w_hold (CtU_fl hG) hRV.l hRV.o hRV.f hfV (by rw [hw hV]; exact ha) (nr hV) (fun zz z9 => ⟨z9, q1 hpos _ (fun V1 V' h1 h3 => ?_)⟩)
      have e : hoD V D2 c a u2 = hoD V1 D2 c a u2 := by
        unfold hoD
        rw [g6, h1.1 80 6 (by omega)]
      rw [e]
      refine sr_hold0 (by rw [h1.1 80 6 (by omega)]; exact hI.fr.1) (fun f hf9 => ?_) (fun hon => ?_) (hsr V1 h1) (by rw [hw h1]; exact ha) (nr h1) h3.1 h3.2
      · rw [h1.1 80 6 (by omega)] at hf9
        rw [h1.1 88 f (by omega)]
        exact (hI.fr.2.2.1 f hf9).2
      · rw [h1.1 72 10 (by omega)] at hon
        rw [h1.1 97 0 (by omega), h1.1 80 0 (by omega)]
        exact pi_le hI hon
    | succ r ih =>
      intro k hk D2 c1 c2 c3 c4 c5
      have e8 : ∀ w : Nat, w = (D2 (s_m c) 10).toNat → w = s_la c := fun w hw => hw.trans (by rw [c2 10 (by decide)]; exact hL.2.2.2.2.2.2.1.1)
      refine go_X12_dueOfReferences_366 hG (smC hL) (fun z3 => ⟨⟨by omega, by omega⟩, z3, fun z => by omega, fun _ w hw w2 hw2 => ?_⟩)
      rw [e8 w hw, e8 w2 hw2]
      have hnk := hR.q.2.2 (k + 1) (by push_cast; omega)
      refine ⟨⟨256, ia_la hL, by omega, by omega⟩, fun w3 hw3 => ?_⟩
      have hw3 : w3 = (D2 (s_la c) (k + 1)).toNat := hw3
      rw [c5 (k + 1) (by omega)] at hw3
      refine ⟨⟨256, ia_la hL, by omega, by omega⟩, ?_, fun D3 hD3 => ?_⟩
      · rw [hw3]
        exact nrC hO hnk
      · have hD3 : D3 = up D2 (s_la c) k (w3 : Int) := hD3
        refine ih (k + 1) (by push_cast at hk ⊢; omega) D3 (fun aa j h1 h2 => ?_) (fun j h => ?_) ?_ (fun j hj => ?_) (fun j hj => ?_)
        · rw [hD3, up_ad h2]
          exact c1 aa j h1 h2
        · rw [hD3, up_ad nmq]
          exact c2 j h
        · rw [hD3, up_ad nmq]
          exact c3
        · rw [hD3]
          by_cases hjk : j = k
          · rw [hjk, up_s, Int.toNat_natCast, hw3]
          · rw [up_k hjk]
            exact c4 j (by omega)
        · rw [hD3, up_k (by omega)]
          exact c5 j (by omega)
  exact key (N 80 8 - 1).toNat 0 (by omega) D1 (fun aa j h1 _ => by rw [hD1, up_ad h1]) (fun j h => by rw [hD1, up_k h]) (by rw [hD1, up_s, h7]) (fun j hj => absurd hj (Nat.not_lt_zero _)) (fun j _ => by rw [hD1, up_ad (Ne.symm nmq)])
end Rfs
