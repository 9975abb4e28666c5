/-! ===== what is reached ===== -/
theorem wrd_bd {M : Mem} {h p : Nat} (R : RefP M h p) : 2 ≤ wrdR M h p ∧ wrdR M h p ≤ 42 := by
  obtain ⟨f4, f5, f6, f7, f8, f9, f10⟩ := R
  unfold wrdR sizR
  by_cases h2 : M (h + 2) p = 2
  · have := f8 h2; rw [if_pos h2]; omega
  · rw [if_neg h2]
    by_cases h0 : M (h + 2) p = 0
    · have := f6 h0; rw [if_pos h0]; omega
    · rw [if_neg h0]
      by_cases h6 : M (h + 2) p = 6
      · have := f10 h6; rw [if_pos h6]; omega
      · rw [if_neg h6]
        by_cases h1 : M (h + 2) p = 1
        · have := f7 h1; omega
        · have := f9 (by omega) (by omega); omega
theorem sum_bd {w : Nat → Int} {C : Int} : ∀ n : Nat, (∀ k, k < n → 0 ≤ w k ∧ w k ≤ C) → 0 ≤ sumF w n ∧ sumF w n ≤ C * n := by
  intro n
  induction n with
  | zero => intro _; exact ⟨Int.le_refl 0, by show (0 : Int) ≤ C * ((0 : Nat) : Int); simp⟩
  | succ n ih =>
    intro h
    have h1 := ih (fun k hk => h k (by omega))
    have h2 := h n (by omega)
    show 0 ≤ sumF w n + w n ∧ sumF w n + w n ≤ C * ((n + 1 : Nat) : Int)
    have e : C * ((n + 1 : Nat) : Int) = C * (n : Int) + C := by push_cast; rw [Int.mul_add, Int.mul_one]
    rw [e]
    omega
theorem inv_rep {i : Nat} {M : Mem} (hI : Inv i M) : RepC M 80 18 := by
  have ho := hI.ob
  have hk := hI.kd
  refine ⟨ho.1.2, ho.2.2.2.1, ho.2.2.2.2.1, ho.2.2.2.2.2.2.1, fun p hp => (ho.2.2.2.2.2.2.2.1 p hp).1, fun p hp => ?_⟩
  have hat := at_in hI hp
  obtain ⟨u1, u2, u3, u4, u5, u6, u7, u8, u9, u10, u11, u12, u13, u14, u15, u16, u17, u18, u19, u20, u21, u22, u23⟩ := ho.2.2.2.2.2.1 p hp
  refine ⟨u2, ?_, u11, ⟨⟨hat.1, by have := hat.2.1; have := hat.2.2.1; show M 84 p + sizR M 80 p ≤ 1664; omega⟩, u5, fun h0 => ?_, u6, u7, u8, u9⟩, u22⟩
  · show M 10 (M 19 p).toNat = if M 82 p = 0 then M 74 (M 83 p).toNat else M 83 p
    by_cases h0 : M 82 p = 0
    · rw [if_pos h0]; exact (u3 h0).1.2
    · rw [if_neg h0]; exact (u4 h0).2
  · have h3 := (u3 h0).2
    have h4 := hk.2.2 (M 83 p).toNat (by omega)
    have h5 := hk.2.1
    exact ⟨⟨h3.1, show M 83 p < 12 by omega⟩, h4.2.2.1.1, h4.2.2.1.2, h4.2.2.2.1.1, h4.2.2.2.1.2⟩
theorem pic_eq {M : Mem} (P : MkPi M) {p : Nat} (hp : (p : Int) < M 97 0) : sizR M 97 p = sizR M 80 p ∧ holR M 97 p = holR M 80 p ∧ lnkR M 97 p = lnkR M 80 p ∧ (∀ pr, cntR M 97 pr p = cntR M 80 pr p) := by
  obtain ⟨e1, e2, e3, e4⟩ := P.2.2.2.2.1 p hp
  have h1 : sizR M 97 p = sizR M 80 p := by
    show (if M 99 p = 0 then M 74 (M 100 p).toNat + M 75 (M 100 p).toNat else if M 99 p = 6 then 2 * M 100 p else M 100 p) = (if M 82 p = 0 then M 74 (M 83 p).toNat + M 75 (M 83 p).toNat else if M 82 p = 6 then 2 * M 83 p else M 83 p)
    rw [e2, e3]
  have h3 : lnkR M 97 p = lnkR M 80 p := by
    show (if M 99 p = 0 then M 74 (M 100 p).toNat else if M 99 p = 1 then M 100 p else 0) = (if M 82 p = 0 then M 74 (M 83 p).toNat else if M 82 p = 1 then M 83 p else 0)
    rw [e2, e3]
  refine ⟨h1, ?_, h3, fun pr => ?_⟩
  · show (if M 99 p = 0 then M 74 (M 100 p).toNat else if M 99 p = 2 then 0 else sizR M 97 p) = (if M 82 p = 0 then M 74 (M 83 p).toNat else if M 82 p = 2 then 0 else sizR M 80 p)
    rw [h1, e2, e3]
  · show (if M 99 p = 4 ∧ pr = 0 then 1 else lnkR M 97 p) = (if M 82 p = 4 ∧ pr = 0 then 1 else lnkR M 80 p)
    rw [h3, e2]
theorem inv_pic {i : Nat} {M : Mem} (hI : Inv i M) (hon : M 72 10 = 1) : RepC M 97 32 := by
  have R := inv_rep hI
  have P := (hI.mk.2.2.2 hon).1
  have hle := P.1
  have hn := R.1
  refine ⟨⟨hle.1, by omega⟩, R.2.1, R.2.2.1, fun p q hpq hq => ?_, fun p hp => ?_, fun p hp => ?_⟩
  · show M 98 p < M 98 q
    rw [(P.2.2.2.2.1 p (by omega)).1, (P.2.2.2.2.1 q hq).1]
    exact R.2.2.2.1 p q hpq (show (q : Int) < M 80 0 by omega)
  · show 0 ≤ M 98 p
    rw [(P.2.2.2.2.1 p hp).1]
    exact R.2.2.2.2.1 p (show (p : Int) < M 80 0 by omega)
  · obtain ⟨e1, e2, e3, e4⟩ := P.2.2.2.2.1 p hp
    obtain ⟨q1, q2, q3, q4⟩ := pic_eq P hp
    obtain ⟨f1, f2, f3, ⟨g1, g2, g3, g4, g5, g6, g7⟩, f5⟩ := R.2.2.2.2.2 p (show (p : Int) < M 80 0 by omega)
    refine ⟨?_, ?_, ?_, ⟨?_, ?_, ?_, ?_, ?_, ?_, ?_⟩, fun k hk => ?_⟩
    · show M 8 (M 19 p).toNat = M 99 p
      rw [e2]; exact f1
    · show M 10 (M 19 p).toNat = if M 99 p = 0 then M 74 (M 100 p).toNat else M 100 p
      rw [e2, e3]; exact f2
    · show M 12 (M 19 p).toNat = M 101 p
      rw [e4]; exact f3
    · show 0 ≤ M 101 p ∧ M 101 p + sizR M 97 p ≤ 1664
      rw [e4, q1]; exact g1
    · show 0 ≤ M 99 p ∧ M 99 p ≤ 6
      rw [e2]; exact g2
    · show M 99 p = 0 → (0 ≤ M 100 p ∧ M 100 p < 12) ∧ 0 ≤ M 74 (M 100 p).toNat ∧ M 74 (M 100 p).toNat ≤ 8 ∧ 0 ≤ M 75 (M 100 p).toNat ∧ M 75 (M 100 p).toNat ≤ 8
      rw [e2, e3]; exact g3
    · show M 99 p = 1 → 0 ≤ M 100 p ∧ M 100 p ≤ 40
      rw [e2, e3]; exact g4
    · show M 99 p = 2 → 0 ≤ M 100 p ∧ M 100 p ≤ 120
      rw [e2, e3]; exact g5
    · show 3 ≤ M 99 p → M 99 p ≤ 5 → M 100 p = 1
      rw [e2, e3]; exact g6
    · show M 99 p = 6 → 1 ≤ M 100 p ∧ M 100 p ≤ 16
      rw [e2, e3]; exact g7
    · rw [q2] at hk
      have h7 := P.2.2.2.2.2.2.2 p k hp hk
      show (M 32 ((M 101 p).toNat + k) = -1 ∧ M 104 ((M 101 p).toNat + k) = -1) ∨ ∃ q : Nat, (q : Int) < M 97 0 ∧ M 32 ((M 101 p).toNat + k) = M 19 q ∧ M 104 ((M 101 p).toNat + k) = M 98 q
      rw [e4]
      rcases h7 with h7 | ⟨q, y1, y2, y3⟩
      · exact Or.inl h7
      · exact Or.inr ⟨q, y1, y2, by rw [(P.2.2.2.2.1 q y1).1]; exact y3⟩
/-! what a graph depends on -/
theorem cls_congr {M M1 : Mem} {h : Nat} (e0 : M1 h 0 = M h 0) (e1 : ∀ k, M1 (h + 1) k = M (h + 1) k) (e2 : ∀ k, M1 (h + 2) k = M (h + 2) k) (e3 : ∀ k, M1 (h + 3) k = M (h + 3) k) (e4 : ∀ k, M1 (h + 4) k = M (h + 4) k) (e7 : ∀ k, M1 (h + 7) k = M (h + 7) k) (e74 : ∀ k, M1 74 k = M 74 k) {pr b : Int} : Cls M1 h pr b = Cls M h pr b := by
  funext T
  unfold Cls Ed cntR lnkR
  simp only [e0, e1, e2, e3, e4, e7, e74]
theorem cl_congr2 {M M1 : Mem} {h : Nat} {pr b : Int} (e : Cls M1 h pr b = Cls M h pr b) {S S' : Nat → Prop} (hs : ∀ q, S q ↔ S' q) {p : Nat} : Cl M1 h pr b S p ↔ Cl M h pr b S' p := by
  unfold Cl
  rw [e]
  exact ⟨fun z T hT hS => z T hT (fun q hq => hS q ((hs q).mp hq)), fun z T hT hS => z T hT (fun q hq => hS q ((hs q).mpr hq))⟩
section Reach
variable {B : WB} {l : Launch} {X : va_W} {M M' : Mem} {Q : Int → Mem → Prop} {QN : Nat → Mem → Prop} {QV : Mem → Prop} {o h a1 : Nat} {b pr : Int} {i : Nat} {x : Int}
/-- a sum over the members of a set, or over places -/
theorem set_sum (hS : SetOk M' o) (hP : Prs M o h M') (hn : 0 ≤ M h 0 ∧ M h 0 ≤ 208) (hc : ∀ p : Nat, p < 208 → 0 ≤ M 19 p ∧ M 19 p < 208) (hi : ∀ p q : Nat, p < 208 → q < 208 → M 19 p = M 19 q → p = q) (v : Nat → Int) : sumF (fun k => v (M' (o + 2) k).toNat) (M' o 2).toNat = sumF (fun p => if M' (o + 1) (M 19 p).toNat = 1 then v (M 19 p).toNat else 0) (M h 0).toNat := by
  have hm := fun c => sm_iff (c := c) hS
  obtain ⟨⟨s1, s2⟩, s3, s4, s5, s6⟩ := hS
  have a3 : ∀ c : Nat, c < 208 → (∀ k, k < (M' o 2).toNat → (M' (o + 2) k).toNat ≠ c) → (if M' (o + 1) c = 1 then v c else 0) = 0 := by
    intro c hc hno
    rw [if_neg]
    intro h1
    obtain ⟨k, hk, he⟩ := (s6 c hc).mp h1
    exact hno k (by omega) (show (M' (o + 2) k).toNat = c by omega)
  have a4 : ∀ c : Nat, c < 208 → (∀ p, p < (M h 0).toNat → (M 19 p).toNat ≠ c) → (if M' (o + 1) c = 1 then v c else 0) = 0 := by
    intro c hc' hno
    rw [if_neg]
    intro h1
    obtain ⟨p, hp, he⟩ := hP (c : Int) ⟨by omega, by omega, h1⟩
    exact hno p (by omega) (show (M 19 p).toNat = c by omega)
  have e1 : sumF (fun k => if M' (o + 1) (M' (o + 2) k).toNat = 1 then v (M' (o + 2) k).toNat else 0) (M' o 2).toNat = sumF (fun c => if M' (o + 1) c = 1 then v c else 0) 208 := by
    refine sum_perm 208 (M' o 2).toNat (fun k => (M' (o + 2) k).toNat) (fun c => if M' (o + 1) c = 1 then v c else 0) (fun k hk => ?_) (fun j k hjk hk => ?_) a3
    · have := s3 k (by omega)
      show (M' (o + 2) k).toNat < 208
      omega
    · have := s3 j (by omega)
      have := s3 k (by omega)
      have := s4 j k hjk (by omega)
      show (M' (o + 2) j).toNat ≠ (M' (o + 2) k).toNat
      omega
  have e2 : sumF (fun p => if M' (o + 1) (M 19 p).toNat = 1 then v (M 19 p).toNat else 0) (M h 0).toNat = sumF (fun c => if M' (o + 1) c = 1 then v c else 0) 208 := by
    refine sum_perm 208 (M h 0).toNat (fun p => (M 19 p).toNat) (fun c => if M' (o + 1) c = 1 then v c else 0) (fun p hp => ?_) (fun p q hpq hq => ?_) a4
    · have := hc p (by omega)
      show (M 19 p).toNat < 208
      omega
    · intro he
      have he : (M 19 p).toNat = (M 19 q).toNat := he
      have h1 := hc p (by omega)
      have h2 := hc q (by omega)
      have h3 := hi p q (by omega) (by omega) (by omega)
      omega
  rw [e2, ← e1]
  refine sum_congr _ (fun k hk => ?_)
  have hb := s3 k (by omega)
  show v (M' (o + 2) k).toNat = if M' (o + 1) (M' (o + 2) k).toNat = 1 then v (M' (o + 2) k).toNat else 0
  rw [if_pos]
  exact (s6 (M' (o + 2) k).toNat (by omega)).mpr ⟨k, by omega, by omega⟩
/-- nothing but the set of the Survey's reached ones -/
def F59 (M' M : Mem) : Prop := ∀ o k, o ≠ 59 → o ≠ 60 → o ≠ 61 → M' o k = M o k
theorem F59.rel (g : F59 M' M) : Agr rel M' M := by
  intro o k hr
  refine g o k ?_ ?_ ?_ <;> rintro rfl <;> exact absurd (show false = true from hr) (by decide)
theorem inv_59 (hI : Inv i M) (g : F59 M' M) (hS : SetOk M' 59) : Inv i M' := by
  refine ⟨core_same g.rel hI.1, fun o ho => ?_, fun o ho => ?_⟩
  · have h2 := hI.sc.1 o ho
    rcases ho with rfl | rfl | rfl | rfl | rfl | rfl | rfl | rfl | rfl | rfl
    case inr.inr.inr.inr.inr.inr.inl => exact ⟨hS, Or.inl rfl⟩
    all_goals exact set_agr (funext fun k => g _ k (by decide) (by decide) (by decide)) (funext fun k => g _ k (by decide) (by decide) (by decide)) (funext fun k => g _ k (by decide) (by decide) (by decide)) h2
  · have h2 := hI.sc.2 o ho
    rcases ho with rfl | rfl | rfl <;> exact ⟨(g _ _ (by decide) (by decide) (by decide)).trans h2.1, (g _ _ (by decide) (by decide) (by decide)).trans h2.2⟩
theorem fo_59 (g : Fo 59 M' M) : F59 M' M := fun o k h1 h2 h3 => g o k (fun z => h1 z.1) h2 h3
theorem F59.trans {M'' : Mem} (g : F59 M'' M') (g' : F59 M' M) : F59 M'' M := fun o k a b c => (g o k a b c).trans (g' o k a b c)
/-- the graph of the memory is the same -/
theorem cls_rel (g : Agr rel M' M) : Cls M' 80 pr b = Cls M 80 pr b := cls_congr (g 80 0 rfl) (fun k => g 81 k rfl) (fun k => g 82 k rfl) (fun k => g 83 k rfl) (fun k => g 84 k rfl) (fun k => g 87 k rfl) (fun k => g 74 k rfl)
theorem cs_findReached (hl : l.stackTraces = false) (hI : Inv i M) (hx : inR x) (hb : (x = -1 ∧ b = -1) ∨ ∃ p : Nat, (p : Int) < M 80 0 ∧ x = M 19 p ∧ b = p) (hq : ∀ M', F59 M' M → SetOk M' 59 → Prs M 59 80 M' → (∀ p : Nat, (p : Int) < M 80 0 → (Sm M' 59 (M 19 p) ↔ Cl M 80 0 b (fun q => Hrt M 80 q ∧ (q : Int) ≠ b) p)) → QV M') : OkV B l md_X9_findReached 0 0 [.ref (ad B 58), .int (I x)] X M QV NoX := by
  have h59 : isCS 59 := Or.inr (Or.inr (Or.inr (Or.inr (Or.inr (Or.inr (Or.inl rfl))))))
  have hS := (hI.sc.1 59 h59).1
  refine ok_X9_findReached hl (fun G hG => go_X9_findReached_0 hG (cs_makeEmpty h59 (Ct_fl hG) hS (fun M1 s1 f1 z1 n1 => ⟨hx, fun M2 e2 => ?_⟩)))
  have s2 : SetOk M2 59 := by
    have e0 : M2 59 2 = M1 59 2 := by subst e2; exact up_k (by decide)
    have e1 : M2 60 = M1 60 := by subst e2; funext k; exact up_o (by decide)
    have e3 : M2 61 = M1 61 := by subst e2; funext k; exact up_o (by decide)
    unfold SetOk at s1 ⊢
    rw [e0]
    show _ ∧ (∀ k : Nat, (k : Int) < M1 59 2 → 0 ≤ M2 61 k ∧ M2 61 k < 208) ∧ (∀ j k : Nat, j < k → (k : Int) < M1 59 2 → M2 61 j ≠ M2 61 k) ∧ (∀ c : Nat, c < 208 → (M2 60 c = 0 ∨ M2 60 c = 1)) ∧ (∀ c : Nat, c < 208 → (M2 60 c = 1 ↔ ∃ k : Nat, (k : Int) < M1 59 2 ∧ M2 61 k = c))
    rw [e1, e3]
    exact s1
  have f2 : F59 M2 M := fun o k q1 q2 q3 => by subst e2; rw [up_o q1]; exact fo_59 f1 o k q1 q2 q3
  have i2 := inv_59 hI f2 s2
  have c2 := f2.rel
  have z2 : M2 59 2 = 0 := by subst e2; rw [up_k (by decide)]; exact z1
  have b2 : M2 59 3 = x := by subst e2; exact up_s _ _ _ _
  have en : M2 80 0 = M 80 0 := c2 80 0 rfl
  have e19 : ∀ p, M2 19 p = M 19 p := fun p => c2 19 p rfl
  have hb2 : (M2 59 3 = -1 ∧ b = -1) ∨ ∃ p : Nat, (p : Int) < M2 80 0 ∧ M2 59 3 = M2 19 p ∧ b = p := by
    rw [b2, en]
    rcases hb with h | ⟨p, h1, h2, h3⟩
    · exact Or.inl h
    · exact Or.inr ⟨p, h1, by rw [e19]; exact h2, h3⟩
  refine cs_addTo (N := M2) h59 (Ct_fl hG) agr0 i2.fr i2.li i2.ob s2 z2 hb2 (fun M3 g3 l3 => ?_)
  have f3 : F59 M3 M2 := fo_59 g3.2.1
  have i3 := inv_59 i2 f3 g3.1
  have c3 := f3.rel
  have hm3 := fun c => ls_mem (c := c) g3.1 l3
  have hN := ob_num i2.ob
  refine cs_spread (N := M3) (h := 80) (b := b) h59 (Or.inl ⟨rfl, rfl⟩) (Ct_fl hG) inR0 agr0 (inv_rep i3) g3.1 ?_ (fun c hc => ?_) (fun M4 g4 p4 m4 => ?_)
  · show (M3 59 3 = -1 ∧ b = -1) ∨ ∃ p : Nat, (p : Int) < M3 80 0 ∧ M3 59 3 = M3 19 p ∧ b = p
    rw [g3.2.1.barred, c3 80 0 rfl]
    rcases hb2 with h | ⟨p, h1, h2, h3⟩
    · exact Or.inl h
    · exact Or.inr ⟨p, h1, by rw [c3 19 p rfl]; exact h2, h3⟩
  · obtain ⟨q, h1, h2⟩ := (hm3 c).mp hc
    exact ⟨q, by rw [c3 80 0 rfl]; exact l3.2.2 q h1, by rw [c3 19 q rfl]; exact h2⟩
  · have f4 : F59 M4 M3 := fo_59 g4.2.1
    have c32 : Agr rel M3 M := fun o k hr => (c3 o k hr).trans (c2 o k hr)
    refine hq M4 (f4.trans (f3.trans f2)) g4.1 (fun c hc => ?_) (fun p hp => ?_)
    · obtain ⟨p, h1, h2⟩ := p4 c hc
      exact ⟨p, by rw [← c32 80 0 rfl]; exact h1, by rw [← c32 19 p rfl]; exact h2⟩
    · have h9 := m4 p (by rw [c32 80 0 rfl]; exact hp)
      rw [c32 19 p rfl] at h9
      rw [h9]
      refine cl_congr2 (cls_rel c32) (fun q => ?_)
      show ((q : Int) < M3 80 0 ∧ Sm M3 59 (M3 19 q)) ↔ _
      rw [c32 80 0 rfl, c32 19 q rfl, hm3]
      constructor
      · rintro ⟨h1, q', h2, h3⟩
        have hb' := (inv_rep hI).2.2.1 q q' (by have := hI.ob.1; omega) (by have := l3.2.2 q' h2; have := hI.ob.1; omega) (by rw [h3, e19])
        subst hb'
        rcases (mem_sc _ _).mp h2 with h4 | ⟨h4, h5⟩
        · cases h4
        · have h6 := (mem_rtL hN i2.li.1.2.1 i2.li.2.2.1).mp h4
          have : Hrt M2 80 = Hrt M 80 := by
            funext q
            show (((q : Int) < M2 80 0) ∧ ((∃ k : Nat, k < 72 ∧ M2 89 k = M2 81 q) ∨ (∃ k : Nat, (k : Int) < M2 80 7 ∧ M2 90 k = M2 81 q) ∨ (∃ k : Nat, (k : Int) < M2 80 8 ∧ M2 91 k = M2 81 q))) = _
            simp only [c2 80 0 rfl, c2 80 7 rfl, c2 80 8 rfl, fun k => c2 89 k rfl, fun k => c2 90 k rfl, fun k => c2 91 k rfl, fun k => c2 81 k rfl]
            rfl
          rw [this] at h6
          exact ⟨h6, h5⟩
      · rintro ⟨h1, h2⟩
        refine ⟨h1.1, q, (mem_sc _ _).mpr (Or.inr ⟨(mem_rtL hN i2.li.1.2.1 i2.li.2.2.1).mpr ?_, h2⟩), (e19 q).symm⟩
        have : Hrt M2 80 = Hrt M 80 := by
          funext q
          show (((q : Int) < M2 80 0) ∧ ((∃ k : Nat, k < 72 ∧ M2 89 k = M2 81 q) ∨ (∃ k : Nat, (k : Int) < M2 80 7 ∧ M2 90 k = M2 81 q) ∨ (∃ k : Nat, (k : Int) < M2 80 8 ∧ M2 91 k = M2 81 q))) = _
          simp only [c2 80 0 rfl, c2 80 7 rfl, c2 80 8 rfl, fun k => c2 89 k rfl, fun k => c2 90 k rfl, fun k => c2 91 k rfl, fun k => c2 81 k rfl]
          rfl
        rw [this]
        exact h1
theorem cs_reachedWords (hl : l.stackTraces = false) (hI : Inv i M) (hx : inR x) (hb : (x = -1 ∧ b = -1) ∨ ∃ p : Nat, (p : Int) < M 80 0 ∧ x = M 19 p ∧ b = p) (hq : ∀ M', F59 M' M → SetOk M' 59 → (∀ p : Nat, (p : Int) < M 80 0 → (M' 60 (M 19 p).toNat = 1 ↔ Cl M 80 0 b (fun q => Hrt M 80 q ∧ (q : Int) ≠ b) p)) → Q (sumF (fun p => if M' 60 (M 19 p).toNat = 1 then wrdR M 80 p else 0) (M 80 0).toNat) M') : OkI B l md_X9_reachedWords 0 0 [.ref (ad B 58), .int (I x)] X M Q NoX := by
  have R := inv_rep hI
  refine ok_X9_reachedWords hl (fun G hG => go_X9_reachedWords_0 hG (cs_findReached (i := i) (b := b) (Ct_fl hG) hI hx hb (fun M1 f1 s1 p1 m1 => ?_)))
  have e11 : ∀ k, M1 11 k = M 11 k := fun k => f1 11 k (by decide) (by decide) (by decide)
  have wb : ∀ k : Nat, (k : Int) < M1 59 2 → 0 ≤ M1 11 (M1 61 k).toNat ∧ M1 11 (M1 61 k).toNat ≤ 42 := by
    intro k hk
    obtain ⟨p, hp, he⟩ := p1 (M1 61 k) ((sm_iff s1).mpr ⟨k, hk, rfl⟩)
    have h2 := (hI.ob.2.2.2.2.2.1 p hp).2.2.2.2.2.2.2.2.2.1
    have h3 := wrd_bd (R.2.2.2.2.2 p hp).2.2.2.1
    rw [he, e11, h2]
    omega
  have hs := s1.1
  have loop : ∀ (r k : Nat), (k : Int) + r = M1 59 2 → L_X9_reachedWords_9 G X (sumF (fun k => M1 11 (M1 61 k).toNat) k) (k : Int) M1 := by
    intro r
    induction r with
    | zero =>
      intro k hk
      have hbd := sum_bd (w := fun k => M1 11 (M1 61 k).toNat) (C := 42) k (fun j hj => wb j (by omega))
      refine go_X9_reachedWords_9 hG (fun z => ⟨⟨by omega, by omega⟩, z, fun _ => ⟨⟨by omega, by omega⟩, ?_⟩, fun hlt => absurd hlt (by omega)⟩)
      have hiff : ∀ p : Nat, (p : Int) < M 80 0 → (M1 60 (M 19 p).toNat = 1 ↔ Cl M 80 0 b (fun q => Hrt M 80 q ∧ (q : Int) ≠ b) p) := by
        intro p hp
        have hc := R.2.1 p (by have := R.1; omega)
        rw [← m1 p hp]
        exact ⟨fun z => ⟨hc.1, hc.2, z⟩, fun z => z.2.2⟩
      have h9 := hq M1 f1 s1 hiff
      have e := set_sum s1 p1 R.1 R.2.1 R.2.2.1 (fun c => M1 11 c)
      have e2 : sumF (fun p => if M1 60 (M 19 p).toNat = 1 then wrdR M 80 p else 0) (M 80 0).toNat = sumF (fun k => M1 11 (M1 61 k).toNat) k := by
        rw [show k = (M1 59 2).toNat by omega]
        refine (Eq.trans (sum_congr _ (fun p hp => ?_)) e.symm)
        show (if M1 60 (M 19 p).toNat = 1 then wrdR M 80 p else 0) = (if M1 60 (M 19 p).toNat = 1 then M1 11 (M 19 p).toNat else 0)
        rw [e11, (hI.ob.2.2.2.2.2.1 p (by have := R.1; omega)).2.2.2.2.2.2.2.2.2.1]
      rw [e2] at h9
      exact h9
    | succ r ih =>
      intro k hk
      have hb2 := s1.2.1 k (by omega)
      refine go_X9_reachedWords_9 hG (fun z => ⟨⟨by omega, by omega⟩, z, fun hle => absurd hle (by omega), fun _ => ⟨⟨by omega, by omega⟩, fun z2 => ⟨hb2, fun z3 => ?_⟩⟩⟩)
      exact ih (k + 1) (by omega)
  exact loop (M1 59 2).toNat 0 (by omega)
theorem cls_fm (ho : isHp h) (ha : isMr h a1) (f : Fm h a1 M' M) : Cls M' h pr b = Cls M h pr b := by
  unfold isHp at ho
  unfold isMr at ha
  exact cls_congr (f _ _ (by omega) (by omega) (by omega)) (fun k => f _ _ (by omega) (by omega) (by omega)) (fun k => f _ _ (by omega) (by omega) (by omega)) (fun k => f _ _ (by omega) (by omega) (by omega)) (fun k => f _ _ (by omega) (by omega) (by omega)) (fun k => f _ _ (by omega) (by omega) (by omega)) (fun k => f _ _ (by omega) (by omega) (by omega))
theorem rt_congr {M1 : Mem} (e0 : M1 h 0 = M h 0) (e7 : M1 h 7 = M h 7) (e8 : M1 h 8 = M h 8) (e1 : ∀ k, M1 (h + 1) k = M (h + 1) k) (e9 : ∀ k, M1 (h + 9) k = M (h + 9) k) (e10 : ∀ k, M1 (h + 10) k = M (h + 10) k) (e11 : ∀ k, M1 (h + 11) k = M (h + 11) k) : Hrt M1 h = Hrt M h := by
  funext q
  unfold Hrt
  simp only [e0, e7, e8, e1, e9, e10, e11]
theorem refo_congr {M1 : Mem} (e0 : M1 h 0 = M h 0) (e1 : ∀ k, M1 (h + 1) k = M (h + 1) k) (e2 : ∀ k, M1 (h + 2) k = M (h + 2) k) (e3 : ∀ k, M1 (h + 3) k = M (h + 3) k) (e4 : ∀ k, M1 (h + 4) k = M (h + 4) k) (e74 : ∀ k, M1 74 k = M 74 k) (e75 : ∀ k, M1 75 k = M 75 k) (R : RefO M h) : RefO M1 h := by
  unfold RefO Num RefP sizR
  simp only [e0, e1, e2, e3, e4, e74, e75]
  exact R
/-- nothing but the scratch of the reference's memory -/
def F80 (M' M : Mem) : Prop := (∀ o k, ¬ (o = 80 ∧ (k = 25 ∨ k = 26)) → ¬ (93 ≤ o ∧ o ≤ 96) → M' o k = M o k) ∧ M' 80 25 = 0 ∧ M' 80 26 = -1
theorem F80.rel (g : F80 M' M) : Agr rel M' M := by
  intro o k hr
  refine g.1 o k ?_ ?_
  · rintro ⟨rfl, rfl | rfl⟩ <;> exact absurd (show false = true from hr) (by decide)
  · intro hh
    have h4 : o = 93 ∨ o = 94 ∨ o = 95 ∨ o = 96 := by omega
    rcases h4 with rfl | rfl | rfl | rfl <;> exact absurd (show false = true from hr) (by decide)
theorem inv_80 (hI : Inv i M) (g : F80 M' M) : Inv i M' := by
  refine ⟨core_same g.rel hI.1, fun o ho => ?_, fun o ho => ?_⟩
  · have h2 := hI.sc.1 o ho
    have e : ∀ o' k, o' < 80 → M' o' k = M o' k := fun o' k ho' => g.1 o' k (by omega) (by omega)
    have hlt : o + 2 < 80 := by rcases ho with rfl | rfl | rfl | rfl | rfl | rfl | rfl | rfl | rfl | rfl <;> decide
    exact set_agr (funext fun k => e _ k (by omega)) (funext fun k => e _ k (by omega)) (funext fun k => e _ k (by omega)) h2
  · have h2 := hI.sc.2 o ho
    rcases ho with rfl | rfl | rfl
    · exact g.2
    · exact ⟨(g.1 _ _ (by decide) (by decide)).trans h2.1, (g.1 _ _ (by decide) (by decide)).trans h2.2⟩
    · exact ⟨(g.1 _ _ (by decide) (by decide)).trans h2.1, (g.1 _ _ (by decide) (by decide)).trans h2.2⟩
theorem F80.trans {M'' : Mem} (g : F80 M'' M') (g' : F80 M' M) : F80 M'' M := ⟨fun o k a b => (g.1 o k a b).trans (g'.1 o k a b), g.2⟩
theorem rt_rel (g : Agr rel M' M) : Hrt M' 80 = Hrt M 80 := rt_congr (g 80 0 rfl) (g 80 7 rfl) (g 80 8 rfl) (fun k => g 81 k rfl) (fun k => g 89 k rfl) (fun k => g 90 k rfl) (fun k => g 91 k rfl)
theorem refo_rel (g : Agr rel M' M) (R : RefO M 80) : RefO M' 80 := refo_congr (g 80 0 rfl) (fun k => g 81 k rfl) (fun k => g 82 k rfl) (fun k => g 83 k rfl) (fun k => g 84 k rfl) (fun k => g 74 k rfl) (fun k => g 75 k rfl) R
end Reach
