/-! ===== wouldRemove: a collection of another memory that is the same as far as it is in use ===== -/
def Gar (W M : Mem) : Prop :=
  (∀ o k, ¬ (o = 80 ∧ k ≤ 8) → ¬ (81 ≤ o ∧ o ≤ 91) → ¬ (o = 31 ∧ k = 6) → ¬ (o = 72 ∧ k = 10) → W o k = M o k) ∧ (W 31 6 = 0 ∧ W 72 10 = 0) ∧
  (∀ k, k ≤ 8 → W 80 k = M 80 k) ∧ (∀ o p : Nat, 81 ≤ o → o ≤ 86 → (p : Int) < M 80 0 → W o p = M o p) ∧ (∀ j : Nat, (j : Int) < M 80 1 → W 87 j = M 87 j) ∧
  ((∀ k, k < 8 → W 88 k = M 88 k) ∧ (∀ k, k < 72 → W 89 k = M 89 k)) ∧ ((∀ k : Nat, (k : Int) < M 80 7 → W 90 k = M 90 k) ∧ (∀ k : Nat, (k : Int) < M 80 8 → W 91 k = M 91 k))
section Would
variable {B : WB} {l : Launch} {X : va_W} {M M' M1 W N : Mem} {Q : Int → Mem → Prop} {QV : Mem → Prop} {i p : Nat} {S : Nat → Prop} {pr b w x : Int}
theorem OkI_mok {md : Md} {k n : Nat} {av : List Value} {E : String → Mem → Prop} (kk : MOK M → OkI B l md k n av X M Q E) : OkI B l md k n av X M Q E := fun hM => kk hM hM
theorem gar_rf (g : Gar W M) {c n : Int} (h : Rf M c n) : Rf W c n := by
  obtain ⟨g1, g0, g2, g3, -⟩ := g
  rcases h with h | ⟨p, h1, h2, h3⟩
  · exact Or.inl h
  · exact Or.inr ⟨p, by rw [g2 0 (by decide)]; exact h1, by rw [g1 19 p (by omega) (by omega) (by omega) (by omega)]; exact h2, by rw [g3 81 p (by decide) (by decide) h1]; exact h3⟩
theorem gar_siz (g : Gar W M) (hp : (p : Int) < M 80 0) : sizR W 80 p = sizR M 80 p ∧ holR W 80 p = holR M 80 p ∧ wrdR W 80 p = wrdR M 80 p ∧ lnkR W 80 p = lnkR M 80 p := by
  obtain ⟨g1, g0, g2, g3, -⟩ := g
  have e82 : W 82 p = M 82 p := g3 82 p (by decide) (by decide) hp
  have e83 : W 83 p = M 83 p := g3 83 p (by decide) (by decide) hp
  have e74 : ∀ k, W 74 k = M 74 k := fun k => g1 74 k (by omega) (by omega) (by omega) (by omega)
  have e75 : ∀ k, W 75 k = M 75 k := fun k => g1 75 k (by omega) (by omega) (by omega) (by omega)
  have es : sizR W 80 p = sizR M 80 p := by
    show (if W 82 p = 0 then W 74 (W 83 p).toNat + W 75 (W 83 p).toNat else if W 82 p = 6 then 2 * W 83 p else W 83 p) = (if M 82 p = 0 then M 74 (M 83 p).toNat + M 75 (M 83 p).toNat else if M 82 p = 6 then 2 * M 83 p else M 83 p)
    rw [e82, e83, e74, e75]
  refine ⟨es, ?_, ?_, ?_⟩
  · show (if W 82 p = 0 then W 74 (W 83 p).toNat else if W 82 p = 2 then 0 else sizR W 80 p) = (if M 82 p = 0 then M 74 (M 83 p).toNat else if M 82 p = 2 then 0 else sizR M 80 p)
    rw [e82, e83, e74, es]
  · show 2 + (if W 82 p = 2 then (W 83 p + 3) / 4 else sizR W 80 p) = 2 + (if M 82 p = 2 then (M 83 p + 3) / 4 else sizR M 80 p)
    rw [e82, e83, es]
  · show (if W 82 p = 0 then W 74 (W 83 p).toNat else if W 82 p = 1 then W 83 p else 0) = (if M 82 p = 0 then M 74 (M 83 p).toNat else if M 82 p = 1 then M 83 p else 0)
    rw [e82, e83, e74]
theorem gar_at (g : Gar W M) : ∀ n : Nat, (n : Int) ≤ M 80 0 → atR W 80 n = atR M 80 n := by
  intro n
  induction n with
  | zero => intro _; rfl
  | succ n ih =>
    intro h
    show atR W 80 n + sizR W 80 n = atR M 80 n + sizR M 80 n
    rw [ih (by omega), (gar_siz g (p := n) (by omega)).1]
theorem gar_ws (g : Gar W M) (b : Bool) : ∀ n : Nat, (n : Int) ≤ M 80 0 → wsR W b n = wsR M b n := by
  intro n
  induction n with
  | zero => intro _; rfl
  | succ n ih =>
    intro h
    show wsR W b n + (if (W 14 (W 19 n).toNat = 1) = (b = true) then wrdR W 80 n else 0) = wsR M b n + (if (M 14 (M 19 n).toNat = 1) = (b = true) then wrdR M 80 n else 0)
    rw [ih (by omega), (gar_siz g (p := n) (by omega)).2.2.1, g.1 19 n (by omega) (by omega) (by omega) (by omega), g.1 14 _ (by omega) (by omega) (by omega) (by omega)]
theorem gar_cel (hI : Inv i M) (g : Gar W M) {k : Nat} (hp : (p : Int) < M 80 0) (hk : (k : Int) < sizR M 80 p) : W 87 ((W 84 p).toNat + k) = M 87 ((M 84 p).toNat + k) := by
  have h1 := at_in hI hp
  rw [g.2.2.2.1 84 p (by decide) (by decide) hp]
  exact g.2.2.2.2.1 _ (by omega)
set_option maxHeartbeats 4000000 in
theorem inv_gar (hI : Inv i M) (g : Gar W M) : Inv i W := by
  have g' := g
  obtain ⟨g1, ⟨g01, g02⟩, g2, g3, g4, ⟨g5, g6⟩, g7, g8⟩ := g
  have R := inv_rep hI
  have e0 : W 80 0 = M 80 0 := g2 0 (by decide)
  have cl : ∀ o k, o ≤ 30 → W o k = M o k := fun o k h => g1 o k (by omega) (by omega) (by omega) (by omega)
  have hn := hI.ob.1
  have e00 : (W 80 0).toNat = (M 80 0).toNat := by rw [e0]
  refine ⟨⟨⟨?_, ?_, fun f hf => ?_, fun f s hf hs => ?_, fun q hq => ?_⟩, ⟨⟨?_, ?_, ?_, fun k hk => ?_⟩, ?_, ?_, ?_, fun k hk => ?_⟩, kd_same (fun o k hr => ?_) hI.kd, ?_, im_same (fun o k hr => ?_) hI.im, ?_, ⟨?_, Or.inl g02⟩, ?_, ?_, fun hon => absurd hon (by rw [g02]; decide)⟩, sc_agr (fun o k hr => ?_) hI.sc⟩
  · rw [g2 6 (by decide)]; exact hI.fr.1
  · rw [g2 6 (by decide), cl 21 5 (by decide)]; exact hI.fr.2.1
  · rw [g2 6 (by decide)] at hf
    have := hI.fr.1
    rw [cl 23 f (by decide), g5 f (by omega)]
    exact hI.fr.2.2.1 f hf
  · have h9 := hI.fr.2.2.2.1 f s hf hs
    rw [g2 6 (by decide), cl 22 _ (by decide), g5 f hf, g6 _ (by omega)]
    split at h9
    · rename_i hh
      rw [if_pos hh]
      exact gar_rf g' h9
    · rename_i hh
      rw [if_neg hh]
      exact h9
  · rw [cl 24 _ (by decide), g6 _ (by omega)]
    exact gar_rf g' (hI.fr.2.2.2.2 q hq)
  · rw [cl 25 1 (by decide), g2 7 (by decide)]; exact hI.li.1.1
  · rw [g2 7 (by decide)]; exact hI.li.1.2.1
  · rw [g2 7 (by decide)]; exact hI.li.1.2.2.1
  · rw [g2 7 (by decide)] at hk
    rw [cl 26 k (by decide), g7 k hk]
    have h9 := hI.li.1.2.2.2 k hk
    exact ⟨h9.1, gar_rf g' h9.2⟩
  · rw [cl 27 1 (by decide), g2 8 (by decide)]; exact hI.li.2.1
  · rw [g2 8 (by decide)]; exact hI.li.2.2.1
  · rw [g2 8 (by decide)]; exact hI.li.2.2.2.1
  · rw [g2 8 (by decide)] at hk
    rw [cl 28 k (by decide), g8 k hk]
    have h9 := hI.li.2.2.2.2 k hk
    exact ⟨h9.1, gar_rf g' h9.2⟩
  · refine g1 o k ?_ ?_ ?_ ?_ <;> intro z <;> unfold rKd at hr <;> simp only [Bool.or_eq_true, Bool.and_eq_true, Nat.beq_eq] at hr <;> omega
  · obtain ⟨o1, o2, o3, o4, o5, o6, o7, o8, o9, o10⟩ := hI.ob
    refine ⟨?_, ?_, ?_, fun p hp => ?_, fun p s hp hs he => ?_, fun p hp => ?_, fun p s hps hs => ?_, fun p hp => ?_, ?_, ?_⟩
    · rw [cl 6 _ (by decide), e0]; exact o1
    · rw [cl 6 _ (by decide), g2 1 (by decide), e00, gar_at g' _ (by omega)]; exact o2
    · rw [cl 6 _ (by decide), g2 2 (by decide)]; exact o3
    · rw [cl 19 _ (by decide)]; exact o4 p hp
    · rw [cl 19 _ (by decide), cl 19 _ (by decide)] at he; exact o5 p s hp hs he
    · rw [e0] at hp
      have hO := o6 p hp
      have hz := gar_siz g' hp
      have px : ∀ a, 81 ≤ a → a ≤ 86 → W a p = M a p := fun a h1 h2 => g3 a p h1 h2 hp
      rw [cl 19 _ (by decide)]
      refine o1_mk hO (cl 7 _ (by decide)) (cl 8 _ (by decide)) (cl 9 _ (by decide)) (cl 10 _ (by decide)) (cl 11 _ (by decide)) (cl 16 _ (by decide)) (cl 17 _ (by decide)) (px 81 (by decide) (by decide)) (px 82 (by decide) (by decide)) (px 83 (by decide) (by decide)) (g1 72 1 (by decide) (by decide) (by decide) (by decide)) (fun t => g1 74 t (by omega) (by omega) (by omega) (by omega)) (fun t => g1 75 t (by omega) (by omega) (by omega) (by omega)) (fun t => g1 76 t (by omega) (by omega) (by omega) (by omega)) ?_ ?_ ?_ ?_ ?_ ?_ ?_ (fun t ht => ?_) (fun t h1 h2 => ?_)
      · rw [cl 12 _ (by decide), px 84 (by decide) (by decide)]; exact hO.2.2.2.2.2.2.2.2.2.2.1
      · rw [px 84 (by decide) (by decide), gar_at g' p (by omega)]; exact hO.2.2.2.2.2.2.2.2.2.2.2.1
      · rw [cl 13 _ (by decide), px 85 (by decide) (by decide)]; exact ⟨hO.2.2.2.2.2.2.2.2.2.2.2.2.1, hO.2.2.2.2.2.2.2.2.2.2.2.2.2.1⟩
      · rw [cl 14 _ (by decide)]; exact hO.2.2.2.2.2.2.2.2.2.2.2.2.2.2.1
      · rw [cl 15 _ (by decide)]; exact hO.2.2.2.2.2.2.2.2.2.2.2.2.2.2.2.1
      · rw [cl 15 _ (by decide)]; exact hO.2.2.2.2.2.2.2.2.2.2.2.2.2.2.2.2.2.2.2.1
      · rw [cl 14 _ (by decide), cl 15 _ (by decide), px 86 (by decide) (by decide)]; omega
      · have hsz := siz_bd hI hp
        rw [cl 18 _ (by decide), gar_cel hI g' hp (by omega), px 84 (by decide) (by decide)]
        exact gar_rf g' (hO.2.2.2.2.2.2.2.2.2.2.2.2.2.2.2.2.2.2.2.2.2.1 t ht)
      · rw [cl 18 _ (by decide), gar_cel hI g' hp h2, px 84 (by decide) (by decide)]
        exact ⟨rfl, rfl⟩
    · rw [e0] at hs
      rw [g3 81 p (by decide) (by decide) (by omega), g3 81 s (by decide) (by decide) hs]
      exact o7 p s hps hs
    · rw [e0] at hp
      rw [g3 81 p (by decide) (by decide) hp, g2 2 (by decide)]
      exact o8 p hp
    · rw [cl 6 _ (by decide), e00, gar_ws g' false _ (by omega)]; exact o9
    · rw [cl 6 _ (by decide), e00, gar_ws g' true _ (by omega)]; exact o10
  · refine g1 o k ?_ ?_ ?_ ?_ <;> intro z <;> unfold rIm at hr <;> simp only [Bool.or_eq_true, Bool.and_eq_true, Nat.beq_eq] at hr <;> omega
  · obtain ⟨c1, c2, c3⟩ := hI.co
    have e39 : ∀ k, W 39 k = M 39 k := fun k => g1 39 k (by omega) (by omega) (by omega) (by omega)
    refine ⟨?_, ?_, ?_⟩
    · rw [e39, g2 5 (by decide)]; exact c1
    · rw [e39, g2 3 (by decide)]; exact c2
    · rw [e39, g2 4 (by decide)]; exact c3
  · rw [g01, g02]
  · obtain ⟨q1, q2, q3, q4⟩ := hI.mk.2.1
    refine ⟨fun a k h1 h2 => ?_, fun k h1 => ?_, fun a k h1 h2 => ?_, fun k h1 => ?_⟩
    · rw [g2 7 (by decide)] at h2
      rw [g7 a (by omega), g7 k h2]
      exact q1 a k h1 h2
    · rw [g2 7 (by decide)] at h1
      obtain ⟨p, a1, a2, a3, a4⟩ := q2 k h1
      have hs := (ref_one hI a1 a3).1
      have h9 := gar_cel hI g' (k := 0) a1 (by omega)
      rw [Nat.add_zero, Nat.add_zero] at h9
      exact ⟨p, by rw [e0]; exact a1, by rw [g3 81 p (by decide) (by decide) a1, g7 k h1]; exact a2, by rw [g3 82 p (by decide) (by decide) a1]; exact a3, by rw [h9]; exact a4⟩
    · rw [g2 8 (by decide)] at h2
      rw [g8 a (by omega), g8 k h2]
      exact q3 a k h1 h2
    · rw [g2 8 (by decide)] at h1
      obtain ⟨p, a1, a2, a3⟩ := q4 k h1
      exact ⟨p, by rw [e0]; exact a1, by rw [g3 81 p (by decide) (by decide) a1, g8 k h1]; exact a2, by rw [cl 19 _ (by decide), cl 15 _ (by decide)]; exact a3⟩
  · obtain ⟨q1, q2, q3⟩ := hI.mk.2.2.1
    refine ⟨fun p hp h14 => ?_, fun p k hp h6 hk he => ?_, fun p hp => ?_⟩
    · rw [e0] at hp
      rw [cl 19 _ (by decide), cl 14 _ (by decide)] at h14
      rw [g3 85 p (by decide) (by decide) hp]
      exact q1 p hp h14
    · rw [e0] at hp
      rw [g3 82 p (by decide) (by decide) hp] at h6
      rw [g3 83 p (by decide) (by decide) hp] at hk
      have ht : sizR M 80 p = 2 * M 83 p := (rep_tab R hp h6).2.1
      rw [gar_cel hI g' hp (by omega)] at he
      rw [gar_cel hI g' hp (by omega)]
      exact q2 p k hp h6 hk he
    · rw [e0] at hp
      rw [cl 19 _ (by decide), cl 14 _ (by decide), cl 15 _ (by decide), g3 82 p (by decide) (by decide) hp, g3 83 p (by decide) (by decide) hp, g1 76 _ (by omega) (by omega) (by omega) (by omega)]
      exact q3 p hp
  · refine g1 o k ?_ ?_ ?_ ?_ <;> intro z <;> unfold rSc at hr <;> simp only [Bool.or_eq_true, Bool.and_eq_true, Nat.beq_eq, Nat.ble_eq] at hr <;> omega
theorem gar_ed (hI : Inv i M) (g : Gar W M) {k q : Nat} (hp : (p : Int) < M 80 0) (hk : (k : Int) < sizR M 80 p) : Ed W 80 p k q ↔ Ed M 80 p k q := by
  have e0 : W 80 0 = M 80 0 := g.2.2.1 0 (by decide)
  have hc := gar_cel hI g hp hk
  constructor
  · rintro ⟨h1, h2⟩
    have h1 : (q : Int) < M 80 0 := by rw [← e0]; exact h1
    have h2 : W 81 q = W 87 ((W 84 p).toNat + k) := h2
    rw [hc, g.2.2.2.1 81 q (by decide) (by decide) h1] at h2
    exact ⟨h1, h2⟩
  · rintro ⟨h1, h2⟩
    have h2 : M 81 q = M 87 ((M 84 p).toNat + k) := h2
    refine ⟨by rw [e0]; exact h1, ?_⟩
    show W 81 q = W 87 ((W 84 p).toNat + k)
    rw [hc, g.2.2.2.1 81 q (by decide) (by decide) h1]
    exact h2
theorem gar_cls (hI : Inv i M) (g : Gar W M) : Cls W 80 pr b = Cls M 80 pr b := by
  have R := inv_rep hI
  have e0 : W 80 0 = M 80 0 := g.2.2.1 0 (by decide)
  have cn : ∀ p : Nat, (p : Int) < M 80 0 → cntR W 80 pr p = cntR M 80 pr p := fun p hp => by
    show (if W 82 p = 4 ∧ pr = 0 then 1 else lnkR W 80 p) = (if M 82 p = 4 ∧ pr = 0 then 1 else lnkR M 80 p)
    rw [g.2.2.2.1 82 p (by decide) (by decide) hp, (gar_siz g hp).2.2.2]
  funext T
  refine propext ⟨fun ⟨h1, h2⟩ => ⟨fun p a q hp ht ha he hb => ?_, fun p a k q hp ht h6 ha he hk he2 hb => ?_⟩, fun ⟨h1, h2⟩ => ⟨fun p a q hp ht ha he hb => ?_, fun p a k q hp ht h6 ha he hk he2 hb => ?_⟩⟩
  · have hc := rep_cnt R (pr := pr) hp
    have hs := siz_bd hI hp
    exact h1 p a q (by rw [e0]; exact hp) ht (by rw [cn p hp]; exact ha) ((gar_ed hI g hp (by omega)).mpr he) hb
  · have h6 : M 82 p = 6 := h6
    have ha : (a : Int) < M 83 p := ha
    have hs : sizR M 80 p = 2 * M 83 p := (rep_tab R hp h6).2.1
    exact h2 p a k q (by rw [e0]; exact hp) ht (by show W 82 p = 6; rw [g.2.2.2.1 82 p (by decide) (by decide) hp]; exact h6) (by show (a : Int) < W 83 p; rw [g.2.2.2.1 83 p (by decide) (by decide) hp]; exact ha) ((gar_ed hI g hp (by omega)).mpr he) hk ((gar_ed hI g hp (by omega)).mpr he2) hb
  · rw [e0] at hp
    rw [cn p hp] at ha
    have hc := rep_cnt R (pr := pr) hp
    have hs := siz_bd hI hp
    exact h1 p a q hp ht ha ((gar_ed hI g hp (by omega)).mp he) hb
  · rw [e0] at hp
    have h6 : W 82 p = 6 := h6
    have ha : (a : Int) < W 83 p := ha
    rw [g.2.2.2.1 82 p (by decide) (by decide) hp] at h6
    rw [g.2.2.2.1 83 p (by decide) (by decide) hp] at ha
    have hs : sizR M 80 p = 2 * M 83 p := (rep_tab R hp h6).2.1
    exact h2 p a k q hp ht h6 ha ((gar_ed hI g hp (by omega)).mp he) hk ((gar_ed hI g hp (by omega)).mp he2) hb
theorem gar_rt (g : Gar W M) {q : Nat} : Hrt W 80 q ↔ Hrt M 80 q := by
  have e0 : W 80 0 = M 80 0 := g.2.2.1 0 (by decide)
  obtain ⟨g1, ⟨g01, g02⟩, g2, g3, g4, ⟨g5, g6⟩, g7, g8⟩ := g
  constructor
  · rintro ⟨h1, h2⟩
    have h1 : (q : Int) < M 80 0 := by rw [← e0]; exact h1
    have e81 : W 81 q = M 81 q := g3 81 q (by decide) (by decide) h1
    refine ⟨h1, ?_⟩
    rcases h2 with ⟨k, h3, h4⟩ | ⟨k, h3, h4⟩ | ⟨k, h3, h4⟩
    · have h4 : W 89 k = W 81 q := h4
      rw [e81, g6 k h3] at h4
      exact Or.inl ⟨k, h3, h4⟩
    · have h3 : (k : Int) < W 80 7 := h3
      have h4 : W 90 k = W 81 q := h4
      rw [g2 7 (by decide)] at h3
      rw [e81, g7 k h3] at h4
      exact Or.inr (Or.inl ⟨k, h3, h4⟩)
    · have h3 : (k : Int) < W 80 8 := h3
      have h4 : W 91 k = W 81 q := h4
      rw [g2 8 (by decide)] at h3
      rw [e81, g8 k h3] at h4
      exact Or.inr (Or.inr ⟨k, h3, h4⟩)
  · rintro ⟨h1, h2⟩
    have e81 : W 81 q = M 81 q := g3 81 q (by decide) (by decide) h1
    refine ⟨by rw [e0]; exact h1, ?_⟩
    rcases h2 with ⟨k, h3, h4⟩ | ⟨k, h3, h4⟩ | ⟨k, h3, h4⟩
    · refine Or.inl ⟨k, h3, ?_⟩
      show W 89 k = W 81 q
      rw [e81, g6 k h3]; exact h4
    · refine Or.inr (Or.inl ⟨k, ?_, ?_⟩)
      · show (k : Int) < W 80 7
        rw [g2 7 (by decide)]; exact h3
      · show W 90 k = W 81 q
        rw [e81, g7 k h3]; exact h4
    · refine Or.inr (Or.inr ⟨k, ?_, ?_⟩)
      · show (k : Int) < W 80 8
        rw [g2 8 (by decide)]; exact h3
      · show W 91 k = W 81 q
        rw [e81, g8 k h3]; exact h4
/-- as many as would be removed -/
noncomputable def dmN (M : Mem) (w : Int) : Int := M 80 0 - (kc (KW M w) (M 80 0).toNat : Int)
theorem kw_cong (hw : w = 2 ∨ w = 3) (ec : ∀ pr, Cls W 80 pr (-1) = Cls M 80 pr (-1)) (er : ∀ q, Hrt W 80 q ↔ Hrt M 80 q) (e0 : W 80 0 = M 80 0) (el : ∀ (S : Nat → Prop) (p : Nat), (p : Int) < M 80 0 → (Late W S p ↔ Late M S p)) : dmN W w = dmN M w := by
  have hny : ∀ N : Mem, ¬ ygW N w := fun N h => by have := h.1; omega
  have es : ∀ p, SW W w p ↔ SW M w p := by
    intro p
    unfold SW
    rw [if_neg (by omega), if_neg (by omega)]
    unfold StrN
    refine cl_congr2 (ec _) (fun q => ?_)
    rw [er q]
    exact ⟨fun h => h.elim Or.inl (fun z => absurd z.1 (hny W)), fun h => h.elim Or.inl (fun z => absurd z.1 (hny M))⟩
  have eS : SW W w = SW M w := funext fun p => propext (es p)
  have ek : KW W w = KW M w := by
    funext p
    refine propext ?_
    unfold KW KepN
    refine cl_congr2 (ec _) (fun q => ?_)
    rw [e0, eS]
    constructor
    · rintro (h | h)
      · exact Or.inl h
      · have hq : (q : Int) < M 80 0 := by rw [← e0]; exact h.1
        exact Or.inr ((el _ q hq).mp h)
    · rintro (h | h)
      · exact Or.inl h
      · exact Or.inr ((el _ q h.1).mpr h)
  unfold dmN
  rw [e0, ek]
theorem dm_gar (hI : Inv i M) (g : Gar W M) (hw : w = 2 ∨ w = 3) : dmN W w = dmN M w := by
  have e0 : W 80 0 = M 80 0 := g.2.2.1 0 (by decide)
  refine kw_cong hw (fun pr => gar_cls hI g) (fun q => gar_rt g) e0 (fun S p hp => ?_)
  unfold Late
  rw [e0, g.2.2.2.1 82 p (by decide) (by decide) hp, g.2.2.2.1 83 p (by decide) (by decide) hp, g.1 76 _ (by omega) (by omega) (by omega) (by omega), g.1 19 _ (by omega) (by omega) (by omega) (by omega), g.1 15 _ (by omega) (by omega) (by omega) (by omega)]
theorem dm_rel (g : Agr rel M' M) (hw : w = 2 ∨ w = 3) : dmN M' w = dmN M w := by
  refine kw_cong hw (fun pr => cls_rel g) (fun q => by rw [rt_rel g]) (g 80 0 rfl) (fun S p hp => ?_)
  unfold Late
  rw [g 80 0 rfl, g 82 p rfl, g 83 p rfl, g 76 _ rfl, g 19 _ rfl, g 15 _ rfl]
theorem dm_bd (hI : Inv i M) : 0 ≤ dmN M w ∧ dmN M w ≤ 208 := by
  have h1 := hI.ob.1
  have h2 := kc_le (K := KW M w) (p := (M 80 0).toNat)
  unfold dmN
  omega
theorem cs_would (hw : (x = 0 ∧ w = 2) ∨ (x = 1 ∧ w = 3)) (hl : l.stackTraces = false) (hI : Inv i M) (hq : ∀ M', Inv i M' → Agr rel M' M → inR (dmN M w) → Q (dmN M w) M') : OkI B l md_X11_wouldRemove 0 0 [.ref (ad B 0), .int (I x)] X M Q NoX := by
  have hpw : prW w = x := by
    unfold prW
    rcases hw with ⟨rfl, rfl⟩ | ⟨rfl, rfl⟩ <;> rfl
  refine ok_X11_wouldRemove hl (fun G h1 => go_X11_wouldRemove_0 h1 (cs_countDoomed (w := w) hpw (Ct_fl h1) hI agr0 hI.sc (by omega) (fun M' a s f z => ⟨z, ?_⟩)))
  have g : Agr rel M' M := fun o k hr => by
    by_cases h : o ≤ 71
    · refine a o k ?_
      unfold rC
      rw [hr, Bool.and_true, Nat.ble_eq]
      exact h
    · exact f o k (by omega)
  exact hq M' ⟨core_same g hI.1, s⟩ g z
/-- the third memory as a view -/
def wvN (D M : Mem) : Mem := fun o k => if (o = 80 ∧ k ≤ 8) ∨ (81 ≤ o ∧ o ≤ 91) then D (o + 34) k else if (o = 31 ∧ k = 6) ∨ (o = 72 ∧ k = 10) then 0 else M o k
theorem wv_gar {D : Mem} (hb : Bco D M) : Gar (wvN D M) M := by
  obtain ⟨b0, ⟨b1, -, -⟩, r1, r2, r3, r4, r5, r6, r7, r8, r9, r10, r11⟩ := hb
  have hin : ∀ o k, (o = 80 ∧ k ≤ 8) ∨ (81 ≤ o ∧ o ≤ 91) → wvN D M o k = D (o + 34) k := fun o k h => if_pos h
  refine ⟨fun o k h1 h2 h3 h4 => ?_, ⟨rfl, rfl⟩, fun k hk => (hin 80 k (Or.inl ⟨rfl, hk⟩)).trans (b1 k hk), fun o p h1 h2 hp => ?_, fun j hj => ?_, ⟨fun k hk => ?_, fun k hk => ?_⟩, fun k hk => ?_, fun k hk => ?_⟩
  · unfold wvN
    rw [if_neg (by omega), if_neg (by omega)]
  · rw [hin o p (by omega)]
    have h3 : o = 81 ∨ o = 82 ∨ o = 83 ∨ o = 84 ∨ o = 85 ∨ o = 86 := by omega
    rcases h3 with rfl | rfl | rfl | rfl | rfl | rfl
    · exact (r1 p).trans (if_pos (by omega))
    · exact (r2 p).trans (if_pos (by omega))
    · exact (r3 p).trans (if_pos (by omega))
    · exact (r4 p).trans (if_pos (by omega))
    · exact (r5 p).trans (if_pos (by omega))
    · exact (r6 p).trans (if_pos (by omega))
  · rw [hin 87 j (by omega)]; exact (r7 j).trans (if_pos (by omega))
  · rw [hin 88 k (by omega)]; exact (r8 k).trans (if_pos hk)
  · rw [hin 89 k (by omega)]; exact (r9 k).trans (if_pos hk)
  · rw [hin 90 k (by omega)]; exact (r10 k).trans (if_pos (by omega))
  · rw [hin 91 k (by omega)]; exact (r11 k).trans (if_pos (by omega))
theorem inv_third (hI : Inv i M) (f : ∀ o k, ¬ (114 ≤ o ∧ o ≤ 130) → ¬ (o = 97 ∧ k = 25) → o ≠ 111 → o ≠ 112 → ¬ (o = 72 ∧ k = 0) → M' o k = M o k) (h1 : M' 114 25 = 0) (h2 : M' 114 26 = -1) (h3 : M' 97 25 = 0) : Inv i M' ∧ Agr rel M' M := by
  have g : Agr rel M' M := fun o k hr => by
    refine f o k ?_ ?_ ?_ ?_ ?_ <;> intro z <;> unfold rel relO at hr <;> simp only [Bool.or_eq_true, Bool.and_eq_true, Bool.not_eq_true', Nat.beq_eq, Nat.ble_eq] at hr
    · omega
    · obtain ⟨rfl, rfl⟩ := z
      rcases hr with (hr | hr) | hr
      · omega
      · omega
      · exact absurd hr.2 (by decide)
    · omega
    · omega
    · obtain ⟨rfl, rfl⟩ := z
      rcases hr with (hr | hr) | hr
      · omega
      · exact absurd hr.2 (by decide)
      · omega
  refine ⟨⟨core_same g hI.1, fun o ho => ?_, fun o ho => ?_⟩, g⟩
  · have hb : 33 ≤ o ∧ o ≤ 69 := by unfold isCS at ho; omega
    exact set_agr (funext fun k => f _ k (by omega) (by omega) (by omega) (by omega) (by omega)) (funext fun k => f _ k (by omega) (by omega) (by omega) (by omega) (by omega)) (funext fun k => f _ k (by omega) (by omega) (by omega) (by omega) (by omega)) (hI.sc.1 o ho)
  · rcases ho with rfl | rfl | rfl
    · exact ⟨(f 80 25 (by decide) (by decide) (by decide) (by decide) (by decide)).trans (hI.sc.2 80 (Or.inl rfl)).1, (f 80 26 (by decide) (by decide) (by decide) (by decide) (by decide)).trans (hI.sc.2 80 (Or.inl rfl)).2⟩
    · exact ⟨h3, (f 97 26 (by decide) (by decide) (by decide) (by decide) (by decide)).trans (hI.sc.2 97 (Or.inr (Or.inl rfl))).2⟩
    · exact ⟨h1, h2⟩
end Would
