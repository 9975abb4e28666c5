/-! ===== who becomes OLD ===== -/
def old1 (N : Mem) (p : Nat) : Mem := up (up (up (up N 14 (N 19 p).toNat 1) 6 18 (N 6 18 - N 11 (N 19 p).toNat)) 6 19 (N 6 19 + N 11 (N 19 p).toNat)) 86 p (N 86 p + 1)
def age1 (N : Mem) (p : Nat) : Mem := up (up N 13 (N 19 p).toNat (N 13 (N 19 p).toNat + 1)) 85 p (N 85 p + 1)
def gro1 (N : Mem) (p : Nat) : Mem := if N 14 (N 19 p).toNat = 0 then (if N 80 5 ≤ N 85 p + 1 then old1 (age1 N p) p else age1 N p) else N
def ris1 (N : Mem) (p : Nat) : Mem := if N 14 (N 19 p).toNat = 0 ∧ N 6 19 + N 11 (N 19 p).toNat ≤ 320 then old1 N p else N
def groN (N : Mem) : Nat → Mem
  | 0 => N
  | p + 1 => gro1 (groN N p) p
def risN (N : Mem) : Nat → Mem
  | 0 => N
  | p + 1 => ris1 (risN N p) p
def cntY (N : Mem) : Mem := up (up N 39 7 (N 39 7 + 1)) 80 3 (N 80 3 + 1)
def cntF (N : Mem) : Mem := up (up N 39 8 (N 39 8 + 1)) 80 4 (N 80 4 + 1)
section Gro
variable {i : Nat} {N M' : Mem} {p : Nat} {a b : Int}
theorem ws_mark (ho : IvOb i N) (hp : (p : Int) < N 80 0) (h0 : N 14 (N 19 p).toNat = 0) (hb : b = 0 ∨ b = 1) (e19 : ∀ q, M' 19 q = N 19 q) (ew : ∀ q, wrdR M' 80 q = wrdR N 80 q) (e14 : ∀ c, M' 14 c = if c = (N 19 p).toNat then b else N 14 c) : ∀ n : Nat, (n : Int) ≤ N 80 0 → wsR M' false n = wsR N false n - (if p < n then b * wrdR N 80 p else 0) ∧ wsR M' true n = wsR N true n + (if p < n then b * wrdR N 80 p else 0) := by
  intro n
  induction n with
  | zero => intro _; rw [if_neg (by omega)]; exact ⟨rfl, rfl⟩
  | succ n ih =>
    intro hn
    have h1 := ih (by omega)
    have f0 : wsR M' false (n + 1) = wsR M' false n + (if (M' 14 (M' 19 n).toNat = 1) = (false = true) then wrdR M' 80 n else 0) := rfl
    have f1 : wsR M' true (n + 1) = wsR M' true n + (if (M' 14 (M' 19 n).toNat = 1) = (true = true) then wrdR M' 80 n else 0) := rfl
    have g0 : wsR N false (n + 1) = wsR N false n + (if (N 14 (N 19 n).toNat = 1) = (false = true) then wrdR N 80 n else 0) := rfl
    have g1 : wsR N true (n + 1) = wsR N true n + (if (N 14 (N 19 n).toNat = 1) = (true = true) then wrdR N 80 n else 0) := rfl
    rw [f0, f1, g0, g1, h1.1, h1.2, e19, ew, e14]
    by_cases hpn : p = n
    · subst hpn
      rw [if_pos rfl, if_neg (show ¬ p < p by omega), if_pos (show p < p + 1 by omega), h0]
      rcases hb with rfl | rfl
      · constructor <;> (first | (simp; done) | (simp; omega))
      · constructor <;> (first | (simp; done) | (simp; omega))
    · rw [if_neg (cell_ne ho hp (by omega) (fun z => hpn z.symm))]
      by_cases hlt : p < n
      · rw [if_pos hlt, if_pos (show p < n + 1 by omega)]
        exact ⟨by omega, by omega⟩
      · rw [if_neg hlt, if_neg (show ¬ p < n + 1 by omega)]
        exact ⟨by omega, by omega⟩
theorem inv_mark (hI : Inv i N) (off : N 72 10 = 0) (hp : (p : Int) < N 80 0) (h14 : N 14 (N 19 p).toNat = 0) (k1 : ∀ o k, o ≠ 13 → o ≠ 85 → o ≠ 14 → o ≠ 86 → ¬ (o = 6 ∧ (k = 18 ∨ k = 19)) → M' o k = N o k) (e13 : ∀ c, M' 13 c = if c = (N 19 p).toNat then N 13 c + a else N 13 c) (e85 : ∀ q, M' 85 q = if q = p then N 85 q + a else N 85 q) (e14 : ∀ c, M' 14 c = if c = (N 19 p).toNat then b else N 14 c) (e86 : ∀ q, M' 86 q = if q = p then N 86 q + b else N 86 q) (e18 : M' 6 18 = N 6 18 - b * wrdR N 80 p) (e19 : M' 6 19 = N 6 19 + b * wrdR N 80 p) (ha : a = 0 ∨ a = 1) (hb : (b = 0 ∧ N 85 p + a ≤ 3) ∨ (b = 1 ∧ N 6 19 + wrdR N 80 p ≤ 320)) : Inv i M' := by
  have ho := hI.ob
  have hw := wrd_bd ((rep_ref (inv_rep hI)).2 p hp)
  have k2 : ∀ o k, o ≠ 6 → o ≠ 13 → o ≠ 85 → o ≠ 14 → o ≠ 86 → M' o k = N o k := fun o k a0 b0 c d e => k1 o k b0 c d e (fun z => a0 z.1)
  have agk : ∀ r : Nat → Nat → Bool, (∀ k, r 6 k = false) → (∀ k, r 13 k = false) → (∀ k, r 85 k = false) → (∀ k, r 14 k = false) → (∀ k, r 86 k = false) → Agr r M' N := by
    intro r r1 r2 r3 r4 r5 o k hk
    refine k2 o k ?_ ?_ ?_ ?_ ?_
    · rintro rfl; rw [r1] at hk; cases hk
    · rintro rfl; rw [r2] at hk; cases hk
    · rintro rfl; rw [r3] at hk; cases hk
    · rintro rfl; rw [r4] at hk; cases hk
    · rintro rfl; rw [r5] at hk; cases hk
  have x19 : ∀ k, M' 19 k = N 19 k := fun k => k2 19 k (by decide) (by decide) (by decide) (by decide) (by decide)
  obtain ⟨-, -, -, ew⟩ := atR_congr (M := N) (M' := M') (fun k => k2 82 k (by decide) (by decide) (by decide) (by decide) (by decide)) (fun k => k2 83 k (by decide) (by decide) (by decide) (by decide) (by decide)) (fun k => k2 74 k (by decide) (by decide) (by decide) (by decide) (by decide)) (fun k => k2 75 k (by decide) (by decide) (by decide) (by decide) (by decide))
  have hws := ws_mark (M' := M') (b := b) ho hp h14 (by omega) x19 ew e14 (N 80 0).toNat (by omega)
  rw [if_pos (by omega)] at hws
  obtain ⟨g1, g2, g3⟩ := hI.mk.2.2.1
  have e80 : M' 80 0 = N 80 0 := k2 80 0 (by decide) (by decide) (by decide) (by decide) (by decide)
  refine ⟨⟨fr_same (agk _ (fun _ => rfl) (fun _ => rfl) (fun _ => rfl) (fun _ => rfl) (fun _ => rfl)) hI.fr, li_same (agk _ (fun _ => rfl) (fun _ => rfl) (fun _ => rfl) (fun _ => rfl) (fun _ => rfl)) hI.li, kd_same (agk _ (fun _ => rfl) (fun _ => rfl) (fun _ => rfl) (fun _ => rfl) (fun _ => rfl)) hI.kd, ?_, im_same (agk _ (fun _ => rfl) (fun _ => rfl) (fun _ => rfl) (fun _ => rfl) (fun _ => rfl)) hI.im, co_same (agk _ (fun _ => rfl) (fun _ => rfl) (fun _ => rfl) (fun _ => rfl) (fun _ => rfl)) hI.co, ?_⟩, sc_agr (agk _ (fun _ => rfl) (fun _ => rfl) (fun _ => rfl) (fun _ => rfl) (fun _ => rfl)) hI.sc⟩
  · refine ob_attr ho (fun o k _ a1 a2 _ a4 a5 a6 => k1 o k a1 a4 a2 a5 a6) (fun q hq => ?_) ?_ ?_
    · obtain ⟨-, -, -, -, -, -, -, -, -, -, -, -, u13, u14, u15, u16, -, -, -, u20, -⟩ := ho.2.2.2.2.2.1 q hq
      rw [k2 15 _ (by decide) (by decide) (by decide) (by decide) (by decide), e13, e14, e85, e86]
      by_cases hqp : q = p
      · subst hqp
        have := g1 q hq h14
        rw [if_pos rfl, if_pos rfl, if_pos rfl, if_pos rfl]
        exact ⟨⟨by omega, by omega, by omega⟩, by omega, u16, u20, by omega⟩
      · have hc := cell_ne ho hp hq hqp
        rw [if_neg hc, if_neg hqp, if_neg hc, if_neg hqp]
        exact ⟨⟨u13, u14⟩, u15, u16, u20, by omega⟩
    · rw [hws.1, e18, ← ho.2.2.2.2.2.2.2.2.1.1]
      have := ho.2.2.2.2.2.2.2.2.1.2
      refine ⟨rfl, ?_⟩
      rcases hb with ⟨rfl, -⟩ | ⟨rfl, -⟩ <;> omega
    · rw [hws.2, e19, ← ho.2.2.2.2.2.2.2.2.2.1]
      have := ho.2.2.2.2.2.2.2.2.2.2
      refine ⟨rfl, ?_⟩
      rcases hb with ⟨rfl, -⟩ | ⟨rfl, h9⟩ <;> omega
  · refine mk_off hI.mk off (k2 31 6 (by decide) (by decide) (by decide) (by decide) (by decide)) (k2 72 10 (by decide) (by decide) (by decide) (by decide) (by decide)) (qu_same (agk _ (fun _ => rfl) (fun _ => rfl) (fun _ => rfl) (fun _ => rfl) (fun _ => rfl)) hI.mk.2.1) ⟨fun q hq h0 => ?_, fun q k hq h6 hk h1 => ?_, fun q hq => ?_⟩
    · rw [e80] at hq
      rw [x19, e14] at h0
      rw [e85]
      by_cases hqp : q = p
      · subst hqp
        rw [if_pos rfl] at h0 ⊢
        omega
      · rw [if_neg (cell_ne ho hp hq hqp)] at h0
        rw [if_neg hqp]
        exact g1 q hq h0
    · rw [e80] at hq
      rw [k2 82 _ (by decide) (by decide) (by decide) (by decide) (by decide)] at h6
      rw [k2 83 _ (by decide) (by decide) (by decide) (by decide) (by decide)] at hk
      rw [k2 84 _ (by decide) (by decide) (by decide) (by decide) (by decide), k2 87 _ (by decide) (by decide) (by decide) (by decide) (by decide)] at h1
      rw [k2 84 _ (by decide) (by decide) (by decide) (by decide) (by decide), k2 87 _ (by decide) (by decide) (by decide) (by decide) (by decide)]
      exact g2 q k hq h6 hk h1
    · rw [e80] at hq
      rw [x19, e14, k2 15 _ (by decide) (by decide) (by decide) (by decide) (by decide), k2 76 _ (by decide) (by decide) (by decide) (by decide) (by decide), k2 82 _ (by decide) (by decide) (by decide) (by decide) (by decide), k2 83 _ (by decide) (by decide) (by decide) (by decide) (by decide)]
      refine ⟨fun h0 => (g3 q hq).1 ?_, (g3 q hq).2⟩
      by_cases hqp : q = p
      · subst hqp
        exact h14
      · rw [if_neg (cell_ne ho hp hq hqp)] at h0
        exact h0
theorem old1_k {o k : Nat} (h1 : o ≠ 14) (h2 : ¬ (o = 6 ∧ (k = 18 ∨ k = 19))) (h3 : o ≠ 86) : old1 N p o k = N o k := by
  unfold old1 up
  rw [if_neg (fun z => h3 z.1), if_neg (fun z => h2 ⟨z.1, Or.inr z.2⟩), if_neg (fun z => h2 ⟨z.1, Or.inl z.2⟩), if_neg (fun z => h1 z.1)]
theorem age1_k {o k : Nat} (h1 : o ≠ 13) (h2 : o ≠ 85) : age1 N p o k = N o k := by
  unfold age1
  rw [up_o h2, up_o h1]
theorem old1_14 (c : Nat) : old1 N p 14 c = if c = (N 19 p).toNat then 1 else N 14 c := by
  unfold old1
  rw [up_o (by decide), up_o (by decide), up_o (by decide), up_at]
theorem old1_86 (q : Nat) : old1 N p 86 q = if q = p then N 86 q + 1 else N 86 q := by
  unfold old1
  rw [up_at]
  split
  · rename_i h; rw [h]
  · rw [up_o (by decide), up_o (by decide), up_o (by decide)]
theorem old1_18 : old1 N p 6 18 = N 6 18 - N 11 (N 19 p).toNat := rfl
theorem old1_19 : old1 N p 6 19 = N 6 19 + N 11 (N 19 p).toNat := rfl
theorem age1_13 (c : Nat) : age1 N p 13 c = if c = (N 19 p).toNat then N 13 c + 1 else N 13 c := by
  unfold age1
  rw [up_o (by decide), up_at]
  split
  · rename_i h; rw [h]
  · rfl
theorem age1_85 (q : Nat) : age1 N p 85 q = if q = p then N 85 q + 1 else N 85 q := by
  unfold age1
  rw [up_at]
  split
  · rename_i h; rw [h]
  · exact up_o (by decide)
theorem wrd_11 (hI : Inv i N) (hp : (p : Int) < N 80 0) : N 11 (N 19 p).toNat = wrdR N 80 p := (hI.ob.2.2.2.2.2.1 p hp).2.2.2.2.2.2.2.2.2.1
theorem inv_gro1 (hI : Inv i N) (off : N 72 10 = 0) (hp : (p : Int) < N 80 0) (hs : N 6 18 + N 6 19 ≤ 320) : Inv i (gro1 N p) ∧ gro1 N p 6 18 + gro1 N p 6 19 = N 6 18 + N 6 19 := by
  have hw := wrd_11 hI hp
  have ho := hI.ob
  have ht := hI.co.1
  have hle : N 14 (N 19 p).toNat = 0 → wrdR N 80 p ≤ N 6 18 := by
    intro h0
    have hh : ∀ n : Nat, (n : Int) ≤ N 80 0 → p < n → wrdR N 80 p ≤ wsR N false n ∧ 0 ≤ wsR N false n := by
      intro n
      have nn : ∀ m : Nat, (m : Int) ≤ N 80 0 → 0 ≤ wsR N false m := by
        intro m
        induction m with
        | zero => intro _; exact Int.le_refl 0
        | succ m ih =>
          intro hm
          have h1 := ih (by omega)
          have h2 := wrd_bd ((rep_ref (inv_rep hI)).2 m (by omega))
          show 0 ≤ wsR N false m + (if (N 14 (N 19 m).toNat = 1) = (false = true) then wrdR N 80 m else 0)
          split <;> omega
      induction n with
      | zero => intro _ h; omega
      | succ n ih =>
        intro hn hpn
        have e : wsR N false (n + 1) = wsR N false n + (if (N 14 (N 19 n).toNat = 1) = (false = true) then wrdR N 80 n else 0) := rfl
        have h1 := nn n (by omega)
        have h3 := nn (n + 1) hn
        refine ⟨?_, h3⟩
        by_cases hpe : p = n
        · subst hpe
          rw [e, h0, if_pos (by simp)]
          omega
        · have h2 := ih (by omega) (by omega)
          have h4 := wrd_bd ((rep_ref (inv_rep hI)).2 n (by omega))
          rw [e]
          split <;> omega
    have h9 := (hh (N 80 0).toNat (by omega) (by omega)).1
    rw [← ho.2.2.2.2.2.2.2.2.1.1] at h9
    exact h9
  unfold gro1
  split
  · rename_i h14
    have hle2 := hle h14
    split
    · have ex : age1 N p 11 (age1 N p 19 p).toNat = wrdR N 80 p := by rw [age1_k (by decide) (by decide), age1_k (by decide) (by decide)]; exact hw
      refine ⟨inv_mark (a := 1) (b := 1) hI off hp h14 (fun o k a1 a2 a3 a4 a5 => by rw [old1_k a3 a5 a4, age1_k a1 a2]) (fun c => by rw [old1_k (by decide) (by omega) (by decide), age1_13]) (fun q => by rw [old1_k (by decide) (by omega) (by decide), age1_85]) (fun c => by rw [old1_14, age1_k (by decide) (by decide), age1_k (by decide) (by decide)]) (fun q => by rw [old1_86, age1_k (by decide) (by decide)]) ?_ ?_ (Or.inr rfl) (Or.inr ⟨rfl, by omega⟩), ?_⟩
      · rw [old1_18, ex, age1_k (by decide) (by decide)]; omega
      · rw [old1_19, ex, age1_k (by decide) (by decide)]; omega
      · rw [old1_18, old1_19, ex, age1_k (by decide) (by decide), age1_k (by decide) (by decide)]; omega
    · rename_i hten
      refine ⟨inv_mark (a := 1) (b := 0) hI off hp h14 (fun o k a1 a2 a3 a4 a5 => age1_k a1 a2) age1_13 age1_85 (fun c => ?_) (fun q => ?_) ?_ ?_ (Or.inr rfl) (Or.inl ⟨rfl, by omega⟩), ?_⟩
      · rw [age1_k (by decide) (by decide)]
        split
        · rename_i h; rw [h]; exact h14
        · rfl
      · rw [age1_k (by decide) (by decide)]
        split <;> omega
      · rw [age1_k (by decide) (by decide)]; omega
      · rw [age1_k (by decide) (by decide)]; omega
      · rw [age1_k (by decide) (by decide), age1_k (by decide) (by decide)]
  · exact ⟨hI, rfl⟩
theorem inv_ris1 (hI : Inv i N) (off : N 72 10 = 0) (hp : (p : Int) < N 80 0) : Inv i (ris1 N p) := by
  have hw := wrd_11 hI hp
  unfold ris1
  split
  · rename_i h
    refine inv_mark (a := 0) (b := 1) hI off hp h.1 (fun o k a1 a2 a3 a4 a5 => old1_k a3 a5 a4) (fun c => ?_) (fun q => ?_) old1_14 old1_86 (by rw [old1_18, hw]; omega) (by rw [old1_19, hw]; omega) (Or.inl rfl) (Or.inr ⟨rfl, by omega⟩)
    · rw [old1_k (by decide) (by omega) (by decide)]
      split <;> omega
    · rw [old1_k (by decide) (by omega) (by decide)]
      split <;> omega
  · exact hI
theorem gro1_k {o k : Nat} (h1 : o ≠ 13) (h2 : o ≠ 85) (h3 : o ≠ 14) (h4 : o ≠ 86) (h5 : ¬ (o = 6 ∧ (k = 18 ∨ k = 19))) : gro1 N p o k = N o k := by
  unfold gro1
  split
  · split
    · rw [old1_k h3 h5 h4, age1_k h1 h2]
    · exact age1_k h1 h2
  · rfl
theorem ris1_k {o k : Nat} (h3 : o ≠ 14) (h4 : o ≠ 86) (h5 : ¬ (o = 6 ∧ (k = 18 ∨ k = 19))) : ris1 N p o k = N o k := by
  unfold ris1
  split
  · exact old1_k h3 h5 h4
  · rfl
theorem groN_k {o k : Nat} (h1 : o ≠ 13) (h2 : o ≠ 85) (h3 : o ≠ 14) (h4 : o ≠ 86) (h5 : ¬ (o = 6 ∧ (k = 18 ∨ k = 19))) : ∀ n, groN N n o k = N o k := by
  intro n
  induction n with
  | zero => rfl
  | succ n ih =>
    show gro1 (groN N n) n o k = _
    rw [gro1_k h1 h2 h3 h4 h5, ih]
theorem risN_k {o k : Nat} (h3 : o ≠ 14) (h4 : o ≠ 86) (h5 : ¬ (o = 6 ∧ (k = 18 ∨ k = 19))) : ∀ n, risN N n o k = N o k := by
  intro n
  induction n with
  | zero => rfl
  | succ n ih =>
    show ris1 (risN N n) n o k = _
    rw [ris1_k h3 h4 h5, ih]
theorem inv_groN (hI : Inv i N) (off : N 72 10 = 0) (hs : N 6 18 + N 6 19 ≤ 320) : ∀ n : Nat, (n : Int) ≤ N 80 0 → Inv i (groN N n) ∧ groN N n 6 18 + groN N n 6 19 ≤ 320 := by
  intro n
  induction n with
  | zero => intro _; exact ⟨hI, hs⟩
  | succ n ih =>
    intro hn
    have h1 := ih (by omega)
    have h2 := inv_gro1 (p := n) h1.1 (by rw [groN_k (by decide) (by decide) (by decide) (by decide) (by decide)]; exact off) (by rw [groN_k (by decide) (by decide) (by decide) (by decide) (by decide)]; omega) h1.2
    refine ⟨h2.1, ?_⟩
    show gro1 (groN N n) n 6 18 + gro1 (groN N n) n 6 19 ≤ 320
    rw [h2.2]
    exact h1.2
theorem inv_risN (hI : Inv i N) (off : N 72 10 = 0) : ∀ n : Nat, (n : Int) ≤ N 80 0 → Inv i (risN N n) := by
  intro n
  induction n with
  | zero => intro _; exact hI
  | succ n ih =>
    intro hn
    exact inv_ris1 (p := n) (ih (by omega)) (by rw [risN_k (by decide) (by decide) (by decide)]; exact off) (by rw [risN_k (by decide) (by decide) (by decide)]; omega)
theorem inv_cntY (hI : Inv i N) (h : N 80 3 + 1 ≤ 100 * i) : Inv i (cntY N) := by
  refine ⟨⟨fr_same (agr_up rfl (agr_up rfl agr0)) hI.fr, li_same (agr_up rfl (agr_up rfl agr0)) hI.li, kd_same (agr_up rfl (agr_up rfl agr0)) hI.kd, ob_same (agr_up rfl (agr_up rfl agr0)) hI.ob, im_same (agr_up rfl (agr_up rfl agr0)) hI.im, ⟨hI.co.1, ?_, hI.co.2.2⟩, mk_same (agr_up rfl (agr_up rfl agr0)) hI.mk⟩, sc_agr (agr_up rfl (agr_up rfl agr0)) hI.sc⟩
  obtain ⟨c1, c2, c3⟩ := hI.co.2.1
  show N 39 7 + 1 = N 80 3 + 1 ∧ 0 ≤ N 80 3 + 1 ∧ N 80 3 + 1 ≤ 100 * i
  omega
theorem inv_cntF (hI : Inv i N) (h : N 80 4 + 1 ≤ 100 * i) : Inv i (cntF N) := by
  refine ⟨⟨fr_same (agr_up rfl (agr_up rfl agr0)) hI.fr, li_same (agr_up rfl (agr_up rfl agr0)) hI.li, kd_same (agr_up rfl (agr_up rfl agr0)) hI.kd, ob_same (agr_up rfl (agr_up rfl agr0)) hI.ob, im_same (agr_up rfl (agr_up rfl agr0)) hI.im, ⟨hI.co.1, hI.co.2.1, ?_⟩, mk_same (agr_up rfl (agr_up rfl agr0)) hI.mk⟩, sc_agr (agr_up rfl (agr_up rfl agr0)) hI.sc⟩
  obtain ⟨c1, c2, c3⟩ := hI.co.2.2
  show N 39 8 + 1 = N 80 4 + 1 ∧ 0 ≤ N 80 4 + 1 ∧ N 80 4 + 1 ≤ 100 * i
  omega
end Gro
