section LoStep2
variable {N : Mem} {T K : Nat → Prop} {S : Sh} {H H' D D0 : Mem} {c : SC} {i p k : Nat}
theorem srq_los {m m' : Nat} (e7 : losN N T K m' 80 7 = losN N T K m 80 7) (e90 : ∀ j, losN N T K m' 90 j = losN N T K m 90 j) (h : SrQ (losN N T K m) H c) : SrQ (losN N T K m') H c :=
  srq_n ((losN_k (by omega) (by omega) (by omega) (by omega) (by omega) (by omega) _).trans (losN_k (by omega) (by omega) (by omega) (by omega) (by omega) (by omega) _).symm) (fun p => (losN_x (by omega) (by omega) (by omega) (by omega) (by omega) (by omega) _).trans (losN_x (by omega) (by omega) (by omega) (by omega) (by omega) (by omega) _).symm) e7 ((losN_k (by omega) (by omega) (by omega) (by omega) (by omega) (by omega) _).trans (losN_k (by omega) (by omega) (by omega) (by omega) (by omega) (by omega) _).symm) e90 (fun p => (losN_x (by omega) (by omega) (by omega) (by omega) (by omega) (by omega) _).trans (losN_x (by omega) (by omega) (by omega) (by omega) (by omega) (by omega) _).symm) h
theorem lo_skip (hI : Inv i N) (hp : (p : Int) < N 80 0) (hK : ¬ K p) (hSt : Stg N T K S H c p) : Stg N T K S H c (p + 1) := by
  obtain ⟨g1, g2, g3, g4, ⟨g5, g6, g7⟩, g8⟩ := hSt
  have e : losN N T K (p + 1) = losN N T K p := by
    show cnd (Los N T K p) (los1 (losN N T K p) p) (losN N T K p) = _
    rw [cnd_f (fun z => hK z.2.1)]
  refine ⟨g1, g2, e.symm ▸ g3, g4, ⟨g5, g6, fun q hq => ⟨fun hqp => ?_, fun hqp => (g7 q hq).2 (by omega)⟩⟩, g8⟩
  rcases Nat.lt_or_ge q p with hh | hh
  · exact (g7 q hq).1 hh
  · have : q = p := by omega
    subst this
    have lx : ∀ o k, o ≠ 18 → o ≠ 87 → o ≠ 25 → o ≠ 26 → o ≠ 90 → o ≠ 80 → loX N T K o k = N o k := fun o k x1 x2 x3 x4 x5 x6 => loX_x x1 x2 x3 x4 x5 x6
    refine srt_n hI hq (loX_80 (by decide)) (fun p => lx 81 p (by decide) (by decide) (by decide) (by decide) (by decide) (by decide)) ⟨⟨lx _ _ (by decide) (by decide) (by decide) (by decide) (by decide) (by decide), lx _ _ (by decide) (by decide) (by decide) (by decide) (by decide) (by decide), lx _ _ (by decide) (by decide) (by decide) (by decide) (by decide) (by decide)⟩, ⟨?_, ?_⟩, fun o k x1 x2 => lx o k (by omega) (by omega) (by omega) (by omega) (by omega) (by omega), fun j hj => lo_c3 hI hq hj (fun z => hK z.2.1) (fun z => hK z.2.2.1)⟩ ?_ ?_ ?_ ((g7 q hq).2 (Nat.le_refl _))
    · rw [lx 19 _ (by decide) (by decide) (by decide) (by decide) (by decide) (by decide), lx 17 _ (by decide) (by decide) (by decide) (by decide) (by decide) (by decide)]
    · rw [lx 19 _ (by decide) (by decide) (by decide) (by decide) (by decide) (by decide), lx 16 _ (by decide) (by decide) (by decide) (by decide) (by decide) (by decide)]
    · exact lx 85 _ (by decide) (by decide) (by decide) (by decide) (by decide) (by decide)
    · rw [lx 19 _ (by decide) (by decide) (by decide) (by decide) (by decide) (by decide), lx 14 _ (by decide) (by decide) (by decide) (by decide) (by decide) (by decide)]
    · rw [lx 19 _ (by decide) (by decide) (by decide) (by decide) (by decide) (by decide), lx 15 _ (by decide) (by decide) (by decide) (by decide) (by decide) (by decide)]
theorem lo_step (hI : Inv i N) (hp : (p : Int) < N 80 0) (hK : K p) (hSO : SOK S D) (hSt : Stg N T K S H c p) (h1 : ∀ q : Nat, (q : Int) < N 80 0 → (BS H c 1 q ↔ T q)) (h2 : ∀ q : Nat, (q : Int) < N 80 0 → (BS H c 2 q ↔ K q)) (hLo : LoK H H' c (tg c H p) (capR N p).toNat (capR N p).toNat) : Stg N T K S H' c (p + 1) ∧ (∀ q, tg c H' q = tg c H q) ∧ ∀ q : Nat, (q : Int) < N 80 0 → ∀ d, (BS H' c d q ↔ BS H c d q) := by
  obtain ⟨g1, g2, g3, g4, ⟨g5, g6, g7⟩, g8, g9, g10, g11⟩ := hSt
  have hSt : Stg N T K S H c p := ⟨g1, g2, g3, g4, ⟨g5, g6, g7⟩, g8, g9, g10, g11⟩
  have ht := (g7 p hp).2 (Nat.le_refl _)
  have hS0 : ∀ q : Nat, (q : Int) < N 80 0 → tg c H q ≠ 0 := fun q hq => sok_ne hSO (stg_lk hSt hq).1
  obtain ⟨u1, u2, u3, u4, u5, u6, u7⟩ := hLo
  have hLo : LoK H H' c (tg c H p) (capR N p).toNat (capR N p).toNat := ⟨u1, u2, u3, u4, u5, u6, u7⟩
  have b := ht.2.2.1
  have ag : ∀ kk : Nat → Nat → Bool, kk 1 8 = false → kk 0 9 = false → (∀ j, kk 4 j = false) → (∀ j, kk 8 j = false) → (∀ j, kk 9 j = false) → AgD S H H' kk := fun kk k1 k2 k3 k4 k5 a r o n ha j hj => by
    by_cases x1 : a = tg c H p
    · subst x1
      rw [ht.1] at ha
      cases ha
      exact u2 j (fun z => by subst z; rw [k1] at hj; cases hj)
    · by_cases x2 : a = s_m c
      · subst x2
        rw [g1.1] at ha
        cases ha
        exact u3 j (fun z => by subst z; rw [k2] at hj; cases hj)
      · refine u1 a j x1 x2 (fun z => ?_) (fun z => ?_) (fun z => ?_)
        · subst z
          rw [g1.2.2.2.2.2.1.2] at ha
          cases ha
          rw [k3] at hj
          cases hj
        · rw [z, b.2.2.1] at ha
          cases ha
          rw [k4] at hj
          cases hj
        · rw [z, b.2.2.2] at ha
          cases ha
          rw [k5] at hj
          cases hj
  have et : ∀ q, tg c H' q = tg c H q := fun q => tg_k g1 (ag kA2 rfl rfl (fun _ => rfl) (fun _ => rfl) (fun _ => rfl)) (fun _ => rfl) q
  have m21 : ∀ q : Nat, (q : Int) < N 80 0 → H' (tg c H q) 21 = H (tg c H q) 21 := fun q hq => ag (fun r j => Nat.beq r 1 && Nat.beq j 21) rfl rfl (fun _ => rfl) (fun _ => rfl) (fun _ => rfl) _ _ _ _ (stg_lk hSt hq).1 21 rfl
  have hofw := ofw_iff hI hp hK hS0 ht h1 h2
  have h17 : 3 ≤ N 82 p ∧ N 82 p ≤ 5 → H (tg c H p) 9 = N 17 (N 19 p).toNat := fun z => by
    have := ht.2.2.2.1.1
    rw [if_pos z] at this
    exact this
  refine ⟨⟨srl_k Xs.rf (ag kL rfl rfl (fun _ => rfl) (fun _ => rfl) (fun _ => rfl)) g1, srf_k g1 Xs.rf (ag kF rfl rfl (fun _ => rfl) (fun _ => rfl) (fun _ => rfl)) g2, ?_, srk_k g1 Xs.rf (ag kK rfl rfl (fun _ => rfl) (fun _ => rfl) (fun _ => rfl)) g4, ⟨(u3 1 (by decide)).trans g5, (u3 2 (by decide)).trans g6, fun q hq => ?_⟩, fun q hq => ?_, sri_k g1 Xs.rf (ag kIm rfl rfl (fun _ => rfl) (fun _ => rfl) (fun _ => rfl)) g9, src_k g1 (ag kC rfl rfl (fun _ => rfl) (fun _ => rfl) (fun _ => rfl)) g10, (u3 16 (by decide)).trans g11⟩, et, fun q hq d => ?_⟩
  · -- the QUEUE
    have la : ∀ j, H' (s_la c) j = H (s_la c) j := fun j => ag (fun r _ => Nat.beq r 5) rfl rfl (fun _ => rfl) (fun _ => rfl) (fun _ => rfl) _ _ _ _ g1.2.2.2.2.2.2.1.2 j rfl
    have keep : H' (s_m c) 9 = H (s_m c) 9 → (∀ j, H' (s_qu c) j = H (s_qu c) j) → SrQ (losN N T K p) H' c := fun e1 e2 => by
      obtain ⟨⟨q1, q2⟩, q3, q4⟩ := g3
      refine ⟨⟨e1.trans q1, fun j hj => ?_⟩, (u3 11 (by decide)).trans q3, fun j hj => ?_⟩
      · rw [e2]
        exact nr_d et (q2 j hj)
      · rw [la]
        exact nr_d et (q4 j hj)
    have eQ : losN N T K (p + 1) = cnd (Los N T K p) (los1 (losN N T K p) p) (losN N T K p) := rfl
    by_cases hW : OfW H (tg c H p)
    · obtain ⟨x1, x2, x3⟩ := u4 hW
      have hl := hofw.mp hW
      have e17 : losN N T K p 17 (losN N T K p 19 p).toNat = N 17 (N 19 p).toNat := by rw [losN_x (o := 19) (by omega) (by omega) (by omega) (by omega) (by omega) (by omega), losN_x (o := 17) (by omega) (by omega) (by omega) (by omega) (by omega) (by omega)]
      have h9 := h17 hl.2.2.1
      by_cases hz : N 17 (N 19 p).toNat = 0
      · have eL : losN N T K (p + 1) = clr1 (losN N T K p) p := by
          rw [eQ, cnd_t hl]
          unfold los1
          rw [if_pos (e17.trans hz)]
        obtain ⟨y1, y2⟩ := x2 (h9.trans hz)
        exact srq_los (by rw [eL]; exact clr1_k (by decide) (by decide)) (fun j => by rw [eL]; exact clr1_k (by decide) (by decide)) (keep y1 y2)
      · have eL : losN N T K (p + 1) = qap1 (clr1 (losN N T K p) p) p := by
          rw [eQ, cnd_t hl]
          unfold los1
          rw [if_neg (fun z => hz (e17.symm.trans z))]
        obtain ⟨y1, y2⟩ := x3 (fun z => hz (h9.symm.trans z))
        obtain ⟨⟨q1, q2⟩, q3, q4⟩ := g3
        have e80 : clr1 (losN N T K p) p 80 7 = losN N T K p 80 7 := clr1_k (by decide) (by decide)
        have r7 : losN N T K (p + 1) 80 7 = losN N T K p 80 7 + 1 := by rw [eL, qap1_807, e80]
        have r8 : losN N T K (p + 1) 80 8 = losN N T K p 80 8 := (losN_k (by omega) (by omega) (by omega) (by omega) (by omega) (by omega) _).trans (losN_k (by omega) (by omega) (by omega) (by omega) (by omega) (by omega) _).symm
        have r91 : ∀ j, losN N T K (p + 1) 91 j = losN N T K p 91 j := fun j => (losN_x (by omega) (by omega) (by omega) (by omega) (by omega) (by omega) _).trans (losN_x (by omega) (by omega) (by omega) (by omega) (by omega) (by omega) _).symm
        have r90 : ∀ j, losN N T K (p + 1) 90 j = if j = (losN N T K p 80 7).toNat then N 81 p else losN N T K p 90 j := fun j => by
          rw [eL, qap1_90, e80, clr1_k (o := 81) (by decide) (by decide), clr1_k (o := 90) (by decide) (by decide), losN_x (o := 81) (by omega) (by omega) (by omega) (by omega) (by omega) (by omega)]
        refine ⟨⟨by rw [y1, r7, q1], fun j hj => ?_⟩, ?_, fun j hj => ?_⟩
        · rw [r7] at hj
          rw [y2, r90, q1]
          by_cases hh : j = (losN N T K p 80 7).toNat
          · rw [if_pos hh, if_pos hh]
            exact nr_los (Or.inr ⟨p, hp, by rw [et]; exact Int.toNat_natCast _, rfl⟩)
          · rw [if_neg hh, if_neg hh]
            exact nr_los2 (nr_d et (q2 j (by omega)))
        · rw [r8]
          exact (u3 11 (by decide)).trans q3
        · rw [r8] at hj
          rw [la, r91]
          exact nr_los2 (nr_d et (q4 j hj))
    · obtain ⟨-, x2, x3⟩ := u5 hW
      have eL : losN N T K (p + 1) = losN N T K p := by rw [eQ, cnd_f (fun z => hW (hofw.mpr z))]
      rw [eL]
      exact keep x2 x3
  · -- the things
    rw [et]
    by_cases hqp : q = p
    · subst hqp
      exact ⟨fun _ => lo_self hI hq hK hS0 g1 ht h1 h2 hLo et, fun z => absurd z (by omega)⟩
    · have hne := stg_ne hI hSt hp hq hqp
      have gen : ∀ X : Mem, SrT X S H c q (tg c H q) → SrT X S H' c q (tg c H q) := fun X hX => by
        have bq := hX.2.2.1
        have rw7 : ∀ a r n, lk S a = some (r, tg c H q, n) → r ≠ 0 → r ≠ 1 → r ≠ 4 → ∀ j, H' a j = H a j := fun a r n ha r0 r1 r4 j => u1 a j (lk_ne ha ht.1 r1) (lk_ne ha g1.1 r0) (lk_ne ha g1.2.2.2.2.2.1.2 r4) (by
          by_cases h8 : r = 8
          · subst h8; exact lk_ow ha b.2.2.1 hne
          · exact lk_ne ha b.2.2.1 h8) (by
          by_cases h9 : r = 9
          · subst h9; exact lk_ow ha b.2.2.2 hne
          · exact lk_ne ha b.2.2.2 h9)
        exact srt_d et (fun j _ => u1 _ j hne (lk_ne hX.1 g1.1 (by decide)) (lk_ne hX.1 g1.2.2.2.2.2.1.2 (by decide)) (lk_ne hX.1 b.2.2.1 (by decide)) (lk_ne hX.1 b.2.2.2 (by decide))) (rw7 _ _ _ bq.1 (by decide) (by decide) (by decide)) (rw7 _ _ _ bq.2.1 (by decide) (by decide) (by decide)) (rw7 _ _ _ bq.2.2.1 (by decide) (by decide) (by decide)) (rw7 _ _ _ bq.2.2.2 (by decide) (by decide) (by decide)) hX
      exact ⟨fun z => gen _ ((g7 q hq).1 (by omega)), fun z => gen _ ((g7 q hq).2 (by omega))⟩
  · rw [et, m21 q hq]
    exact g8 q hq
  · unfold BS
    rw [et, m21 q hq]
/-- D, but for the row of all, that is as in D0 -/
def hat (c : SC) (D0 D : Mem) : Mem := fun a j => if a = s_al c then D0 a j else D a j
theorem hat_o {a j : Nat} (h : a ≠ s_al c) : hat c D0 D a j = D a j := if_neg h
theorem hat_a {j : Nat} : hat c D0 D (s_al c) j = D0 (s_al c) j := if_pos rfl
end LoStep2
