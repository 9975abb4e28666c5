/-! ===== THE MEMORY BY HAND (the law's Sim and its Things) AND THE GHOST: the reference's memory, that no object of the machine holds here =====
ids of the ghost as in 50.inv: 80 the memory, 97 the PICTURE, 72 kinds, image, marking. -/
/-- the Sim and its rows: all, kinds, frames, globals, queue, last -/
abbrev SC : Type := Nat × Nat × Nat × Nat × Nat × Nat × Nat
abbrev s_m (c : SC) : Nat := c.1
abbrev s_al (c : SC) : Nat := c.2.1
abbrev s_kd (c : SC) : Nat := c.2.2.1
abbrev s_fr (c : SC) : Nat := c.2.2.2.1
abbrev s_gl (c : SC) : Nat := c.2.2.2.2.1
abbrev s_qu (c : SC) : Nat := c.2.2.2.2.2.1
abbrev s_la (c : SC) : Nat := c.2.2.2.2.2.2
/-- the Thing at place p -/
def tg (c : SC) (D : Mem) (p : Nat) : Nat := (D (s_al c) p).toNat
/-- the reference u (0: null) is the object with the number n (-1: none) -/
def Nr (M D : Mem) (c : SC) (u : Nat) (n : Int) : Prop := (u = 0 ∧ n = -1) ∨ ∃ p : Nat, (p : Int) < M 80 0 ∧ u = tg c D p ∧ n = M 81 p
/-- the same, of those of the PICTURE -/
def Np (M D : Mem) (c : SC) (u : Nat) (n : Int) : Prop := (u = 0 ∧ n = -1) ∨ ∃ p : Nat, (p : Int) < M 97 0 ∧ u = tg c D p ∧ n = M 81 p
def SrL (S : Sh) (D : Mem) (c : SC) : Prop := lk S (s_m c) = some (0, 0, 21) ∧
  ((D (s_m c) 0).toNat = s_al c ∧ lk S (s_al c) = some (2, 0, 256)) ∧ ((D (s_m c) 3).toNat = s_kd c ∧ lk S (s_kd c) = some (13, 0, 12)) ∧ ((D (s_m c) 5).toNat = s_fr c ∧ lk S (s_fr c) = some (12, 0, 8)) ∧
  ((D (s_m c) 7).toNat = s_gl c ∧ lk S (s_gl c) = some (3, 0, 8)) ∧ ((D (s_m c) 8).toNat = s_qu c ∧ lk S (s_qu c) = some (4, 0, 256)) ∧ ((D (s_m c) 10).toNat = s_la c ∧ lk S (s_la c) = some (5, 0, 256)) ∧ (D (s_m c) 19).toNat = 0
def SrF (M : Mem) (S : Sh) (D : Mem) (c : SC) : Prop := D (s_m c) 6 = M 80 6 - 1 ∧
  (∀ f : Nat, (f : Int) < M 80 6 → lk S (D (s_fr c) f).toNat = some (6, f, (M 88 f).toNat)) ∧
  (∀ f s : Nat, (f : Int) < M 80 6 → (s : Int) < M 88 f → Nr M D c (D (D (s_fr c) f).toNat s).toNat (M 89 (8 * f + s))) ∧
  (∀ g : Nat, g < 8 → Nr M D c (D (s_gl c) g).toNat (M 89 (64 + g)))
def SrQ (M D : Mem) (c : SC) : Prop := (D (s_m c) 9 = M 80 7 ∧ ∀ k : Nat, (k : Int) < M 80 7 → Nr M D c (D (s_qu c) k).toNat (M 90 k)) ∧
  (D (s_m c) 11 = M 80 8 ∧ ∀ k : Nat, (k : Int) < M 80 8 → Nr M D c (D (s_la c) k).toNat (M 91 k))
def SrK (M : Mem) (S : Sh) (D : Mem) (c : SC) : Prop := D (s_m c) 4 = M 72 1 ∧
  ∀ k : Nat, (k : Int) < M 72 1 → lk S (D (s_kd c) k).toNat = some (15, k, 4) ∧ D (D (s_kd c) k).toNat 0 = M 73 k ∧ D (D (s_kd c) k).toNat 1 = M 74 k ∧ D (D (s_kd c) k).toNat 2 = M 75 k ∧ D (D (s_kd c) k).toNat 3 = M 76 k
/-- how many numbers, how many entries the object at p has -/
def numR (M : Mem) (p : Nat) : Int := if M 82 p = 0 then M 75 (M 83 p).toNat else if M 82 p = 2 then M 83 p else 0
def capR (M : Mem) (p : Nat) : Int := if M 82 p = 6 then M 83 p else 0
/-- the Thing t is the object at p -/
def SrT (M : Mem) (S : Sh) (D : Mem) (c : SC) (p t : Nat) : Prop := lk S t = some (1, 0, 24) ∧
  (D t 0 = M 81 p ∧ D t 1 = M 82 p ∧ D t 2 = (if M 82 p = 0 then M 83 p else -1) ∧ D t 3 = wrdR M 80 p) ∧
  (lk S (D t 4).toNat = some (7, t, (lnkR M 80 p).toNat) ∧ lk S (D t 5).toNat = some (14, t, (numR M p).toNat) ∧ lk S (D t 6).toNat = some (8, t, (capR M p).toNat) ∧ lk S (D t 7).toNat = some (9, t, (capR M p).toNat)) ∧
  (D t 9 = (if 3 ≤ M 82 p ∧ M 82 p ≤ 5 then M 17 (M 19 p).toNat else 0) ∧ D t 10 = M 85 p ∧ D t 11 = M 14 (M 19 p).toNat ∧ D t 12 = (if M 82 p = 0 then M 76 (M 83 p).toNat else 0) ∧ D t 13 = M 15 (M 19 p).toNat ∧ D t 14 = M 16 (M 19 p).toNat) ∧
  (∀ i : Nat, (i : Int) < lnkR M 80 p → Nr M D c (D (D t 4).toNat i).toNat (M 87 ((M 84 p).toNat + i))) ∧
  (∀ i : Nat, (i : Int) < numR M p → D (D t 5).toNat i = M 87 ((M 84 p).toNat + (lnkR M 80 p).toNat + i)) ∧
  (∀ i : Nat, (i : Int) < capR M p → Nr M D c (D (D t 6).toNat i).toNat (M 87 ((M 84 p).toNat + 2 * i)) ∧ Nr M D c (D (D t 7).toNat i).toNat (M 87 ((M 84 p).toNat + (2 * i + 1)))) ∧
  (if 3 ≤ M 82 p ∧ M 82 p ≤ 5 then Nr M D c (D t 8).toNat (M 87 (M 84 p).toNat) else (D t 8).toNat = 0)
def SrO (M : Mem) (S : Sh) (D : Mem) (c : SC) : Prop := D (s_m c) 1 = M 80 0 ∧ D (s_m c) 2 = M 80 2 ∧ ∀ p : Nat, (p : Int) < M 80 0 → SrT M S D c p (tg c D p)
/-- marks are bits below 32 -/
def SrB (M D : Mem) (c : SC) : Prop := ∀ p : Nat, (p : Int) < M 80 0 → 0 ≤ D (tg c D p) 21 ∧ D (tg c D p) 21 < 32
def SrI (M : Mem) (S : Sh) (D : Mem) (c : SC) : Prop := lk S (D (s_m c) 15).toNat = some (16, 0, (M 72 9).toNat) ∧ ∀ k : Nat, (k : Int) < M 72 9 → D (D (s_m c) 15).toNat k = M 77 k
def SrC (M D : Mem) (c : SC) : Prop := D (s_m c) 12 = M 80 5 ∧ D (s_m c) 13 = M 80 3 ∧ D (s_m c) 14 = M 80 4
/-- the PICTURE: what the Thing at p held then -/
def SrP (M : Mem) (S : Sh) (D : Mem) (c : SC) (p t : Nat) : Prop :=
  ((∃ o, lk S (D t 15).toNat = some (10, o, (lnkR M 80 p).toNat)) ∧ (∃ o, lk S (D t 16).toNat = some (10, o, (capR M p).toNat)) ∧ (∃ o, lk S (D t 17).toNat = some (10, o, (capR M p).toNat))) ∧
  (∀ i : Nat, (i : Int) < lnkR M 80 p → Np M D c (D (D t 15).toNat i).toNat (M 104 ((M 84 p).toNat + i))) ∧
  (∀ i : Nat, (i : Int) < capR M p → Np M D c (D (D t 16).toNat i).toNat (M 104 ((M 84 p).toNat + 2 * i)) ∧ Np M D c (D (D t 17).toNat i).toNat (M 104 ((M 84 p).toNat + (2 * i + 1)))) ∧
  (if 3 ≤ M 82 p ∧ M 82 p ≤ 5 then Np M D c (D t 18).toNat (M 104 (M 84 p).toNat) else (D t 18).toNat = 0) ∧
  ((D t 19 = 0 ∨ D t 19 = 1) ∧ (D t 19 = 1 ↔ Hrt M 97 p)) ∧ ((D t 20 = 0 ∨ D t 20 = 1) ∧ (D t 20 = 1 ↔ M 109 p = 1))
def SrM (M : Mem) (S : Sh) (D : Mem) (c : SC) : Prop := D (s_m c) 16 = M 72 10 ∧ (M 72 10 = 1 → (D (s_m c) 17 = M 97 2 ∧ D (s_m c) 18 = M 72 11) ∧
  (∀ p : Nat, (p : Int) < M 97 0 → SrP M S D c p (tg c D p)) ∧ ∀ p : Nat, M 97 0 ≤ p → (p : Int) < M 80 0 → D (tg c D p) 19 = 0 ∧ (D (tg c D p) 20 = 0 ∨ D (tg c D p) 20 = 1))
def SR (M : Mem) (S : Sh) (D : Mem) (c : SC) : Prop := SrL S D c ∧ SrF M S D c ∧ SrQ M D c ∧ SrK M S D c ∧ SrO M S D c ∧ SrB M D c ∧ SrI M S D c ∧ SrC M D c ∧ SrM M S D c
theorem SR.l {M : Mem} {S : Sh} {D : Mem} {c : SC} (h : SR M S D c) : SrL S D c := h.1
theorem SR.f {M : Mem} {S : Sh} {D : Mem} {c : SC} (h : SR M S D c) : SrF M S D c := h.2.1
theorem SR.q {M : Mem} {S : Sh} {D : Mem} {c : SC} (h : SR M S D c) : SrQ M D c := h.2.2.1
theorem SR.k {M : Mem} {S : Sh} {D : Mem} {c : SC} (h : SR M S D c) : SrK M S D c := h.2.2.2.1
theorem SR.o {M : Mem} {S : Sh} {D : Mem} {c : SC} (h : SR M S D c) : SrO M S D c := h.2.2.2.2.1
theorem SR.b {M : Mem} {S : Sh} {D : Mem} {c : SC} (h : SR M S D c) : SrB M D c := h.2.2.2.2.2.1
theorem SR.i {M : Mem} {S : Sh} {D : Mem} {c : SC} (h : SR M S D c) : SrI M S D c := h.2.2.2.2.2.2.1
theorem SR.c {M : Mem} {S : Sh} {D : Mem} {c : SC} (h : SR M S D c) : SrC M D c := h.2.2.2.2.2.2.2.1
theorem SR.m {M : Mem} {S : Sh} {D : Mem} {c : SC} (h : SR M S D c) : SrM M S D c := h.2.2.2.2.2.2.2.2
/-! ===== changes of the law's objects that a part doesn't see ===== -/
/-- D' agrees with D on the fields j of objects of role r that k names -/
def AgD (S : Sh) (D D' : Mem) (k : Nat → Nat → Bool) : Prop := ∀ a r o n, lk S a = some (r, o, n) → ∀ j, k r j = true → D' a j = D a j
theorem agd_rf {S : Sh} {D : Mem} {k : Nat → Nat → Bool} : AgD S D D k := fun _ _ _ _ _ _ _ => rfl
theorem agd_up {S : Sh} {D D' : Mem} {k : Nat → Nat → Bool} {t j r o n : Nat} {v : Int} (h : lk S t = some (r, o, n)) (hk : k r j = false) (g : AgD S D D' k) : AgD S D (up D' t j v) k := by
  intro a r' o' n' ha i hi
  rw [← g a r' o' n' ha i hi]
  unfold up
  rw [if_neg]
  rintro ⟨rfl, rfl⟩
  rw [h] at ha
  cases ha
  rw [hk] at hi
  cases hi
theorem agd_zr {S : Sh} {D D' : Mem} {k : Nat → Nat → Bool} {q : Nat} (h : lk S q = none) (g : AgD S D D' k) : AgD S D (zr D' q) k := by
  intro a r o n ha i hi
  rw [← g a r o n ha i hi]
  refine zr_ne (fun z => ?_)
  subst z
  rw [h] at ha
  cases ha
theorem agd_tr {S S1 : Sh} {D D1 D2 : Mem} {k : Nat → Nat → Bool} (hx : Xs S S1) (h : AgD S D D1 k) (g : AgD S1 D1 D2 k) : AgD S D D2 k :=
  fun a r o n ha j hj => (g a r o n (lk_x hx ha) j hj).trans (h a r o n ha j hj)
theorem agd_le {S : Sh} {D D' : Mem} {k k' : Nat → Nat → Bool} (h : AgD S D D' k) (hle : ∀ r j, k' r j = true → k r j = true) : AgD S D D' k' := fun a r o n ha j hj => h a r o n ha j (hle r j hj)
def kL (r j : Nat) : Bool := Nat.beq r 0 && (Nat.beq j 0 || Nat.beq j 3 || Nat.beq j 5 || Nat.beq j 7 || Nat.beq j 8 || Nat.beq j 10 || Nat.beq j 19)
def kA2 (r _j : Nat) : Bool := Nat.beq r 2
def kF (r j : Nat) : Bool := (Nat.beq r 0 && Nat.beq j 6) || Nat.beq r 2 || Nat.beq r 12 || Nat.beq r 6 || Nat.beq r 3
def kQ (r j : Nat) : Bool := (Nat.beq r 0 && (Nat.beq j 9 || Nat.beq j 11)) || Nat.beq r 2 || Nat.beq r 4 || Nat.beq r 5
def kK (r j : Nat) : Bool := (Nat.beq r 0 && Nat.beq j 4) || Nat.beq r 13 || Nat.beq r 15
def kT (r j : Nat) : Bool := Nat.beq r 2 || (Nat.beq r 1 && Nat.ble j 14) || Nat.beq r 7 || Nat.beq r 8 || Nat.beq r 9 || Nat.beq r 14
def kO (r j : Nat) : Bool := kT r j || (Nat.beq r 0 && (Nat.beq j 1 || Nat.beq j 2))
def kB (r j : Nat) : Bool := Nat.beq r 2 || (Nat.beq r 1 && Nat.beq j 21)
def kIm (r j : Nat) : Bool := (Nat.beq r 0 && Nat.beq j 15) || Nat.beq r 16
def kC (r j : Nat) : Bool := Nat.beq r 0 && (Nat.beq j 12 || Nat.beq j 13 || Nat.beq j 14)
def kP (r j : Nat) : Bool := Nat.beq r 2 || (Nat.beq r 1 && Nat.ble 15 j && Nat.ble j 20) || Nat.beq r 10
def kM (r j : Nat) : Bool := kP r j || (Nat.beq r 0 && (Nat.beq j 16 || Nat.beq j 17 || Nat.beq j 18))
section Kept
variable {M : Mem} {S S' : Sh} {D D' : Mem} {c : SC}
theorem srl_k (hx : Xs S S') (g : AgD S D D' kL) (h : SrL S D c) : SrL S' D' c := by
  obtain ⟨h0, ⟨a1, a2⟩, ⟨b1, b2⟩, ⟨c1, c2⟩, ⟨d1, d2⟩, ⟨e1, e2⟩, ⟨f1, f2⟩, g1⟩ := h
  exact ⟨lk_x hx h0, ⟨by rw [g _ _ _ _ h0 0 rfl]; exact a1, lk_x hx a2⟩, ⟨by rw [g _ _ _ _ h0 3 rfl]; exact b1, lk_x hx b2⟩, ⟨by rw [g _ _ _ _ h0 5 rfl]; exact c1, lk_x hx c2⟩, ⟨by rw [g _ _ _ _ h0 7 rfl]; exact d1, lk_x hx d2⟩, ⟨by rw [g _ _ _ _ h0 8 rfl]; exact e1, lk_x hx e2⟩, ⟨by rw [g _ _ _ _ h0 10 rfl]; exact f1, lk_x hx f2⟩, by rw [g _ _ _ _ h0 19 rfl]; exact g1⟩
theorem tg_k {k : Nat → Nat → Bool} (hL : SrL S D c) (g : AgD S D D' k) (hk : ∀ j, k 2 j = true) (p : Nat) : tg c D' p = tg c D p := by
  unfold tg
  rw [g _ _ _ _ hL.2.1.2 p (hk p)]
theorem nr_k {k : Nat → Nat → Bool} (hL : SrL S D c) (g : AgD S D D' k) (hk : ∀ j, k 2 j = true) {u : Nat} {n : Int} (h : Nr M D c u n) : Nr M D' c u n := by
  rcases h with h | ⟨p, h1, h2, h3⟩
  · exact Or.inl h
  · exact Or.inr ⟨p, h1, by rw [tg_k hL g hk]; exact h2, h3⟩
theorem np_k {k : Nat → Nat → Bool} (hL : SrL S D c) (g : AgD S D D' k) (hk : ∀ j, k 2 j = true) {u : Nat} {n : Int} (h : Np M D c u n) : Np M D' c u n := by
  rcases h with h | ⟨p, h1, h2, h3⟩
  · exact Or.inl h
  · exact Or.inr ⟨p, h1, by rw [tg_k hL g hk]; exact h2, h3⟩
theorem srf_k (hL : SrL S D c) (hx : Xs S S') (g : AgD S D D' kF) (h : SrF M S D c) : SrF M S' D' c := by
  obtain ⟨h1, h2, h3, h4⟩ := h
  have e : ∀ f : Nat, D' (s_fr c) f = D (s_fr c) f := fun f => g _ _ _ _ hL.2.2.2.1.2 f rfl
  refine ⟨by rw [g _ _ _ _ hL.1 6 rfl]; exact h1, fun f hf => by rw [e]; exact lk_x hx (h2 f hf), fun f s hf hs => ?_, fun q hq => ?_⟩
  · rw [e, g _ _ _ _ (h2 f hf) s rfl]
    exact nr_k hL g (fun _ => rfl) (h3 f s hf hs)
  · rw [g _ _ _ _ hL.2.2.2.2.1.2 q rfl]
    exact nr_k hL g (fun _ => rfl) (h4 q hq)
theorem srq_k (hL : SrL S D c) (g : AgD S D D' kQ) (h : SrQ M D c) : SrQ M D' c := by
  obtain ⟨⟨h1, h2⟩, h3, h4⟩ := h
  refine ⟨⟨by rw [g _ _ _ _ hL.1 9 rfl]; exact h1, fun k hk => ?_⟩, by rw [g _ _ _ _ hL.1 11 rfl]; exact h3, fun k hk => ?_⟩
  · rw [g _ _ _ _ hL.2.2.2.2.2.1.2 k rfl]
    exact nr_k hL g (fun _ => rfl) (h2 k hk)
  · rw [g _ _ _ _ hL.2.2.2.2.2.2.1.2 k rfl]
    exact nr_k hL g (fun _ => rfl) (h4 k hk)
theorem srk_k (hL : SrL S D c) (hx : Xs S S') (g : AgD S D D' kK) (h : SrK M S D c) : SrK M S' D' c := by
  obtain ⟨h1, h2⟩ := h
  refine ⟨by rw [g _ _ _ _ hL.1 4 rfl]; exact h1, fun k hk => ?_⟩
  obtain ⟨a0, a1, a2, a3, a4⟩ := h2 k hk
  rw [g _ _ _ _ hL.2.2.1.2 k rfl, g _ _ _ _ a0 0 rfl, g _ _ _ _ a0 1 rfl, g _ _ _ _ a0 2 rfl, g _ _ _ _ a0 3 rfl]
  exact ⟨lk_x hx a0, a1, a2, a3, a4⟩
theorem srt_k {p t : Nat} (hL : SrL S D c) (hx : Xs S S') (g : AgD S D D' kT) (h : SrT M S D c p t) : SrT M S' D' c p t := by
  obtain ⟨h0, ⟨a0, a1, a2, a3⟩, ⟨b1, b2, b3, b4⟩, ⟨c1, c2, c3, c4, c5, c6⟩, d1, d2, d3, d4⟩ := h
  have e : ∀ j, Nat.ble j 14 = true → D' t j = D t j := fun j hj => g _ _ _ _ h0 j (by show (false || (true && Nat.ble j 14) || false || false || false || false) = true; rw [hj]; rfl)
  have e4 := e 4 rfl
  have e5 := e 5 rfl
  have e6 := e 6 rfl
  have e7 := e 7 rfl
  refine ⟨lk_x hx h0, ⟨by rw [e 0 rfl]; exact a0, by rw [e 1 rfl]; exact a1, by rw [e 2 rfl]; exact a2, by rw [e 3 rfl]; exact a3⟩, ⟨by rw [e4]; exact lk_x hx b1, by rw [e5]; exact lk_x hx b2, by rw [e6]; exact lk_x hx b3, by rw [e7]; exact lk_x hx b4⟩, ⟨by rw [e 9 rfl]; exact c1, by rw [e 10 rfl]; exact c2, by rw [e 11 rfl]; exact c3, by rw [e 12 rfl]; exact c4, by rw [e 13 rfl]; exact c5, by rw [e 14 rfl]; exact c6⟩, fun i hi => ?_, fun i hi => ?_, fun i hi => ?_, ?_⟩
  · rw [e4, g _ _ _ _ b1 i rfl]
    exact nr_k hL g (fun _ => rfl) (d1 i hi)
  · rw [e5, g _ _ _ _ b2 i rfl]
    exact d2 i hi
  · rw [e6, e7, g _ _ _ _ b3 i rfl, g _ _ _ _ b4 i rfl]
    exact ⟨nr_k hL g (fun _ => rfl) (d3 i hi).1, nr_k hL g (fun _ => rfl) (d3 i hi).2⟩
  · rw [e 8 rfl]
    split
    · rename_i hh
      rw [if_pos hh] at d4
      exact nr_k hL g (fun _ => rfl) d4
    · rename_i hh
      rw [if_neg hh] at d4
      exact d4
theorem kT_kO {r j : Nat} (h : kT r j = true) : kO r j = true := by unfold kO; rw [h]; rfl
theorem sro_k (hL : SrL S D c) (hx : Xs S S') (g : AgD S D D' kO) (h : SrO M S D c) : SrO M S' D' c := by
  obtain ⟨h1, h2, h3⟩ := h
  refine ⟨by rw [g _ _ _ _ hL.1 1 rfl]; exact h1, by rw [g _ _ _ _ hL.1 2 rfl]; exact h2, fun p hp => ?_⟩
  rw [tg_k hL g (fun _ => rfl)]
  exact srt_k hL hx (agd_le g (fun r j => kT_kO)) (h3 p hp)
theorem srb_k (hL : SrL S D c) (hO : SrO M S D c) (g : AgD S D D' kB) (h : SrB M D c) : SrB M D' c := by
  intro p hp
  rw [tg_k hL g (fun _ => rfl), g _ _ _ _ (hO.2.2 p hp).1 21 rfl]
  exact h p hp
theorem sri_k (hL : SrL S D c) (hx : Xs S S') (g : AgD S D D' kIm) (h : SrI M S D c) : SrI M S' D' c := by
  obtain ⟨h1, h2⟩ := h
  have e := g _ _ _ _ hL.1 15 rfl
  refine ⟨by rw [e]; exact lk_x hx h1, fun k hk => ?_⟩
  rw [e, g _ _ _ _ h1 k rfl]
  exact h2 k hk
theorem src_k (hL : SrL S D c) (g : AgD S D D' kC) (h : SrC M D c) : SrC M D' c :=
  ⟨by rw [g _ _ _ _ hL.1 12 rfl]; exact h.1, by rw [g _ _ _ _ hL.1 13 rfl]; exact h.2.1, by rw [g _ _ _ _ hL.1 14 rfl]; exact h.2.2⟩
theorem srp_k {p t r0 o0 n0 : Nat} (hL : SrL S D c) (hx : Xs S S') (ht : lk S t = some (1, o0, n0)) (g : AgD S D D' kP) (h : SrP M S D c p t) : SrP M S' D' c p t := by
  obtain ⟨⟨⟨o1, b1⟩, ⟨o2, b2⟩, ⟨o3, b3⟩⟩, d1, d2, d3, d4, d5⟩ := h
  have e : ∀ j, (Nat.ble 15 j && Nat.ble j 20) = true → D' t j = D t j := fun j hj => g _ _ _ _ ht j (by show (false || (true && Nat.ble 15 j && Nat.ble j 20) || false) = true; rw [Bool.and_assoc, hj]; rfl)
  have e5 := e 15 rfl
  have e6 := e 16 rfl
  have e7 := e 17 rfl
  refine ⟨⟨⟨o1, by rw [e5]; exact lk_x hx b1⟩, ⟨o2, by rw [e6]; exact lk_x hx b2⟩, ⟨o3, by rw [e7]; exact lk_x hx b3⟩⟩, fun i hi => ?_, fun i hi => ?_, ?_, by rw [e 19 rfl]; exact d4, by rw [e 20 rfl]; exact d5⟩
  · rw [e5, g _ _ _ _ b1 i rfl]
    exact np_k hL g (fun _ => rfl) (d1 i hi)
  · rw [e6, e7, g _ _ _ _ b2 i rfl, g _ _ _ _ b3 i rfl]
    exact ⟨np_k hL g (fun _ => rfl) (d2 i hi).1, np_k hL g (fun _ => rfl) (d2 i hi).2⟩
  · rw [e 18 rfl]
    split
    · rename_i hh
      rw [if_pos hh] at d3
      exact np_k hL g (fun _ => rfl) d3
    · rename_i hh
      rw [if_neg hh] at d3
      exact d3
theorem kP_kM {r j : Nat} (h : kP r j = true) : kM r j = true := by unfold kM; rw [h]; rfl
theorem srm_k (hL : SrL S D c) (hO : SrO M S D c) (hpi : M 72 10 = 1 → M 97 0 ≤ M 80 0) (hx : Xs S S') (g : AgD S D D' kM) (h : SrM M S D c) : SrM M S' D' c := by
  obtain ⟨h1, h2⟩ := h
  refine ⟨by rw [g _ _ _ _ hL.1 16 rfl]; exact h1, fun hon => ?_⟩
  obtain ⟨⟨a1, a2⟩, a3, a4⟩ := h2 hon
  have hp0 := hpi hon
  refine ⟨⟨by rw [g _ _ _ _ hL.1 17 rfl]; exact a1, by rw [g _ _ _ _ hL.1 18 rfl]; exact a2⟩, fun p hp => ?_, fun p hp hp2 => ?_⟩
  · rw [tg_k hL g (fun _ => rfl)]
    exact srp_k (r0 := 0) hL hx (hO.2.2 p (by omega)).1 (agd_le g (fun r j => kP_kM)) (a3 p hp)
  · have ht := (hO.2.2 p hp2).1
    rw [tg_k hL g (fun _ => rfl), g _ _ _ _ ht 19 rfl, g _ _ _ _ ht 20 rfl]
    exact a4 p hp hp2
/-- all but marks -/
def kAll (r j : Nat) : Bool := !(Nat.beq r 1 && Nat.ble 21 j)
theorem sr_all (hpi : M 72 10 = 1 → M 97 0 ≤ M 80 0) (hx : Xs S S') (g : AgD S D D' kAll) (hb : SrB M D' c) (h : SR M S D c) : SR M S' D' c := by
  have le : ∀ k : Nat → Nat → Bool, (∀ r j, k r j = true → kAll r j = true) → AgD S D D' k := fun k hk => agd_le g hk
  have hL := h.l
  have q1 : ∀ r j, kL r j = true → kAll r j = true := fun r j hk => by
    unfold kL at hk; unfold kAll
    cases hr : Nat.beq r 1
    · rfl
    · replace hr := Nat.eq_of_beq_eq_true hr; subst hr; cases hk
  have q0 : ∀ (k : Nat → Nat → Bool), (∀ j, k 1 j = true → Nat.ble 21 j = false) → ∀ r j, k r j = true → kAll r j = true := fun k hk r j h1 => by
    unfold kAll
    cases hr : Nat.beq r 1
    · rfl
    · replace hr := Nat.eq_of_beq_eq_true hr
      subst hr
      rw [hk j h1]
      rfl
  have hle : ∀ j, Nat.ble j 20 = true → Nat.ble 21 j = false := fun j hj => by
    have := Nat.le_of_ble_eq_true hj
    cases hh : Nat.ble 21 j
    · rfl
    · have := Nat.le_of_ble_eq_true hh; omega
  have hle2 : ∀ j, Nat.ble j 14 = true → Nat.ble 21 j = false := fun j hj => by
    have := Nat.le_of_ble_eq_true hj
    cases hh : Nat.ble 21 j
    · rfl
    · have := Nat.le_of_ble_eq_true hh; omega
  refine ⟨srl_k hx (le _ q1) hL, srf_k hL hx (le _ (q0 kF (fun j hj => by simp [kF] at hj))) h.f, srq_k hL (le _ (q0 kQ (fun j hj => by simp [kQ] at hj))) h.q, srk_k hL hx (le _ (q0 kK (fun j hj => by simp [kK] at hj))) h.k, sro_k hL hx (le _ (q0 kO (fun j hj => hle2 j (by simpa [kO, kT] using hj)))) h.o, hb, sri_k hL hx (le _ (q0 kIm (fun j hj => by simp [kIm] at hj))) h.i, src_k hL (le _ (q0 kC (fun j hj => by simp [kC] at hj))) h.c, srm_k hL h.o hpi hx (le _ (q0 kM (fun j hj => ?_))) h.m⟩
  have h1 : Nat.ble 15 j = true ∧ Nat.ble j 20 = true := by simpa [kM, kP] using hj
  exact hle j h1.2
end Kept
