/-! ===== what a collection leaves of a NET ===== -/
/-- the objects of B that K names stand in V, where f tells -/
def Emb (B V : Mem) (K : Nat → Prop) (f : Nat → Nat) : Prop :=
  (∀ p : Nat, K p → (p : Int) < B 80 0) ∧
  (∀ p : Nat, K p → (f p : Int) < V 80 0 ∧ V 19 (f p) = B 19 p ∧ V 81 (f p) = B 81 p ∧ V 82 (f p) = B 82 p ∧ V 83 (f p) = B 83 p ∧ V 16 (B 19 p).toNat = B 16 (B 19 p).toNat ∧ (B 82 p ≤ 2 → ∀ o t : Nat, (o = 18 ∨ o = 87) → (t : Int) < sizR B 80 p → V o ((V 84 (f p)).toNat + t) = B o ((B 84 p).toNat + t))) ∧
  (∀ x : Nat, (x : Int) < V 80 0 → ∃ p, K p ∧ x = f p) ∧
  (∀ p q : Nat, K p → K q → f p = f q → p = q) ∧
  (∀ k : Nat, V 74 k = B 74 k ∧ V 75 k = B 75 k ∧ V 89 k = B 89 k) ∧
  (∀ q : Nat, (q : Int) < B 80 0 → (∃ k : Nat, k < 72 ∧ B 89 k = B 81 q) → K q) ∧
  (∀ p k q : Nat, K p → (k : Int) < lnkR B 80 p → Ed B 80 p k q → K q)
/-- what is reached from p0 by links, as far as it may be held by a NET -/
def Nt (M : Mem) (p0 p : Nat) : Prop := ∀ T : Nat → Prop, T p0 → (∀ a k q : Nat, (a : Int) < M 80 0 → T a → (k : Int) < lnkR M 80 a → Ed M 80 a k q → M 82 q ≤ 2 → T q) → T p
noncomputable def wtN (V : Mem) (q0 : Nat) : Int := sumF (fun s => cnd (Nt V q0 s ∧ V 16 (V 19 s).toNat = 0) (wrdR V 80 s) 0) (V 80 0).toNat
section EmbS
variable {i j : Nat} {N B V W : Mem} {S K K' : Nat → Prop} {f f' : Nat → Nat} {p p0 q k : Nat} {y : Prop} {w x : Int}
theorem lo_cell (hI : Inv i N) (off : N 72 10 = 0) (hp : (p : Int) < N 80 0) (h2 : N 82 p ≤ 2) {o t : Nat} (ho : o = 18 ∨ o = 87) (ht : (t : Int) < sizR N 80 p) : loN N S K o ((N 84 p).toNat + t) = N o ((N 84 p).toNat + t) := by
  have hF := inv_finN (S := S) hI off (N 80 0).toNat (by have := hI.ob.1; omega)
  have e : ∀ a b : Nat, a ≠ 15 → a ≠ 27 → a ≠ 28 → a ≠ 86 → a ≠ 91 → a ≠ 80 → finN N S (N 80 0).toNat a b = N a b := fun a b h1 h2 h3 h4 h5 h6 => finN_x h1 h2 h3 h4 h5 h6 _
  have e0 : finN N S (N 80 0).toNat 80 0 = N 80 0 := finN_k (by decide) (by decide) (by decide) (by decide) (by decide) (by decide) _
  have e82 : finN N S (N 80 0).toNat 82 p = N 82 p := e 82 p (by decide) (by decide) (by decide) (by decide) (by decide) (by decide)
  have e83 : finN N S (N 80 0).toNat 83 p = N 83 p := e 83 p (by decide) (by decide) (by decide) (by decide) (by decide) (by decide)
  have e84 : finN N S (N 80 0).toNat 84 p = N 84 p := e 84 p (by decide) (by decide) (by decide) (by decide) (by decide) (by decide)
  have eo : ∀ b, finN N S (N 80 0).toNat o b = N o b := fun b => e o b (by omega) (by omega) (by omega) (by omega) (by omega) (by omega)
  have es : sizR (finN N S (N 80 0).toNat) 80 p = sizR N 80 p := by
    show (if finN N S (N 80 0).toNat 82 p = 0 then finN N S (N 80 0).toNat 74 (finN N S (N 80 0).toNat 83 p).toNat + finN N S (N 80 0).toNat 75 (finN N S (N 80 0).toNat 83 p).toNat else if finN N S (N 80 0).toNat 82 p = 6 then 2 * finN N S (N 80 0).toNat 83 p else finN N S (N 80 0).toNat 83 p) = _
    rw [e82, e83, e 74 _ (by decide) (by decide) (by decide) (by decide) (by decide) (by decide), e 75 _ (by decide) (by decide) (by decide) (by decide) (by decide) (by decide)]
    rfl
  have hp' : (p : Int) < finN N S (N 80 0).toNat 80 0 := by rw [e0]; exact hp
  have ht' : (t : Int) < sizR (finN N S (N 80 0).toNat) 80 p := by rw [es]; exact ht
  unfold loN
  rw [drp_f _ (fun p' _ _ hD => ?_)]
  · have h := losN_on (S := S) (K := K) hF ho (n := (N 80 0).toNat) hp' ht' (fun p' _ hL e9 => by
      subst e9
      have := hL.2.2.1
      omega)
    rw [e84, eo] at h
    exact h
  · rw [← e84] at hD
    have e9 := drp_own hF hp' ht' hD
    subst e9
    have := hD.2.1
    omega
theorem colN_k {o : Nat} (h1 : o ≠ 13) (h2 : o ≠ 85) (h3 : o ≠ 14) (h4 : o ≠ 86) (h5 : o ≠ 6) (h6 : o ≠ 39) (h7 : ¬ (o = 80 ∧ (k = 3 ∨ k = 4))) : colN N S K y o k = cmpN (loN N S K) K o k := by
  unfold colN
  by_cases hy : y
  · rw [cnd_t hy]
    unfold cntY
    rw [up_ne (by omega), up_ne (by omega), groN_k h1 h2 h3 h4 (by omega)]
  · rw [cnd_f hy]
    unfold cntF
    rw [up_ne (by omega), up_ne (by omega), risN_k h3 h4 (by omega)]
theorem emb_colN (hI : Inv i N) (off : N 72 10 = 0) (hC : ClsK N S K) : Emb N (colN N S K y) K (kc K) := by
  obtain ⟨c1, c2, c3, c4, c5, c6⟩ := hC
  have hL := inv_loN (S := S) (K := K) hI off
  have l : ∀ a b : Nat, a ≠ 15 → a ≠ 27 → a ≠ 28 → a ≠ 86 → a ≠ 91 → ¬ (a = 80 ∧ (b = 7 ∨ b = 8)) → a ≠ 18 → a ≠ 87 → a ≠ 25 → a ≠ 26 → a ≠ 90 → loN N S K a b = N a b := fun a b h1 h2 h3 h4 h5 h6 h7 h8 h9 h10 h11 => lo_k h1 (fun z => h2 z.1) h3 h4 h5 h6 h7 h8 (fun z => h9 z.1) h10 h11
  have l0 : loN N S K 80 0 = N 80 0 := l 80 0 (by decide) (by decide) (by decide) (by decide) (by decide) (by decide) (by decide) (by decide) (by decide) (by decide) (by decide)
  have l19 : ∀ b, loN N S K 19 b = N 19 b := fun b => l 19 b (by decide) (by decide) (by decide) (by decide) (by decide) (by omega) (by decide) (by decide) (by decide) (by decide) (by decide)
  have l8 : ∀ a b, (a = 81 ∨ a = 82 ∨ a = 83 ∨ a = 84) → loN N S K a b = N a b := fun a b h => l a b (by omega) (by omega) (by omega) (by omega) (by omega) (by omega) (by omega) (by omega) (by omega) (by omega) (by omega)
  have l7 : ∀ a b, (a = 74 ∨ a = 75) → loN N S K a b = N a b := fun a b h => l a b (by omega) (by omega) (by omega) (by omega) (by omega) (by omega) (by omega) (by omega) (by omega) (by omega) (by omega)
  have v0 : colN N S K y 80 0 = (kc K (N 80 0).toNat : Int) := by rw [colN_k (by decide) (by decide) (by decide) (by decide) (by decide) (by decide) (by decide)]; exact cmp_80n
  have hk : ∀ a b : Nat, 74 ≤ a → a ≤ 75 ∨ a = 89 → colN N S K y a b = N a b := fun a b h1 h2 => by
    rw [colN_k (by omega) (by omega) (by omega) (by omega) (by omega) (by omega) (by omega)]
    exact cmpL_k (by omega) (by omega) (by omega) (by omega) (by omega) (by omega) (by omega) (by omega) (by omega) (by omega) (by omega) (by omega) (by omega) (by omega)
  have hsz : ∀ p, sizR (loN N S K) 80 p = sizR N 80 p := fun p => by
    show (if loN N S K 82 p = 0 then loN N S K 74 (loN N S K 83 p).toNat + loN N S K 75 (loN N S K 83 p).toNat else if loN N S K 82 p = 6 then 2 * loN N S K 83 p else loN N S K 83 p) = _
    rw [l8 82 p (by omega), l8 83 p (by omega), l7 74 _ (by omega), l7 75 _ (by omega)]
    rfl
  refine ⟨c3, fun p hK => ?_, fun x hx => ?_, fun p q h1 h2 h3 => kc_inj h1 h2 h3, fun k => ⟨hk 74 k (by omega) (by omega), hk 75 k (by omega) (by omega), hk 89 k (by omega) (by omega)⟩, fun q hq ⟨k, h1, h2⟩ => c2 q hq (c1 q ⟨hq, Or.inl ⟨k, h1, h2⟩⟩), fun p k q h1 h2 h3 => c5 p k q (c3 p h1) h1 h2 h3⟩
  · have hp := c3 p hK
    have hp' : (p : Int) < loN N S K 80 0 := by rw [l0]; exact hp
    obtain ⟨a1, a2, a3, a4⟩ := cmp_pl (N := loN N S K) hK hp'
    have ck : ∀ a b : Nat, a = 19 ∨ a = 18 ∨ a = 16 ∨ (81 ≤ a ∧ a ≤ 84) ∨ a = 87 → colN N S K y a b = cmpN (loN N S K) K a b := fun a b h => colN_k (by omega) (by omega) (by omega) (by omega) (by omega) (by omega) (by omega)
    refine ⟨?_, ?_, ?_, ?_, ?_, ?_, fun h2 o t ho ht => ?_⟩
    · rw [v0]; rw [cmp_80n] at a1; exact a1
    · rw [ck 19 _ (by omega), a2, l19]
    · rw [ck 81 _ (by omega), a3 81 (by omega), l8 81 p (by omega)]
    · rw [ck 82 _ (by omega), a3 82 (by omega), l8 82 p (by omega)]
    · rw [ck 83 _ (by omega), a3 83 (by omega), l8 83 p (by omega)]
    · rw [ck 16 _ (by omega), cmp_o (by decide) (by decide) (by decide) (by omega) (by omega) (by omega)]
      exact l 16 _ (by decide) (by decide) (by decide) (by decide) (by decide) (by omega) (by decide) (by decide) (by decide) (by decide) (by decide)
    · rw [ck 84 _ (by omega), a4, ck o _ (by omega), cmp_cell hL hK hp' ho (by rw [hsz]; exact ht), l8 84 p (by omega)]
      exact lo_cell hI off hp h2 ho ht
  · rw [v0] at hx
    obtain ⟨b1, b2, b3⟩ := srk_sp (K := K) (k := x) (N 80 0).toNat (by omega)
    exact ⟨_, b1, b3.symm⟩
theorem emb_base (h : ∀ o k : Nat, ¬ (o = 31 ∧ k = 6) → ¬ (o = 72 ∧ k = 10) → W o k = B o k) (E : Emb W V K f) : Emb B V K f := by
  have g : ∀ o k : Nat, o ≠ 31 → o ≠ 72 → W o k = B o k := fun o k a b => h o k (fun z => a z.1) (fun z => b z.1)
  have hs : ∀ p, sizR W 80 p = sizR B 80 p := fun p => by
    show (if W 82 p = 0 then W 74 (W 83 p).toNat + W 75 (W 83 p).toNat else if W 82 p = 6 then 2 * W 83 p else W 83 p) = _
    rw [g 82 p (by decide) (by decide), g 83 p (by decide) (by decide), g 74 _ (by decide) (by decide), g 75 _ (by decide) (by decide)]
    rfl
  have hl : ∀ p, lnkR W 80 p = lnkR B 80 p := fun p => by
    show (if W 82 p = 0 then W 74 (W 83 p).toNat else if W 82 p = 1 then W 83 p else 0) = _
    rw [g 82 p (by decide) (by decide), g 83 p (by decide) (by decide), g 74 _ (by decide) (by decide)]
    rfl
  have g0 := g 80 0 (by decide) (by decide)
  have gd : ∀ k, W 89 k = B 89 k := fun k => g 89 k (by decide) (by decide)
  have gn : ∀ k, W 81 k = B 81 k := fun k => g 81 k (by decide) (by decide)
  have gr : ∀ k, W 87 k = B 87 k := fun k => g 87 k (by decide) (by decide)
  have ga : ∀ k, W 84 k = B 84 k := fun k => g 84 k (by decide) (by decide)
  obtain ⟨e1, e2, e3, e4, e5, e6, e7⟩ := E
  refine ⟨fun p hK => by rw [← g0]; exact e1 p hK, fun p hK => ?_, e3, e4, fun k => ?_, fun q hq ⟨k, h1, h2⟩ => e6 q (by rw [g0]; exact hq) ⟨k, h1, by rw [gd, gn]; exact h2⟩, fun p k q h1 h2 h3 => e7 p k q h1 (by rw [hl]; exact h2) ?_⟩
  · obtain ⟨a1, a2, a3, a4, a5, a6, a7⟩ := e2 p hK
    rw [g 19 _ (by decide) (by decide)] at a2 a6
    rw [gn] at a3
    rw [g 82 _ (by decide) (by decide)] at a4
    rw [g 83 _ (by decide) (by decide)] at a5
    rw [g 16 _ (by decide) (by decide)] at a6
    refine ⟨a1, a2, a3, a4, a5, a6, fun h2 o t ho ht => ?_⟩
    rw [a7 (by rw [g 82 _ (by decide) (by decide)]; exact h2) o t ho (by rw [hs]; exact ht), ga, g o _ (by omega) (by omega)]
  · rw [← g 74 k (by decide) (by decide), ← g 75 k (by decide) (by decide), ← gd k]
    exact e5 k
  · show (q : Int) < W 80 0 ∧ W 81 q = W 87 ((W 84 p).toNat + k)
    rw [g0, gn, ga, gr]
    exact h3
theorem emb_col (hI : Inv i N) (hw : WayOk N w) : Emb N (colW N w) (KW N w) (kc (KW N w)) := by
  have hC := clsW hI hw
  unfold colW
  by_cases h0 : w = 0
  · rw [if_pos h0] at hC ⊢
    exact emb_base (W := offN N) (fun o k a b => by unfold offN; rw [up_ne b, up_ne a]) (emb_colN (inv_off hI) rfl hC)
  · rw [if_neg h0] at hC ⊢
    exact emb_colN hI (hw.2.2 h0) hC
theorem emb_siz (E : Emb B V K f) (hK : K p) : sizR V 80 (f p) = sizR B 80 p ∧ lnkR V 80 (f p) = lnkR B 80 p ∧ wrdR V 80 (f p) = wrdR B 80 p := by
  obtain ⟨-, e2, -, -, e5, -⟩ := E
  obtain ⟨-, -, -, a2, a3, -⟩ := e2 p hK
  have es : sizR V 80 (f p) = sizR B 80 p := by
    show (if V 82 (f p) = 0 then V 74 (V 83 (f p)).toNat + V 75 (V 83 (f p)).toNat else if V 82 (f p) = 6 then 2 * V 83 (f p) else V 83 (f p)) = _
    rw [a2, a3, (e5 _).1, (e5 _).2.1]
    rfl
  refine ⟨es, ?_, ?_⟩
  · show (if V 82 (f p) = 0 then V 74 (V 83 (f p)).toNat else if V 82 (f p) = 1 then V 83 (f p) else 0) = _
    rw [a2, a3, (e5 _).1]
    rfl
  · show 2 + (if V 82 (f p) = 2 then (V 83 (f p) + 3) / 4 else sizR V 80 (f p)) = _
    rw [a2, a3, es]
    rfl
theorem emb_refl (hI : Inv i N) : Emb N N (fun p => (p : Int) < N 80 0) (fun p => p) :=
  ⟨fun _ h => h, fun p h => ⟨h, rfl, rfl, rfl, rfl, rfl, fun _ _ _ _ _ => rfl⟩, fun x h => ⟨x, h, rfl⟩, fun _ _ _ _ h => h, fun _ => ⟨rfl, rfl, rfl⟩, fun _ h _ => h, fun _ _ _ _ _ h => h.1⟩
theorem lnk_form (hk : (k : Int) < lnkR B 80 p) : B 82 p ≤ 2 := by
  have h : (k : Int) < (if B 82 p = 0 then B 74 (B 83 p).toNat else if B 82 p = 1 then B 83 p else 0) := hk
  by_cases h0 : B 82 p = 0
  · omega
  · by_cases h1 : B 82 p = 1
    · omega
    · rw [if_neg h0, if_neg h1] at h
      omega
theorem emb_ed (E : Emb B V K f) (R : RefO B 80) (hK : K p) (hk : (k : Int) < lnkR B 80 p) (hq : K q) : Ed V 80 (f p) k (f q) ↔ Ed B 80 p k q := by
  have hpB := E.1 p hK
  have hqB := E.1 q hq
  have hs := ref_lnk (R.2 p hpB)
  have hs2 := ref_siz (R.2 p hpB)
  obtain ⟨a1, -, a3, -, -, -, a7⟩ := E.2.1 p hK
  obtain ⟨b1, -, b3, -⟩ := E.2.1 q hq
  have h := a7 (lnk_form hk) 87 k (Or.inr rfl) (by omega)
  show ((f q : Int) < V 80 0 ∧ V 81 (f q) = V 87 ((V 84 (f p)).toNat + k)) ↔ ((q : Int) < B 80 0 ∧ B 81 q = B 87 ((B 84 p).toNat + k))
  rw [h, b3]
  exact ⟨fun z => ⟨hqB, z.2⟩, fun z => ⟨b1, z.2⟩⟩
theorem emb_trans (R : RefO B 80) (E : Emb B V K f) (E' : Emb V W K' f') : Emb B W (fun p => K p ∧ K' (f p)) (fun p => f' (f p)) := by
  have hE := E
  obtain ⟨e1, e2, e3, e4, e5, e6, e7⟩ := E
  obtain ⟨g1, g2, g3, g4, g5, g6, g7⟩ := E'
  refine ⟨fun p h => e1 p h.1, fun p h => ?_, fun x hx => ?_, fun p q h1 h2 h3 => e4 p q h1.1 h2.1 (g4 _ _ h1.2 h2.2 h3), fun k => ⟨(g5 k).1.trans (e5 k).1, (g5 k).2.1.trans (e5 k).2.1, (g5 k).2.2.trans (e5 k).2.2⟩, fun q hq ⟨k, h1, h2⟩ => ?_, fun p k q h1 h2 h3 => ?_⟩
  · obtain ⟨a1, a2, a3, a4, a5, a6, a7⟩ := e2 p h.1
    obtain ⟨b1, b2, b3, b4, b5, b6, b7⟩ := g2 (f p) h.2
    rw [a2] at b6
    refine ⟨b1, b2.trans a2, b3.trans a3, b4.trans a4, b5.trans a5, b6.trans a6, fun h2 o t ho ht => ?_⟩
    rw [b7 (by rw [a4]; exact h2) o t ho (by rw [(emb_siz hE h.1).1]; exact ht)]
    exact a7 h2 o t ho ht
  · obtain ⟨z, h1, rfl⟩ := g3 x hx
    obtain ⟨p, h2, rfl⟩ := e3 z (g1 z h1)
    exact ⟨p, ⟨h2, h1⟩, rfl⟩
  · have hK := e6 q hq ⟨k, h1, h2⟩
    obtain ⟨a1, -, a3, -⟩ := e2 q hK
    exact ⟨hK, g6 (f q) a1 ⟨k, h1, by rw [(e5 k).2.2, a3]; exact h2⟩⟩
  · have hK := e7 p k q h1.1 h2 h3
    exact ⟨hK, g7 (f p) k (f q) h1.2 (by rw [(emb_siz hE h1.1).2.1]; exact h2) ((emb_ed hE R h1.1 h2 hK).mpr h3)⟩
theorem emb_rs {c : Int} (h : RmI j c N) (hc : 1 ≤ c) (ho : RmO N x) (hw : 1 ≤ w ∧ w ≤ 3) : ∃ K f, Emb N (rsN N x w) K f := by
  by_cases hr : RoomN N x
  · rw [rs_t hr]
    exact ⟨_, _, emb_refl h.1⟩
  · rw [rs_f hr]
    exact ⟨_, _, emb_col h.1 ⟨by omega, fun e => by omega, fun _ => ho.resolve_left hr⟩⟩
/-- a search for room leaves them -/
theorem emb_rm (h : RmI j 4 N) : ∃ K f, Emb N (rmN N x) K f := by
  have i0 := rm0_inv (x := x) h (by decide)
  have i1 := rs_inv (w := 1) i0.1 (by decide) i0.2 (by decide)
  have i2 := rs_inv (w := 2) i1.1 (by decide) i1.2 (by decide)
  have z0 : ∃ K f, Emb N (rmZ N x) K f := by
    by_cases hr : RoomN N x ∨ N 72 10 ≠ 1
    · have e : rmZ N x = N := cnd_t hr
      rw [e]
      exact ⟨_, _, emb_refl h.1⟩
    · have e : rmZ N x = colW N 0 := cnd_f hr
      rw [e]
      exact ⟨_, _, emb_col h.1 ⟨by decide, fun _ => Classical.byContradiction (fun z => hr (Or.inr z)), fun z => absurd rfl z⟩⟩
  obtain ⟨K0, f0, E0⟩ := z0
  obtain ⟨K1, f1, E1⟩ := emb_rs (w := 1) i0.1 (by decide) i0.2 (by decide)
  obtain ⟨K2, f2, E2⟩ := emb_rs (w := 2) i1.1 (by decide) i1.2 (by decide)
  obtain ⟨K3, f3, E3⟩ := emb_rs (w := 3) i2.1 (by decide) i2.2 (by decide)
  have R := rep_ref (inv_rep h.1)
  exact ⟨_, _, emb_trans R (emb_trans R (emb_trans R E0 E1) E2) E3⟩
/-! the NET in both -/
theorem nt_self : Nt B p0 p0 := fun _ h _ => h
theorem nt_lt (h0 : (p0 : Int) < B 80 0) (h : Nt B p0 p) : (p : Int) < B 80 0 := h (fun q => (q : Int) < B 80 0) h0 (fun _ _ _ _ _ _ he _ => he.1)
theorem nt_form (h0 : B 82 p0 ≤ 2) (h : Nt B p0 p) : B 82 p ≤ 2 := h (fun q => B 82 q ≤ 2) h0 (fun _ _ _ _ _ _ _ h2 => h2)
theorem nt_step (h0 : (p0 : Int) < B 80 0) (h : Nt B p0 p) (hk : (k : Int) < lnkR B 80 p) (he : Ed B 80 p k q) (h2 : B 82 q ≤ 2) : Nt B p0 q := fun T t0 ts => ts p k q (nt_lt h0 h) (h T t0 ts) hk he h2
theorem nt_to (E : Emb B V K f) (R : RefO B 80) (h0 : K p0) (h : Nt B p0 p) : K p ∧ Nt V (f p0) (f p) := by
  refine h (fun q => K q ∧ Nt V (f p0) (f q)) ⟨h0, nt_self⟩ (fun a k q ha ht hk he h2 => ?_)
  have hq := E.2.2.2.2.2.2 a k q ht.1 hk he
  refine ⟨hq, nt_step (E.2.1 p0 h0).1 ht.2 (by rw [(emb_siz E ht.1).2.1]; exact hk) ((emb_ed E R ht.1 hk hq).mpr he) ?_⟩
  rw [(E.2.1 q hq).2.2.2.1]
  exact h2
theorem nt_of (E : Emb B V K f) (R : RefO B 80) (h0 : K p0) {z : Nat} (h : Nt V (f p0) z) : ∃ p, K p ∧ z = f p ∧ Nt B p0 p := by
  refine h (fun z => ∃ p, K p ∧ z = f p ∧ Nt B p0 p) ⟨p0, h0, rfl, nt_self⟩ (fun a k q ha ht hk he h2 => ?_)
  obtain ⟨p, h3, rfl, h5⟩ := ht
  obtain ⟨r, h6, rfl⟩ := E.2.2.1 q he.1
  rw [(emb_siz E h3).2.1] at hk
  have he' := (emb_ed E R h3 hk h6).mp he
  rw [(E.2.1 r h6).2.2.2.1] at h2
  exact ⟨r, h6, rfl, nt_step (E.1 p0 h0) h5 hk he' h2⟩
theorem nt_iff (E : Emb B V K f) (R : RefO B 80) (h0 : K p0) (hK : K p) : Nt V (f p0) (f p) ↔ Nt B p0 p := by
  refine ⟨fun h => ?_, fun h => (nt_to E R h0 h).2⟩
  obtain ⟨r, h1, h2, h3⟩ := nt_of E R h0 h
  rw [E.2.2.2.1 p r hK h1 h2]
  exact h3
/-- the cells of the NET are the same -/
theorem nt_cells (E : Emb B V K f) (R : RefO B 80) (h0 : K p0) (c : Int) : (∃ s, Nt V (f p0) s ∧ V 19 s = c) ↔ (∃ s, Nt B p0 s ∧ B 19 s = c) := by
  constructor
  · rintro ⟨s, h1, h2⟩
    obtain ⟨r, h3, rfl, h4⟩ := nt_of E R h0 h1
    exact ⟨r, h4, by rw [← (E.2.1 r h3).2.1]; exact h2⟩
  · rintro ⟨s, h1, h2⟩
    obtain ⟨h3, h4⟩ := nt_to E R h0 h1
    exact ⟨f s, h4, by rw [(E.2.1 s h3).2.1]; exact h2⟩
/-- .. and what they take -/
theorem wt_emb (E : Emb B V K f) (R : RefO B 80) (h0 : K p0) : wtN V (f p0) = wtN B p0 := by
  have hg : ∀ s : Nat, ∃ r : Nat, (s : Int) < V 80 0 → K r ∧ s = f r := fun s => by
    by_cases h : (s : Int) < V 80 0
    · obtain ⟨r, h1, h2⟩ := E.2.2.1 s h
      exact ⟨r, fun _ => ⟨h1, h2⟩⟩
    · exact ⟨0, fun h2 => absurd h2 h⟩
  obtain ⟨g, hg⟩ := Classical.axiomOfChoice hg
  unfold wtN
  rw [← sum_perm (B 80 0).toNat (V 80 0).toNat g (fun s => cnd (Nt B p0 s ∧ B 16 (B 19 s).toNat = 0) (wrdR B 80 s) 0) (fun k hk => ?_) (fun j k hj hk he => ?_) (fun p hp hn => ?_)]
  · refine sum_congr _ (fun s hs => ?_)
    obtain ⟨h1, h2⟩ := hg s (by omega)
    show cnd (Nt V (f p0) s ∧ V 16 (V 19 s).toNat = 0) (wrdR V 80 s) 0 = cnd (Nt B p0 (g s) ∧ B 16 (B 19 (g s)).toNat = 0) (wrdR B 80 (g s)) 0
    generalize g s = r at h1 h2
    subst h2
    have e2 := E.2.1 r h1
    rw [e2.2.1, e2.2.2.2.2.2.1, (emb_siz E h1).2.2]
    by_cases hc : Nt B p0 r ∧ B 16 (B 19 r).toNat = 0
    · rw [cnd_t hc, cnd_t ⟨(nt_iff E R h0 h1).mpr hc.1, hc.2⟩]
    · rw [cnd_f hc, cnd_f (fun z => hc ⟨(nt_iff E R h0 h1).mp z.1, z.2⟩)]
  · have := E.1 _ (hg k (by omega)).1
    omega
  · have h1 := (hg j (by omega)).2
    have h2 := (hg k (by omega)).2
    rw [he, ← h2] at h1
    omega
  · refine cnd_f (fun z => ?_)
    obtain ⟨h3, -⟩ := nt_to E R h0 z.1
    have h4 := (E.2.1 p h3).1
    refine hn (f p) (by omega) ?_
    obtain ⟨h5, h6⟩ := hg (f p) h4
    exact (E.2.2.2.1 p _ h3 h5 h6).symm
end EmbS
