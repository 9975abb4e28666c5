/-! ===== no Thing gets a new place in the machine; mark 8 stays ===== -/
def Kp8 (N D D1 : Mem) (c : SC) : Prop := (∀ q, tg c D1 q = tg c D q) ∧ ∀ q : Nat, (q : Int) < N 80 0 → (BS D1 c 8 q ↔ BS D c 8 q)
def Kpt (N D : Mem) (c : SC) (N1 D1 : Mem) : Prop := ∀ p1 : Nat, (p1 : Int) < N1 80 0 → ∃ p : Nat, (p : Int) < N 80 0 ∧ tg c D1 p1 = tg c D p ∧ N1 81 p1 = N 81 p ∧ (BS D1 c 8 p1 ↔ BS D c 8 p)
section KptS
variable {S : Sh} {D D1 D2 N N' N1 N2 : Mem} {c : SC}
theorem kp8_rf : Kp8 N D D c := ⟨fun _ => rfl, fun _ _ => Iff.rfl⟩
theorem kp8_tr (h : Kp8 N D D1 c) (g : Kp8 N D1 D2 c) : Kp8 N D D2 c := ⟨fun q => (g.1 q).trans (h.1 q), fun q hq => (g.2 q hq).trans (h.2 q hq)⟩
theorem kp8_b (e : N' 80 0 = N 80 0) (h : Kp8 N D D1 c) : Kp8 N' D D1 c := ⟨h.1, fun q hq => h.2 q (by rw [← e]; exact hq)⟩
theorem kp8_add {b : Int} {R : Nat → Prop} (hL : SrL S D c) (h : AddM N' S D D1 c b R) (hb : (8 : Int) ≠ b) (e : N' 80 0 = N 80 0) : Kp8 N D D1 c := ⟨fun q => nm_tg hL h.1 q, fun q hq => by
  rw [h.2.2 q (by rw [e]; exact hq) 8 bit8]
  exact ⟨fun z => z.elim id (fun y => absurd y.1 hb), Or.inl⟩⟩
theorem kp8_wip {w : Int} (hL : SrL S D c) (h : WipM N S D D1 c w) (hb : ¬ inB w 8) : Kp8 N D D1 c := ⟨fun q => nm_tg hL h.1 q, fun q hq => by
  rw [h.2.2 q hq 8 bit8]
  exact ⟨fun z => z.1, fun z => ⟨z, hb⟩⟩⟩
theorem kp8_up {a j : Nat} {v : Int} (h : a ≠ s_al c) (hj : j ≠ 21) : Kp8 N D (up D a j v) c := by
  have et : ∀ q, tg c (up D a j v) q = tg c D q := fun q => by
    show (up D a j v (s_al c) q).toNat = (D (s_al c) q).toNat
    rw [up_ad (Ne.symm h)]
  refine ⟨et, fun q _ => ?_⟩
  unfold BS
  rw [et]
  unfold up
  rw [if_neg (fun z => hj z.2.symm)]
theorem kpt_of8 (e0 : N1 80 0 = N 80 0) (e81 : ∀ p, N1 81 p = N 81 p) (h : Kp8 N D D1 c) : Kpt N D c N1 D1 := fun p1 h1 => ⟨p1, by rw [← e0]; exact h1, h.1 p1, e81 p1, h.2 p1 (by rw [← e0]; exact h1)⟩
theorem kpt_tr (h : Kpt N D c N1 D1) (g : Kpt N1 D1 c N2 D2) : Kpt N D c N2 D2 := by
  intro p2 h2
  obtain ⟨p1, a1, a2, a3, a4⟩ := g p2 h2
  obtain ⟨p, b1, b2, b3, b4⟩ := h p1 a1
  exact ⟨p, b1, a2.trans b2, a3.trans b3, a4.trans b4⟩
theorem kpt_rf : Kpt N D c N D := kpt_of8 rfl (fun _ => rfl) kp8_rf
theorem kpt_8 (h : Kp8 N D D1 c) (g : Kpt N D1 c N2 D2) : Kpt N D c N2 D2 := kpt_tr (kpt_of8 rfl (fun _ => rfl) h) g
/-- the ghost before may be exchanged -/
theorem kpt_b (e0 : N' 80 0 = N 80 0) (e81 : ∀ p, N' 81 p = N 81 p) (h : Kpt N' D c N1 D1) : Kpt N D c N1 D1 := by
  intro p1 h1
  obtain ⟨p, a1, a2, a3, a4⟩ := h p1 h1
  exact ⟨p, by rw [← e0]; exact a1, a2, a3.trans (e81 p), a4⟩
end KptS
