/-! ===== the reference's walks ===== -/
section Far
variable {B : WB} {l : Launch} {X : va_W} {M M' : Mem} {Q : Int → Mem → Prop} {QN : Nat → Mem → Prop} {QV : Mem → Prop} {o : Nat} {lf : Int} {i : Nat} {x : Int}
/-- nothing but marks, rank and what waits -/
def Ffr (M' M : Mem) : Prop := ∀ o k, ¬ (o = 80 ∧ k = 25) → o ≠ 93 → o ≠ 95 → o ≠ 96 → M' o k = M o k
theorem Ffr.trans {M'' : Mem} (g : Ffr M'' M') (g' : Ffr M' M) : Ffr M'' M := fun o k a b c d => (g o k a b c d).trans (g' o k a b c d)
theorem Ffr.rel (g : Ffr M' M) : Agr rel M' M := by
  intro o k hr
  refine g o k ?_ ?_ ?_ ?_
  · rintro ⟨rfl, rfl⟩; exact absurd (show false = true from hr) (by decide)
  · rintro rfl; exact absurd (show false = true from hr) (by decide)
  · rintro rfl; exact absurd (show false = true from hr) (by decide)
  · rintro rfl; exact absurd (show false = true from hr) (by decide)
theorem fdL_6 (R : RefO M 80) {x : Int} : fdL M 6 x = fd M 80 x := by
  cases h : fd M 80 x with
  | none => exact fdL_none h
  | some q =>
    rw [fdL_some h]
    have hq := (fd_some R.1).mp h
    have h2 : M 82 q ≤ 6 := (R.2 q hq.1).2.1.2
    rw [if_pos h2]
/-- ranks: how far, with one more -/
def FaR (M : Mem) (L : List (Nat × Int)) (M1 : Mem) : Prop := Ffr M1 M ∧ (∀ (k : Nat) (e : Nat × Int), L[k]? = some e → M1 95 k = e.1 ∧ M1 96 e.1 = e.2 + 1) ∧ (∀ p : Nat, (p : Int) < M 80 0 → ¬ p ∈ L.map Prod.fst → M1 96 p = 0) ∧ NdL (M 80 0) L
theorem fa_add {M1 : Mem} {L : List (Nat × Int)} {q : Nat} {d : Int} (w : FaR M L M1) (hq : (q : Int) < M 80 0) (hnot : ¬ q ∈ L.map Prod.fst) (hd : 0 ≤ d ∧ d ≤ L.length) : FaR M (ad1 L d q) (up (up M1 96 q (d + 1)) 95 L.length q) := by
  obtain ⟨w1, w2, w3, w4⟩ := w
  have el : ad1 L d q = L ++ [(q, d)] := if_neg hnot
  refine ⟨fun o k a b c e => ?_, fun k e hk => ?_, fun p hp hn => ?_, nd_ad1 w4 hq hd⟩
  · rw [up_o c, up_o e]
    exact w1 o k a b c e
  · rw [el] at hk
    rcases app_get hk with g | ⟨g1, g2⟩
    · have h1 := w2 k e g
      have hlt := get_lt g
      have hne : e.1 ≠ q := fun z => hnot (nd_mem.mpr ⟨k, e, g, z⟩)
      exact ⟨by rw [up_k (by omega), up_o (by decide)]; exact h1.1, by rw [up_o (by decide), up_k hne]; exact h1.2⟩
    · rw [g2, g1]
      exact ⟨up_s _ _ _ _, by rw [up_o (by decide)]; exact up_s _ _ _ _⟩
  · have h1 : p ≠ q := fun z => hn (by rw [el, z]; simp)
    have h2 : ¬ p ∈ L.map Prod.fst := fun z => hn (by rw [el, List.map_append]; exact List.mem_append_left _ z)
    rw [up_o (by decide), up_k h1]
    exact w3 p hp h2
theorem fa_pos {M1 : Mem} {L : List (Nat × Int)} (w : FaR M L M1) {q : Nat} (hq : (q : Int) < M 80 0) : (0 < M1 96 q ↔ q ∈ L.map Prod.fst) := by
  obtain ⟨w1, w2, w3, w4⟩ := w
  constructor
  · intro h
    rcases Classical.em (q ∈ L.map Prod.fst) with z | z
    · exact z
    · rw [w3 q hq z] at h; omega
  · intro h
    obtain ⟨k, e, h1, h2⟩ := nd_mem.mp h
    have := (w2 k e h1).2
    rw [h2] at this
    have := (w4.1 k e h1).2.1
    omega
/-- how far: a step's count, or none -/
theorem cs_findNear (hl : l.stackTraces = false) (hI : Inv i M) (hq : ∀ M', WkC M 62 (bfs M 6 209 (prL (sc (-1) [] (rtL M 80))) 0) M' → QV M') : OkV B l md_X9_findNear 0 0 [.ref (ad B 58)] X M QV NoX := by
  have h62 : isSc 62 := Or.inr (Or.inr (Or.inr (Or.inr (Or.inr (Or.inl rfl)))))
  have c62 := sc_cs h62
  have hS := (hI.sc.1 62 c62).1
  refine ok_X9_findNear hl (fun G hG => go_X9_findNear_0 hG (cs_makeEmpty c62 (Ct_fl hG) hS (fun M1 s1 f1 z1 n1 => ?_)))
  have I1 := inv_fo h62 hI f1 s1
  have g1 := fo_rel h62 f1
  refine cs_addTo (N := M) (b := -1) c62 (Ct_fl hG) (agc_rel g1) hI.fr hI.li hI.ob s1 z1 (Or.inl ⟨by rw [f1.barred]; exact (hI.sc.1 62 c62).2.resolve_left (by decide), rfl⟩) (fun M2 g2 l2 => ?_)
  have f2 : Fo 62 M2 M := g2.2.1.trans f1
  have I2 := inv_fo h62 hI f2 g2.1
  have r2 := fo_rel h62 f2
  have l2' : Lst M2 62 (sc (-1) [] (rtL M 80)) M2 := ⟨l2.1, fun k q hk => by rw [r2 19 q rfl]; exact l2.2.1 k q hk, fun q hq' => by rw [r2 80 0 rfl]; exact l2.2.2 q hq'⟩
  have hfd : ∀ x, fd M2 80 x = fd M 80 x := fun x => fd_congr (r2 80 0 rfl) (fun k => r2 81 k rfl)
  have hsu : ∀ p n, sucL M2 6 p n = sucL M 6 p n := by
    intro p n
    unfold sucL fdL
    rw [r2 84 p rfl]
    simp only [hfd, fun k => r2 87 k rfl, fun k => r2 82 k rfl]
  have hlk : ∀ p, lnkR M2 80 p = lnkR M 80 p := by
    intro p
    show (if M2 82 p = 0 then M2 74 (M2 83 p).toNat else if M2 82 p = 1 then M2 83 p else 0) = (if M 82 p = 0 then M 74 (M 83 p).toNat else if M 82 p = 1 then M 83 p else 0)
    rw [r2 82 p rfl, r2 83 p rfl, r2 74 _ rfl]
  have hb : ∀ (f : Nat) (L : List (Nat × Int)) (t : Nat), bfs M2 6 f L t = bfs M 6 f L t := by
    intro f
    induction f with
    | zero => intro L t; rfl
    | succ f ih =>
      intro L t
      cases he : L[t]? with
      | none => rw [bfs_none he, bfs_none he]
      | some e => rw [bfs_some he, bfs_some he, hsu, hlk, ih]
  refine cs_walk h62 (by decide) (Ct_fl hG) I2 ⟨by decide, by decide⟩ l2' (fun M3 w3 => hq M3 ?_)
  obtain ⟨w1, w2, w4, w5, w6⟩ := w3
  rw [hb] at w4 w5 w6
  refine ⟨w1, fun o k a b c d => (w2 o k a b c d).trans (f2 o k a b c), w4, fun k e hk => ?_, by rw [← r2 80 0 rfl]; exact w6⟩
  have := w5 k e hk
  rw [r2 19 _ rfl] at this
  exact this
end Far
/-- what far counted -/
def FaV (M : Mem) (L : List (Nat × Int)) (M1 : Mem) : Prop := (∀ (k : Nat) (e : Nat × Int), L[k]? = some e → M1 96 e.1 = e.2 + 1) ∧ (∀ p : Nat, (p : Int) < M 80 0 → ¬ p ∈ L.map Prod.fst → M1 96 p = 0)
