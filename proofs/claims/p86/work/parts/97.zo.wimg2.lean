/-! ===== writeImage, the reference ===== -/
section Wimr
variable {B : WB} {l : Launch} {X : va_W} {M M' M1 V D : Mem} {Q : Int → Mem → Prop} {QV : Mem → Prop} {E : String → Mem → Prop} {i qo : Nat} {R : Nat → Int} {L : List (Nat × Int)} {Z : List Int} {x a : Int}
/-- the reference's image alone has changed -/
def Fr7 (M2 M1 : Mem) : Prop := ∀ o k, o ≠ 77 → ¬ (o = 72 ∧ k = 9) → M2 o k = M1 o k
theorem Fr7.trans {M2 : Mem} (g : Fr7 M2 M1) (g' : Fr7 M1 M) : Fr7 M2 M := fun o k a b => (g o k a b).trans (g' o k a b)
/-- the reference's objects, and kinds, are as in M -/
def FdR (D M : Mem) : Prop := ∀ o k, (o = 80 ∧ k ≤ 8) ∨ (81 ≤ o ∧ o ≤ 91) ∨ (73 ≤ o ∧ o ≤ 76) ∨ (o = 72 ∧ k = 1) → D o k = M o k
theorem fd_refo (hI : Inv i M) (f : FdR D M) : RefO D 80 := refo_congr (f 80 0 (by omega)) (fun k => f 81 k (by omega)) (fun k => f 82 k (by omega)) (fun k => f 83 k (by omega)) (fun k => f 84 k (by omega)) (fun k => f 74 k (by omega)) (fun k => f 75 k (by omega)) (rep_ref (inv_rep hI))
theorem fd_siz (f : FdR D M) (p : Nat) : sizR D 80 p = sizR M 80 p ∧ lnkR D 80 p = lnkR M 80 p := by
  have e82 : D 82 p = M 82 p := f 82 p (by omega)
  have e83 : D 83 p = M 83 p := f 83 p (by omega)
  have e74 : ∀ k, D 74 k = M 74 k := fun k => f 74 k (by omega)
  have e75 : ∀ k, D 75 k = M 75 k := fun k => f 75 k (by omega)
  refine ⟨?_, ?_⟩
  · show (if D 82 p = 0 then D 74 (D 83 p).toNat + D 75 (D 83 p).toNat else if D 82 p = 6 then 2 * D 83 p else D 83 p) = (if M 82 p = 0 then M 74 (M 83 p).toNat + M 75 (M 83 p).toNat else if M 82 p = 6 then 2 * M 83 p else M 83 p)
    rw [e82, e83, e74, e75]
  · show (if D 82 p = 0 then D 74 (D 83 p).toNat else if D 82 p = 1 then D 83 p else 0) = (if M 82 p = 0 then M 74 (M 83 p).toNat else if M 82 p = 1 then M 83 p else 0)
    rw [e82, e83, e74]
/-- a number more, at the end -/
theorem imz_appR {o a b : Nat} (hne : o ≠ a) (h : ImZ o a b Z M1) {v w : Int} (hv : v = x) (hw : w = (Z.length : Int) + 1) {j : Nat} (hj : j = Z.length) : ImZ o a b (Z ++ [x]) (up (up M1 o j v) a b w) := by
  subst hv hw hj
  exact imz_app hne h
theorem cs_needNetOf_ok (hl : l.stackTraces = false) (hI : Inv i M) (hg : 0 ≤ a ∧ a < wd M) {p : Nat} (hp : (p : Int) < M 80 0) (e22 : M 22 (sx M a) = M 19 p) (h2 : M 82 p ≤ 2) (hq : Q (M 19 p) M) : OkI B l md_X11_needNetOf 0 0 [.ref (ad B 0), .int (I a)] X M Q NoX := by
  have hf := hI.fr.fs
  have hw := hf.wd
  have hc := hI.ob.2.2.2.1 p (by have := hI.ob.1; omega)
  have o2 := (hI.ob.2.2.2.2.2.1 p hp).2.1
  have o5 := ob_what hI hp
  refine ok_X11_needNetOf hl (fun G h1 => go_X11_needNetOf_0 h1 (cs_heldBy (Ct_fl h1) hf (by omega) ?_))
  rw [e22]
  refine fun z => ⟨z, ⟨by decide, by decide⟩, fun h => absurd h (by omega), fun _ => ⟨hc, fun z2 => ⟨z2, inR2, fun _ => ⟨z, hq⟩, fun h => ?_⟩⟩⟩
  rw [o2] at h
  omega
theorem cs_needNetOf_bad (hl : l.stackTraces = false) (hI : Inv i M) (hg : 0 ≤ a ∧ a < wd M) (h : M 22 (sx M a) = -1 ∨ ∃ p : Nat, (p : Int) < M 80 0 ∧ M 22 (sx M a) = M 19 p ∧ 2 < M 82 p) (hq : E "java/lang/IllegalArgumentException" M) : OkI B l md_X11_needNetOf 1 6 [.ref (ad B 0), .int (I a)] X M (fun _ _ => False) E := by
  have hf := hI.fr.fs
  have hw := hf.wd
  refine ok_X11_needNetOf hl (fun G h1 => go_X11_needNetOf_0 h1 (cs_heldBy (Ct_fl h1) hf (by omega) ?_))
  rcases h with h | ⟨p, hp, h, h3⟩
  · rw [h]
    exact fun z => ⟨z, ⟨by decide, by decide⟩, fun _ => ⟨⟨by omega, by omega⟩, hq⟩, fun hne => absurd rfl hne⟩
  · have hc := hI.ob.2.2.2.1 p (by have := hI.ob.1; omega)
    have o2 := (hI.ob.2.2.2.2.2.1 p hp).2.1
    rw [h]
    refine fun z => ⟨z, ⟨by decide, by decide⟩, fun h => absurd h (by omega), fun _ => ⟨hc, fun z2 => ⟨z2, inR2, fun hle => ?_, fun _ => ⟨⟨by omega, by omega⟩, hq⟩⟩⟩⟩
    rw [o2] at hle
    omega
/-- ranks of the reference -/
theorem rk_ref {L : List (Nat × Int)} (hk : RkL M L R) (w : NeR V L D) (e0 : V 80 0 = M 80 0) (hn : M 80 0 ≤ 208) : ∀ q : Nat, (q : Int) < M 80 0 → D 96 q = R q ∧ 0 ≤ R q ∧ R q ≤ 208 := by
  intro q hq
  have hl2 : NdL ((M 80 0).toNat : Int) L := by rw [show ((M 80 0).toNat : Int) = M 80 0 by omega, ← e0]; exact w.2.2.2
  have hlen := nd_len hl2
  by_cases hin : q ∈ L.map Prod.fst
  · obtain ⟨k, e, h1, h2⟩ := nd_mem.mp hin
    have h3 := hk.1 k e h1
    have h4 := (w.2.1 k e h1).2
    have h5 := get_lt h1
    rw [h2] at h3 h4
    omega
  · have h3 := hk.2 q hq hin
    have h4 := w.2.2.1 q (by rw [e0]; exact hq) hin
    omega
theorem bfs_pos {L : List (Nat × Int)} {lf : Int} {f t : Nat} {e : Nat × Int} (h : L[t]? = some e) : 0 < (bfs M lf f L 0).length := by
  have key : ∀ (f : Nat) (L : List (Nat × Int)) (t : Nat), 0 < L.length → 0 < (bfs M lf f L t).length := by
    intro f
    induction f with
    | zero => intro L t hL; exact hL
    | succ f ih =>
      intro L t hL
      cases he : L[t]? with
      | none => rw [bfs_none he]; exact hL
      | some e2 =>
        rw [bfs_some he]
        refine ih _ _ ?_
        have h0 : L[0]? = some (L[0]'hL) := List.getElem?_eq_getElem hL
        exact Nat.lt_of_le_of_lt (Nat.zero_le _) (get_lt (adA_get (d := e2.2 + 1) (sucL M lf e2.1 (lnkR M 80 e2.1).toNat) L h0))
  exact key f L 0 (Nat.lt_of_le_of_lt (Nat.zero_le _) (get_lt h))
/-- both images are written -/
theorem inv_wimg {W M2 : Mem} (hI : Inv i W) (f : ∀ o k, o ≠ 52 → ¬ (o = 51 ∧ k = 5) → o ≠ 56 → o ≠ 77 → ¬ (o = 72 ∧ k = 9) → ¬ (o = 72 ∧ k = 0) → o ≠ 95 → o ≠ 96 → M2 o k = W o k) (h : IvIm M2) : Inv i M2 := by
  have g : ∀ r : Nat → Nat → Bool, (∀ k, r 52 k = false) → r 51 5 = false → (∀ k, r 56 k = false) → (∀ k, r 77 k = false) → r 72 9 = false → r 72 0 = false → (∀ k, r 95 k = false) → (∀ k, r 96 k = false) → Agr r M2 W := by
    intro r h1 h2 h3 h4 h5 h6 h7 h8 o k hr
    refine f o k ?_ ?_ ?_ ?_ ?_ ?_ ?_ ?_
    · rintro rfl; rw [h1] at hr; cases hr
    · rintro ⟨rfl, rfl⟩; rw [h2] at hr; cases hr
    · rintro rfl; rw [h3] at hr; cases hr
    · rintro rfl; rw [h4] at hr; cases hr
    · rintro ⟨rfl, rfl⟩; rw [h5] at hr; cases hr
    · rintro ⟨rfl, rfl⟩; rw [h6] at hr; cases hr
    · rintro rfl; rw [h7] at hr; cases hr
    · rintro rfl; rw [h8] at hr; cases hr
  have z : ∀ {p : Nat → Nat → Bool} {o : Nat}, (∀ k, p o k = false) → ∀ k, p o k = false := fun h => h
  exact ⟨⟨fr_same (g rFr (fun _ => rfl) rfl (fun _ => rfl) (fun _ => rfl) rfl rfl (fun _ => rfl) (fun _ => rfl)) hI.fr, li_same (g rLi (fun _ => rfl) rfl (fun _ => rfl) (fun _ => rfl) rfl rfl (fun _ => rfl) (fun _ => rfl)) hI.li, kd_same (g rKd (fun _ => rfl) rfl (fun _ => rfl) (fun _ => rfl) rfl rfl (fun _ => rfl) (fun _ => rfl)) hI.kd, ob_same (g rOb (fun _ => rfl) rfl (fun _ => rfl) (fun _ => rfl) rfl rfl (fun _ => rfl) (fun _ => rfl)) hI.ob, h, co_same (g rCo (fun _ => rfl) rfl (fun _ => rfl) (fun _ => rfl) rfl rfl (fun _ => rfl) (fun _ => rfl)) hI.co, mk_same (g rMk (fun _ => rfl) rfl (fun _ => rfl) (fun _ => rfl) rfl rfl (fun _ => rfl) (fun _ => rfl)) hI.mk⟩, sc_agr (g rSc (fun _ => rfl) rfl (fun _ => rfl) (fun _ => rfl) rfl rfl (fun _ => rfl) (fun _ => rfl)) hI.sc⟩
end Wimr
