section Cells2
variable {B : WB} {l : Launch} {X : va_W} {M M' : Mem} {Q : Int → Mem → Prop} {E : String → Mem → Prop} {i qo p : Nat} {x y : Int}
theorem cs_isInterned (hl : l.stackTraces = false) (ha : inR x) (hf : Fs M) (R : RepC M 80 18) (hg : 0 ≤ x ∧ x < wd M) (hp : (p : Int) < M 80 0) (ec : M 22 (sx M x) = M 19 p) (h0 : M 16 (M 19 p).toNat = 0 → Q 0 M) (h1 : M 16 (M 19 p).toNat ≠ 0 → Q 1 M) : OkI B l md_X11_isInterned 0 0 [.ref (ad B 0), .int (I x)] X M Q NoX := by
  have hw := hf.wd
  have hc := R.2.1 p (by have := R.1; omega)
  refine ok_X11_isInterned hl (fun G hG => go_X11_isInterned_0 hG (Or.inl (cs_needSlot_ok (Ct_fl hG) ha hf hg (cs_heldBy (Ct_fl hG) hf (by omega) (fun z => ⟨z, ⟨by decide, by decide⟩, fun he => absurd he (by omega), fun _ => ?_⟩)))))
  rw [ec]
  exact ⟨hc, fun z2 => ⟨z2, fun e => ⟨Or.inl rfl, h0 e⟩, fun e => ⟨Or.inr rfl, h1 e⟩⟩⟩
/-- entries: the first with a key -/
theorem cs_entryWith (hl : l.stackTraces = false) (R : RepC M 80 18) (hp : (p : Int) < M 80 0) (h6 : M 82 p = 6) (hx : inR x) (h1 : ∀ k : Nat, (k : Int) < M 83 p → M 18 ((M 84 p).toNat + 2 * k) = x → (∀ j : Nat, j < k → M 18 ((M 84 p).toNat + 2 * j) ≠ x) → Q (M 84 p + 2 * k) M) (h2 : (∀ k : Nat, (k : Int) < M 83 p → M 18 ((M 84 p).toNat + 2 * k) ≠ x) → Q (-1) M) : OkI B l md_X10_entryWith 0 0 [.ref (ad B 6), .int (I (M 19 p)), .int (I x)] X M Q NoX := by
  have hc := R.2.1 p (by have := R.1; omega)
  obtain ⟨f1, f2, f3, f4, f5⟩ := R.2.2.2.2.2 p hp
  have htb := rep_tab R hp h6
  have hat : 0 ≤ M 84 p ∧ M 84 p + sizR M 80 p ≤ 1664 := f4.1
  have es : sizR M 80 p = 2 * M 83 p := htb.2.1
  have e10 : M 10 (M 19 p).toNat = M 83 p := htb.2.2.1
  have e12 : M 12 (M 19 p).toNat = M 84 p := f3
  have hwb : 1 ≤ M 83 p ∧ M 83 p ≤ 16 := htb.2.2.2
  refine ok_X10_entryWith hl (fun G hG => ?_)
  have loop : ∀ (r k : Nat), (k : Int) + r = M 83 p → (∀ j : Nat, j < k → M 18 ((M 84 p).toNat + 2 * j) ≠ x) → L_X10_entryWith_2 G X (M 19 p) x (k : Int) M := by
    intro r
    induction r with
    | zero =>
      intro k hk hno
      refine go_X10_entryWith_2 hG ⟨hc, fun z => ?_⟩
      rw [e10]
      exact ⟨⟨by omega, by omega⟩, ⟨by omega, by omega⟩, fun _ => ⟨⟨by decide, by decide⟩, h2 (fun j hj => hno j (by omega))⟩, fun hlt => absurd hlt (by omega)⟩
    | succ r ih =>
      intro k hk hno
      have ej : (M 84 p + 2 * (k : Int)).toNat = (M 84 p).toNat + 2 * k := by omega
      refine go_X10_entryWith_2 hG ⟨hc, fun z => ?_⟩
      rw [e10, e12, ej]
      refine ⟨⟨by omega, by omega⟩, ⟨by omega, by omega⟩, fun hle => absurd hle (by omega), fun _ => ⟨hc, fun z2 => ⟨⟨by omega, by omega⟩, fun z3 => ⟨z3, hx, fun hne => ih (k + 1) (by omega) (fun j hj => ?_), fun he => ⟨⟨by omega, by omega⟩, h1 k (by omega) he hno⟩⟩⟩⟩⟩
      by_cases hjk : j = k
      · rw [hjk]; exact hne
      · exact hno j (by omega)
  exact go_X10_entryWith_0 hG (loop (M 83 p).toNat 0 (by omega) (fun j hj => absurd hj (by omega)))
/-- what is kept refers to such alone: of a TABLE, the values whose keys are kept -/
theorem gd_value (hI : Inv i M) (hon : M 72 10 = 1) {p k a b : Nat} (hp : (p : Int) < M 80 0) (hgd : Gd M p) (h6 : M 82 p = 6) (hk : (k : Int) < M 83 p) (he : Ed M 80 p (2 * k) a) (ha : Gd M a) (he2 : Ed M 80 p (2 * k + 1) b) : Gd M b := by
  obtain ⟨n1, n2, n3, n4⟩ := hI.mk.2.2.2 hon
  rcases n4.2.1 p k a hp hgd h6 hk he with ⟨-, h2⟩ | ⟨v1, v2, v3⟩
  · exact h2 b he2
  · have hkp : Kp M p := by
      rcases hgd with h | h
      · omega
      · exact h
    have N := ob_num hI.ob
    have P := inv_pic hI hon
    obtain ⟨q1, q2, q3, q4⟩ := pic_eq n1 v1
    obtain ⟨e1, e2, e3, e4⟩ := n1.2.2.2.2.1 p v1
    have hs : holR M 80 p = 2 * M 83 p := (ref_tab ((rep_ref (inv_rep hI)).2 p hp) h6).1
    have ed97 : ∀ (j c : Nat), (j : Int) < holR M 80 p → Ed M 80 p j c → M 87 ((M 84 p).toNat + j) = M 104 ((M 84 p).toNat + j) → Ed M 97 p j c := by
      intro j c hj hc e
      have hc2 : M 81 c = M 87 ((M 84 p).toNat + j) := hc.2
      rw [e] at hc2
      rcases n1.2.2.2.2.2.2.2 p j v1 hj with ⟨-, h0⟩ | ⟨q, y1, y2, y3⟩
      · have := N.2.2 c hc.1
        have h5 : 0 ≤ M 81 c := this
        omega
      · have : c = q := N.inj hc.1 (by have := n1.1; omega) (hc2.trans y3)
        subst this
        refine ⟨y1, ?_⟩
        show M 98 c = M 104 ((M 101 p).toNat + j)
        rw [(n1.2.2.2.2.1 c y1).1, e4]
        exact hc2
    have k1 := ed97 (2 * k) a (by omega) he v2
    have k2 := ed97 (2 * k + 1) b (by omega) he2 v3
    have hka : Kp M a := by
      rcases ha with h | h
      · have h5 := k1.1; omega
      · exact h
    refine Or.inr (cl_cls.2 p k a b v1 hkp ?_ ?_ k1 hka k2 (by omega))
    · show M 99 p = 6
      rw [e2]; exact h6
    · show (k : Int) < M 100 p
      rw [e3]; exact hk
theorem gn_value (hI : Inv i M) {p k : Nat} (hp : (p : Int) < M 80 0) (hgd : M 72 10 = 1 → Gd M p) (h6 : M 82 p = 6) (hk : (k : Int) < M 83 p) (hx : Gn M (M 87 ((M 84 p).toNat + 2 * k))) (hpl : ∃ a : Nat, (a : Int) < M 80 0 ∧ M 81 a = M 87 ((M 84 p).toNat + 2 * k)) : Gn M (M 87 ((M 84 p).toNat + (2 * k + 1))) := by
  intro hon b hb he
  obtain ⟨a, h1, h2⟩ := hpl
  exact gd_value hI hon hp (hgd hon) h6 hk ⟨h1, h2⟩ (hx hon a h1 h2) ⟨hb, he⟩
/-- an entry changes, in both -/
theorem inv_entry (hI : Inv i M) {p k : Nat} {kc kn vc vn : Int} {M' : Mem} (hp : (p : Int) < M 80 0) (h6 : M 82 p = 6) (hk : (k : Int) < M 83 p)
    (e18 : ∀ j, M' 18 j = if j = (M 84 p).toNat + (2 * k + 1) then vc else if j = (M 84 p).toNat + 2 * k then kc else M 18 j) (e87 : ∀ j, M' 87 j = if j = (M 84 p).toNat + (2 * k + 1) then vn else if j = (M 84 p).toNat + 2 * k then kn else M 87 j) (ee : ∀ o j, o ≠ 18 → o ≠ 87 → ¬ (o = 72 ∧ j = 0) → M' o j = M o j)
    (hrk : Rf M kc kn) (hrv : Rf M vc vn) (hnv : kn = -1 → vn = -1) (hgd : M 72 10 = 1 → Gd M p) (hgk : Gn M kn) (hgv : Gn M vn) : Inv i M' := by
  have hat := cel_le hI hp
  obtain ⟨t1, t2, t3, t4⟩ := ref_tab ((rep_ref (inv_rep hI)).2 p hp) h6
  have t1 : holR M 80 p = 2 * M 83 p := t1
  have t2 : sizR M 80 p = 2 * M 83 p := t2
  have hc0 : cntR M 80 0 p = 0 := cnt_tab h6
  refine inv_cells hI hp ⟨ee, fun j hj => ?_⟩ ⟨fun j hj => ?_, fun j hj1 hj2 => absurd hj2 (by omega), fun f3 f5 _ => absurd f5 (by omega), fun _ j hj he => ?_, fun hon => ⟨hgd hon, fun j hj => absurd hj (by omega), fun _ j hj => ?_⟩⟩
  · rw [e18, e87, if_neg (by omega), if_neg (by omega), if_neg (by omega), if_neg (by omega)]
    exact ⟨rfl, rfl⟩
  · by_cases h1 : j = 2 * k + 1
    · have q1 : M' 18 ((M 84 p).toNat + j) = vc := by rw [e18, if_pos (by omega)]
      have q2 : M' 87 ((M 84 p).toNat + j) = vn := by rw [e87, if_pos (by omega)]
      rw [q1, q2]
      exact hrv
    · by_cases h2 : j = 2 * k
      · have q1 : M' 18 ((M 84 p).toNat + j) = kc := by rw [e18, if_neg (by omega), if_pos (by omega)]
        have q2 : M' 87 ((M 84 p).toNat + j) = kn := by rw [e87, if_neg (by omega), if_pos (by omega)]
        rw [q1, q2]
        exact hrk
      · have q1 : M' 18 ((M 84 p).toNat + j) = M 18 ((M 84 p).toNat + j) := by rw [e18, if_neg (by omega), if_neg (by omega)]
        have q2 : M' 87 ((M 84 p).toNat + j) = M 87 ((M 84 p).toNat + j) := by rw [e87, if_neg (by omega), if_neg (by omega)]
        rw [q1, q2]
        exact cel_rf hI hp hj
  · rw [e87] at he ⊢
    by_cases hjk : j = k
    · rw [if_pos (by omega)]
      rw [if_neg (by omega), if_pos (by omega)] at he
      exact hnv he
    · rw [if_neg (by omega), if_neg (by omega)]
      rw [if_neg (by omega), if_neg (by omega)] at he
      exact hI.mk.2.2.1.2.1 p j hp h6 hj he
  · rw [e87, e87]
    by_cases hjk : j = k
    · refine Or.inr ?_
      rw [if_neg (by omega), if_pos (by omega), if_pos (by omega)]
      exact ⟨hgk, hgv⟩
    · refine Or.inl ?_
      rw [if_neg (by omega), if_neg (by omega), if_neg (by omega), if_neg (by omega)]
      exact ⟨rfl, rfl⟩
theorem up2_at {M : Mem} {o j j' : Nat} {v w : Int} (q : Nat) : up (up M o j v) o j' w o q = if q = j' then w else if q = j then v else M o q := by
  rw [up_at, up_at]
/-- .. as the methods do it -/
theorem inv_entry5 (hI : Inv i M) {p k j1 j2 j3 j4 : Nat} {kc kn vc vn t : Int} (e1 : j1 = (M 84 p).toNat + 2 * k) (e2 : j2 = (M 84 p).toNat + (2 * k + 1)) (e3 : j3 = (M 84 p).toNat + 2 * k) (e4 : j4 = (M 84 p).toNat + (2 * k + 1)) (hp : (p : Int) < M 80 0) (h6 : M 82 p = 6) (hk : (k : Int) < M 83 p)
    (hrk : Rf M kc kn) (hrv : Rf M vc vn) (hnv : kn = -1 → vn = -1) (hgd : M 72 10 = 1 → Gd M p) (hgk : Gn M kn) (hgv : Gn M vn) : Inv (i + 1) (up (up (up (up (up M 18 j1 kc) 18 j2 vc) 72 0 t) 87 j3 kn) 87 j4 vn) := by
  subst e1
  subst e2
  subst e3
  subst e4
  refine inv_keep i _ (inv_entry hI hp h6 hk (fun j => ?_) (fun j => ?_) (fun o j a b d => ?_) hrk hrv hnv hgd hgk hgv)
  · exact up2_at (M := M) j
  · exact up2_at (M := M) j
  · unfold up
    rw [if_neg (fun z => b z.1), if_neg (fun z => b z.1), if_neg d, if_neg (fun z => a z.1), if_neg (fun z => a z.1)]
end Cells2
