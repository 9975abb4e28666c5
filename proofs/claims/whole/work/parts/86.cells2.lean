section Cells2
variable {B : WB} {l : Launch} {X : va_W} {M M' : Mem} {Q : Int → Mem → Prop} {E : String → Mem → Prop} {i qo p : Nat} {x y : Int}
theorem cs_isInterned (hl : l.stackTraces = false) (ha : inR x) (hf : Fs M) (R : RepC M 80 18) (hg : 0 ≤ x ∧ x < wd M) (hp : (p : Int) < M 80 0) (ec : M 22 (sx M x) = M 19 p) (h0 : M 16 (M 19 p).toNat = 0 → Q 0 M) (h1 : M 16 (M 19 p).toNat ≠ 0 → Q 1 M) : OkI B l md_X11_isInterned 0 0 [.ref (ad B 0), .int (I x)] X M Q NoX := by
  have hw := hf.wd
  have hc := R.2.1 p (by have := R.1; omega)
  refine ok_X11_isInterned hl (fun G hG => go_X11_isInterned_0 hG (Or.inl (cs_needSlot_ok (Ct_fl hG) ha hf hg (cs_heldBy (Ct_fl hG) hf (by omega) (fun z => ⟨z, ⟨by decide, by decide⟩, fun he => absurd he (by omega), fun _ => ?_⟩)))))
  rw [ec]
  exact ⟨hc, fun z2 => ⟨z2, fun e => ⟨Or.inl rfl, h0 e⟩, fun e => ⟨Or.inr rfl, h1 e⟩⟩⟩
theorem ms_isSoP {a : Int} (hl : l.stackTraces = false) (hf : Fs M) (N : Num M 80) (hx : 0 ≤ x ∧ x < 8) (hp : (p : Int) < M 80 0) (he : M 81 p = M 89 (sx M x)) (h0 : band (M 86 p) a = 0 → Q 0 M) (h1 : band (M 86 p) a ≠ 0 → Q 1 M) : OkI B l md_X13_isSo 0 0 [.ref (ad B 72), .int (I x), .int (I a)] X M Q NoX := by
  have hn := N.1
  exact ok_X13_isSo hl (fun G hG => go_X13_isSo_0 hG (ms_placeP (Ct_fl hG) hf N hx hp he (fun z => ⟨z, ⟨by decide, by decide⟩, fun he => absurd he (by omega), fun _ => ms_is (o := 80) (Or.inl rfl) (Ct_fl hG) p (by omega) (fun e z2 => ⟨z2, fun _ => ⟨Or.inl rfl, h0 e⟩, fun hne => absurd rfl hne⟩) (fun e z2 => ⟨z2, fun he => absurd he (by decide), fun _ => ⟨Or.inr rfl, h1 e⟩⟩)⟩)))
theorem ms_no {v : Int} (hl : l.stackTraces = false) (hv : inR v) (hq : Q 0 (up M 72 0 v)) : OkI B l md_X13_no 0 0 [.ref (ad B 72), .int (I v)] X M Q NoX :=
  ok_X13_no hl (fun G hG => go_X13_no_0 hG ⟨hv, fun M1 e => by subst e; exact ⟨inR0, hq⟩⟩)
/-- entries: the first with a key -/
theorem cs_entryWith (hl : l.stackTraces = false) (R : RepC M 80 18) (hp : (p : Int) < M 80 0) (h6 : M 82 p = 6) (hx : inR x) (h1 : ∀ k : Nat, (k : Int) < M 83 p → M 18 ((M 84 p).toNat + 2 * k) = x → (∀ j : Nat, j < k → M 18 ((M 84 p).toNat + 2 * j) ≠ x) → Q (M 84 p + 2 * k) M) (h2 : (∀ k : Nat, (k : Int) < M 83 p → M 18 ((M 84 p).toNat + 2 * k) ≠ x) → Q (-1) M) : OkI B l md_X10_entryWith 0 0 [.ref (ad B 6), .int (I (M 19 p)), .int (I x)] X M Q NoX := by
  have hc := R.2.1 p (by have := R.1; omega)
  obtain ⟨f1, f2, f3, f4, f5⟩ := R.2.2.2.2.2 p hp
  have htb := rep_tab R hp h6
  have hat : 0 ≤ M 84 p ∧ M 84 p + sizR M 80 p ≤ 1664 := f4.1
  have es : sizR M 80 p = 2 * M 83 p := htb.2.1
  have e10 : M 10 (M 19 p).toNat = M 83 p := htb.2.2.1
  have e12 : M 12 (M 19 p).toNat = M 84 p := f3
  have hwb : 1 ≤ M 83 p ∧ M 83 p ≤ 16 := htb.2.2.2
  refine ok_X10_entryWith hl (fun G hG => ?_)
  have loop : ∀ (r k : Nat), (k : Int) + r = M 83 p → (∀ j : Nat, j < k → M 18 ((M 84 p).toNat + 2 * j) ≠ x) → L_X10_entryWith_2 G X (M 19 p) x (k : Int) M := by
    intro r
    induction r with
    | zero =>
      intro k hk hno
      refine go_X10_entryWith_2 hG ⟨hc, fun z => ?_⟩
      rw [e10]
      exact ⟨⟨by omega, by omega⟩, ⟨by omega, by omega⟩, fun _ => ⟨⟨by decide, by decide⟩, h2 (fun j hj => hno j (by omega))⟩, fun hlt => absurd hlt (by omega)⟩
    | succ r ih =>
      intro k hk hno
      have ej : (M 84 p + 2 * (k : Int)).toNat = (M 84 p).toNat + 2 * k := by omega
      refine go_X10_entryWith_2 hG ⟨hc, fun z => ?_⟩
      rw [e10, e12, ej]
      refine ⟨⟨by omega, by omega⟩, ⟨by omega, by omega⟩, fun hle => absurd hle (by omega), fun _ => ⟨hc, fun z2 => ⟨⟨by omega, by omega⟩, fun z3 => ⟨z3, hx, fun hne => ih (k + 1) (by omega) (fun j hj => ?_), fun he => ⟨⟨by omega, by omega⟩, h1 k (by omega) he hno⟩⟩⟩⟩⟩
      by_cases hjk : j = k
      · rw [hjk]; exact hne
      · exact hno j (by omega)
  exact go_X10_entryWith_0 hG (loop (M 83 p).toNat 0 (by omega) (fun j hj => absurd hj (by omega)))
theorem ms_entry (hl : l.stackTraces = false) (R : RefO M 80) (hp : (p : Int) < M 80 0) (h6 : M 82 p = 6) (hx : inR x) (h1 : ∀ k : Nat, (k : Int) < M 83 p → M 87 ((M 84 p).toNat + 2 * k) = x → (∀ j : Nat, j < k → M 87 ((M 84 p).toNat + 2 * j) ≠ x) → Q (M 84 p + 2 * k) M) (h2 : (∀ k : Nat, (k : Int) < M 83 p → M 87 ((M 84 p).toNat + 2 * k) ≠ x) → Q (-1) M) : OkI B l md_X12_entry 0 0 [.ref (ad B 80), .int (I (p : Int)), .int (I x)] X M Q NoX := by
  have hn := R.1.1
  have f4 := R.2 p hp
  have htb := ref_tab f4 h6
  have hat : 0 ≤ M 84 p ∧ M 84 p + sizR M 80 p ≤ 1664 := f4.1
  have es : sizR M 80 p = 2 * M 83 p := htb.2.1
  have hwb : 1 ≤ M 83 p ∧ M 83 p ≤ 16 := htb.2.2
  have e3 : M (80 + 3) ((p : Nat) : Int).toNat = M 83 p := rfl
  have e4 : M (80 + 4) ((p : Nat) : Int).toNat = M 84 p := rfl
  refine ok_X12_entry hl (fun G hG => ?_)
  have loop : ∀ (r k : Nat), (k : Int) + r = M 83 p → (∀ j : Nat, j < k → M 87 ((M 84 p).toNat + 2 * j) ≠ x) → L_X12_entry_2 G X 80 (p : Int) x (k : Int) M := by
    intro r
    induction r with
    | zero =>
      intro k hk hno
      refine go_X12_entry_2 hG (Or.inl rfl) ⟨⟨by omega, by omega⟩, fun z => ?_⟩
      rw [e3]
      exact ⟨⟨by omega, by omega⟩, ⟨by omega, by omega⟩, fun _ => ⟨⟨by decide, by decide⟩, h2 (fun j hj => hno j (by omega))⟩, fun hlt => absurd hlt (by omega)⟩
    | succ r ih =>
      intro k hk hno
      have ej : (M 84 p + 2 * (k : Int)).toNat = (M 84 p).toNat + 2 * k := by omega
      refine go_X12_entry_2 hG (Or.inl rfl) ⟨⟨by omega, by omega⟩, fun z => ?_⟩
      rw [e3, e4, ej]
      refine ⟨⟨by omega, by omega⟩, ⟨by omega, by omega⟩, fun hle => absurd hle (by omega), fun _ => ⟨⟨by omega, by omega⟩, fun z2 => ⟨⟨by omega, by omega⟩, fun z3 => ⟨z3, hx, fun hne => ih (k + 1) (by omega) (fun j hj => ?_), fun he => ⟨⟨by omega, by omega⟩, fun z4 => ⟨⟨by omega, by omega⟩, h1 k (by omega) he hno⟩⟩⟩⟩⟩⟩
      by_cases hjk : j = k
      · rw [hjk]; exact hne
      · exact hno j (by omega)
  exact go_X12_entry_0 hG (Or.inl rfl) (loop (M 83 p).toNat 0 (by omega) (fun j hj => absurd hj (by omega)))
/-- what is kept refers to such alone: of a TABLE, the values whose keys are kept -/
theorem gd_value (hI : Inv i M) (hon : M 72 10 = 1) {p k a b : Nat} (hp : (p : Int) < M 80 0) (hgd : Gd M p) (h6 : M 82 p = 6) (hk : (k : Int) < M 83 p) (he : Ed M 80 p (2 * k) a) (ha : Gd M a) (he2 : Ed M 80 p (2 * k + 1) b) : Gd M b := by
  obtain ⟨n1, n2, n3, n4⟩ := hI.mk.2.2.2 hon
  rcases n4.2.1 p k a hp hgd h6 hk he with ⟨-, h2⟩ | ⟨v1, v2, v3⟩
  · exact h2 b he2
  · have hkp : Kp M p := by
      rcases hgd with h | h
      · omega
      · exact h
    have N := ob_num hI.ob
    have P := inv_pic hI hon
    obtain ⟨q1, q2, q3, q4⟩ := pic_eq n1 v1
    obtain ⟨e1, e2, e3, e4⟩ := n1.2.2.2.2.1 p v1
    have hs : holR M 80 p = 2 * M 83 p := (ref_tab ((rep_ref (inv_rep hI)).2 p hp) h6).1
    have ed97 : ∀ (j c : Nat), (j : Int) < holR M 80 p → Ed M 80 p j c → M 87 ((M 84 p).toNat + j) = M 104 ((M 84 p).toNat + j) → Ed M 97 p j c := by
      intro j c hj hc e
      have hc2 : M 81 c = M 87 ((M 84 p).toNat + j) := hc.2
      rw [e] at hc2
      rcases n1.2.2.2.2.2.2.2 p j v1 hj with ⟨-, h0⟩ | ⟨q, y1, y2, y3⟩
      · have := N.2.2 c hc.1
        have h5 : 0 ≤ M 81 c := this
        omega
      · have : c = q := N.inj hc.1 (by have := n1.1; omega) (hc2.trans y3)
        subst this
        refine ⟨y1, ?_⟩
        show M 98 c = M 104 ((M 101 p).toNat + j)
        rw [(n1.2.2.2.2.1 c y1).1, e4]
        exact hc2
    have k1 := ed97 (2 * k) a (by omega) he v2
    have k2 := ed97 (2 * k + 1) b (by omega) he2 v3
    have hka : Kp M a := by
      rcases ha with h | h
      · have h5 := k1.1; omega
      · exact h
    refine Or.inr (cl_cls.2 p k a b v1 hkp ?_ ?_ k1 hka k2 (by omega))
    · show M 99 p = 6
      rw [e2]; exact h6
    · show (k : Int) < M 100 p
      rw [e3]; exact hk
theorem gn_value (hI : Inv i M) {p k : Nat} (hp : (p : Int) < M 80 0) (hgd : M 72 10 = 1 → Gd M p) (h6 : M 82 p = 6) (hk : (k : Int) < M 83 p) (hx : Gn M (M 87 ((M 84 p).toNat + 2 * k))) (hpl : ∃ a : Nat, (a : Int) < M 80 0 ∧ M 81 a = M 87 ((M 84 p).toNat + 2 * k)) : Gn M (M 87 ((M 84 p).toNat + (2 * k + 1))) := by
  intro hon b hb he
  obtain ⟨a, h1, h2⟩ := hpl
  exact gd_value hI hon hp (hgd hon) h6 hk ⟨h1, h2⟩ (hx hon a h1 h2) ⟨hb, he⟩
/-- an entry changes, in both -/
theorem inv_entry (hI : Inv i M) {p k : Nat} {kc kn vc vn : Int} {M' : Mem} (hp : (p : Int) < M 80 0) (h6 : M 82 p = 6) (hk : (k : Int) < M 83 p)
    (e18 : ∀ j, M' 18 j = if j = (M 84 p).toNat + (2 * k + 1) then vc else if j = (M 84 p).toNat + 2 * k then kc else M 18 j) (e87 : ∀ j, M' 87 j = if j = (M 84 p).toNat + (2 * k + 1) then vn else if j = (M 84 p).toNat + 2 * k then kn else M 87 j) (ee : ∀ o j, o ≠ 18 → o ≠ 87 → ¬ (o = 72 ∧ j = 0) → M' o j = M o j)
    (hrk : Rf M kc kn) (hrv : Rf M vc vn) (hnv : kn = -1 → vn = -1) (hgd : M 72 10 = 1 → Gd M p) (hgk : Gn M kn) (hgv : Gn M vn) : Inv i M' := by
  have hat := cel_le hI hp
  obtain ⟨t1, t2, t3, t4⟩ := ref_tab ((rep_ref (inv_rep hI)).2 p hp) h6
  have t1 : holR M 80 p = 2 * M 83 p := t1
  have t2 : sizR M 80 p = 2 * M 83 p := t2
  have hc0 : cntR M 80 0 p = 0 := cnt_tab h6
  refine inv_cells hI hp ⟨ee, fun j hj => ?_⟩ ⟨fun j hj => ?_, fun j hj1 hj2 => absurd hj2 (by omega), fun f3 f5 _ => absurd f5 (by omega), fun _ j hj he => ?_, fun hon => ⟨hgd hon, fun j hj => absurd hj (by omega), fun _ j hj => ?_⟩⟩
  · rw [e18, e87, if_neg (by omega), if_neg (by omega), if_neg (by omega), if_neg (by omega)]
    exact ⟨rfl, rfl⟩
  · by_cases h1 : j = 2 * k + 1
    · have q1 : M' 18 ((M 84 p).toNat + j) = vc := by rw [e18, if_pos (by omega)]
      have q2 : M' 87 ((M 84 p).toNat + j) = vn := by rw [e87, if_pos (by omega)]
      rw [q1, q2]
      exact hrv
    · by_cases h2 : j = 2 * k
      · have q1 : M' 18 ((M 84 p).toNat + j) = kc := by rw [e18, if_neg (by omega), if_pos (by omega)]
        have q2 : M' 87 ((M 84 p).toNat + j) = kn := by rw [e87, if_neg (by omega), if_pos (by omega)]
        rw [q1, q2]
        exact hrk
      · have q1 : M' 18 ((M 84 p).toNat + j) = M 18 ((M 84 p).toNat + j) := by rw [e18, if_neg (by omega), if_neg (by omega)]
        have q2 : M' 87 ((M 84 p).toNat + j) = M 87 ((M 84 p).toNat + j) := by rw [e87, if_neg (by omega), if_neg (by omega)]
        rw [q1, q2]
        exact cel_rf hI hp hj
  · rw [e87] at he ⊢
    by_cases hjk : j = k
    · rw [if_pos (by omega)]
      rw [if_neg (by omega), if_pos (by omega)] at he
      exact hnv he
    · rw [if_neg (by omega), if_neg (by omega)]
      rw [if_neg (by omega), if_neg (by omega)] at he
      exact hI.mk.2.2.1.2 p j hp h6 hj he
  · rw [e87, e87]
    by_cases hjk : j = k
    · refine Or.inr ?_
      rw [if_neg (by omega), if_pos (by omega), if_pos (by omega)]
      exact ⟨hgk, hgv⟩
    · refine Or.inl ?_
      rw [if_neg (by omega), if_neg (by omega), if_neg (by omega), if_neg (by omega)]
      exact ⟨rfl, rfl⟩
theorem up2_at {M : Mem} {o j j' : Nat} {v w : Int} (q : Nat) : up (up M o j v) o j' w o q = if q = j' then w else if q = j then v else M o q := by
  rw [up_at, up_at]
/-- .. as the methods do it -/
theorem inv_entry5 (hI : Inv i M) {p k j1 j2 j3 j4 : Nat} {kc kn vc vn t : Int} (e1 : j1 = (M 84 p).toNat + 2 * k) (e2 : j2 = (M 84 p).toNat + (2 * k + 1)) (e3 : j3 = (M 84 p).toNat + 2 * k) (e4 : j4 = (M 84 p).toNat + (2 * k + 1)) (hp : (p : Int) < M 80 0) (h6 : M 82 p = 6) (hk : (k : Int) < M 83 p)
    (hrk : Rf M kc kn) (hrv : Rf M vc vn) (hnv : kn = -1 → vn = -1) (hgd : M 72 10 = 1 → Gd M p) (hgk : Gn M kn) (hgv : Gn M vn) : Inv (i + 1) (up (up (up (up (up M 18 j1 kc) 18 j2 vc) 72 0 t) 87 j3 kn) 87 j4 vn) := by
  subst e1
  subst e2
  subst e3
  subst e4
  refine inv_keep i _ (inv_entry hI hp h6 hk (fun j => ?_) (fun j => ?_) (fun o j a b d => ?_) hrk hrv hnv hgd hgk hgv)
  · exact up2_at (M := M) j
  · exact up2_at (M := M) j
  · unfold up
    rw [if_neg (fun z => b z.1), if_neg (fun z => b z.1), if_neg d, if_neg (fun z => a z.1), if_neg (fun z => a z.1)]
theorem pr_setByte {a d v : Int} (hl : l.stackTraces = false) (ha : inR a) (hd : inR d) (hv : inR v) (hM : MOK M) (hi : i < 513) (hI : Inv i M) : PrI B l i M qo md_L_setByte hh_L_setByte md_X13_setByte [.int (I a), .int (I d), .int (I v)] := by
  intro f Qw H
  have hf := hI.fr.fs
  have hw := hf.wd
  have R := inv_rep hI
  have RO := rep_ref R
  have hn := R.1
  by_cases hga : 0 ≤ a ∧ a < wd M
  · rcases fr_slot hI.fr hga with ⟨e1, e2⟩ | ⟨p, hp, ec, en⟩
    · skip
      refine ok_L_setByte hl (fun G q1 q2 => ?_)
      unfold T_L_setByte
      rw [q1, q2]
      refine Or.inr (ok_X11_setByte hl (fun G h1 => go_X11_setByte_0 h1 (Or.inl (cs_needSlot_ok (Ct_fl h1) ha hf hga (Or.inr ⟨⟨by omega, by omega⟩, cs_needByte_bad (Ct_fl h1) hf R (by omega) hd (Or.inl e1) (Or.inr (Or.inl ⟨rfl, inR2, ?_⟩))⟩)))))
      refine H 2 _ _ inR2 (fun Qm hm => ok_X13_setByte hl (fun G h2 => go_X13_setByte_0 h2 (ms_isSlot1 (Ct_fl h2) ha hf hga (fun z2 => ms_known1 (Ct_fl h2) (fun z4 => ⟨z4, fun _ => ms_byteN (Ct_fl h2) (show Fs (up M 72 0 _) from hf) (show Num (up M 72 0 _) 80 from RO.1) (by omega) e2 (fun z5 => ⟨z5, ⟨by decide, by decide⟩, fun _ => ms_fit0 (Ct_fl h2) (fun z6 => ⟨z6, n00, fun _ => ⟨inR0, ?_⟩⟩), fun hne => absurd rfl hne⟩), n10⟩)))))
      exact hm _ _ inR0 (inv_thr (inv_thr0 hI)) rfl (fun h => absurd h (by decide))
    · have hs := ref_siz (RO.2 p hp)
      have hat := cel_le hI hp
      by_cases hy : M 82 p = 2 ∧ 0 ≤ d ∧ d < M 83 p
      · have es : sizR M 80 p = M 83 p := by show (if M 82 p = 0 then M 74 (M 83 p).toNat + M 75 (M 83 p).toNat else if M 82 p = 6 then 2 * M 83 p else M 83 p) = M 83 p; rw [if_neg (by omega), if_neg (by omega)]
        have eh : holR M 80 p = 0 := by show (if M 82 p = 0 then M 74 (M 83 p).toNat else if M 82 p = 2 then 0 else sizR M 80 p) = 0; rw [if_neg (by omega), if_pos hy.1]
        have ek : (M 84 p + d).toNat = (M 84 p).toNat + d.toNat := by omega
        have hvv := cel_no hI (k := d.toNat) hp (by omega) (by omega)
        have h4 := flag_4 hI hp
        by_cases hvr : 0 ≤ v ∧ v ≤ 255
        · by_cases hin : M 16 (M 19 p).toNat = 0
          · skip
            refine ok_L_setByte hl (fun G q1 q2 => ?_)
            unfold T_L_setByte
            rw [q1, q2]
            refine Or.inl (ok_X11_setByte hl (fun G h1 => go_X11_setByte_0 h1 (Or.inl (cs_needSlot_ok (Ct_fl h1) ha hf hga (Or.inl (cs_needByte_ok (Ct_fl h1) hf R (by omega) hp ec hy.1 hy.2 (fun z => Or.inl (cs_needBetween_ok (Ct_fl h1) hv inR0 ⟨by decide, by decide⟩ hvr (Or.inl (cs_isInterned (Ct_fl h1) ha hf R hga hp ec (fun _ z2 => ⟨z2, fun _ => ⟨⟨by omega, by omega⟩, fun z3 => ⟨⟨by omega, by omega⟩, hv, fun M5 e => ⟨z3, fun z1 f1 e9 => ⟨inR0, ?_⟩⟩⟩⟩, fun hne => absurd rfl hne⟩) (fun hne => absurd hin hne)))))))))))
            subst e
            subst e9
            refine H 0 _ _ inR0 (fun Qm hm => ok_X13_setByte hl (fun G h2 => go_X13_setByte_0 h2 (ms_isSlot1 (Ct_fl h2) ha (show Fs (up M 18 _ _) from hf) hga (fun z2 => ms_known1 (Ct_fl h2) (fun z4 => ⟨z4, fun _ => ?_, n10⟩)))))
            refine ms_byteP (Ct_fl h2) (show Fs (up (up M 18 _ _) 72 0 _) from hf) (show RefO (up (up M 18 _ _) 72 0 _) 80 from RO) (by omega) hd hp en.symm (fun _ _ z5 => ⟨z5, ⟨by decide, by decide⟩, fun he => absurd he (show M 84 p + d ≠ -1 by omega), fun _ => ms_isIn1 (Ct_fl h2) hv inR0 ⟨by decide, by decide⟩ hvr (fun z6 => ⟨z6, n10, fun _ => ms_fit1 (Ct_fl h2) (fun z7 => ⟨z7, fun _ => ms_isSoP (Ct_fl h2) (show Fs (up (up M 18 _ _) 72 0 _) from hf) (show Num (up (up M 18 _ _) 72 0 _) 80 from RO.1) (by omega) hp en.symm (fun _ z8 => ⟨z8, fun _ => ms_change (Ct_fl h2) ⟨show 0 ≤ M 84 p + d by omega, show M 84 p + d < 2048 by omega⟩ hv (fun z9 => ⟨z9, ?_⟩), fun hne => absurd rfl hne⟩) (fun hb => absurd (h4.mpr hin) hb), n10⟩)⟩)⟩) (fun hny => absurd hy hny)
            have e3 : M 18 (M 84 p + d).toNat = M 87 (M 84 p + d).toNat := by rw [ek]; exact hvv.1
            refine hm _ _ z9 ?_ rfl (fun _ => by rw [updL0, e3]; rfl)
            exact inv_cell3 (k := d.toNat) hI ek ek hp (by omega) (fun h => absurd h (by omega)) (fun _ => ⟨rfl, fun _ => hvr⟩) (fun h3 _ => absurd h3 (by omega)) (by omega) (gd_slot hI hga hp en) (fun h => absurd h (by have := ref_cnt (pr := 0) (RO.2 p hp); omega))
          · skip
            refine ok_L_setByte hl (fun G q1 q2 => ?_)
            unfold T_L_setByte
            rw [q1, q2]
            refine Or.inr (ok_X11_setByte hl (fun G h1 => go_X11_setByte_0 h1 (Or.inl (cs_needSlot_ok (Ct_fl h1) ha hf hga (Or.inl (cs_needByte_ok (Ct_fl h1) hf R (by omega) hp ec hy.1 hy.2 (fun z => Or.inl (cs_needBetween_ok (Ct_fl h1) hv inR0 ⟨by decide, by decide⟩ hvr (Or.inl (cs_isInterned (Ct_fl h1) ha hf R hga hp ec (fun h0 => absurd h0 hin) (fun _ z2 => ⟨z2, fun he => absurd he (by decide), fun _ => ⟨⟨by omega, by omega⟩, (Or.inr (Or.inr ⟨rfl, inR3, ?_⟩))⟩⟩)))))))))))
            refine H 3 _ _ inR3 (fun Qm hm => ok_X13_setByte hl (fun G h2 => go_X13_setByte_0 h2 (ms_isSlot1 (Ct_fl h2) ha hf hga (fun z2 => ms_known1 (Ct_fl h2) (fun z4 => ⟨z4, fun _ => ms_byteP (Ct_fl h2) (show Fs (up M 72 0 _) from hf) (show RefO (up M 72 0 _) 80 from RO) (by omega) hd hp en.symm (fun _ _ z5 => ⟨z5, ⟨by decide, by decide⟩, fun he => absurd he (show M 84 p + d ≠ -1 by omega), fun _ => ms_isIn1 (Ct_fl h2) hv inR0 ⟨by decide, by decide⟩ hvr (fun z6 => ⟨z6, n10, fun _ => ms_fit1 (Ct_fl h2) (fun z7 => ⟨z7, fun _ => ms_isSoP (Ct_fl h2) (show Fs (up M 72 0 _) from hf) (show Num (up M 72 0 _) 80 from RO.1) (by omega) hp en.symm (fun hb => absurd (h4.mp hb) hin) (fun _ z8 => ⟨z8, fun he => absurd he (by decide), fun _ => ms_no (Ct_fl h2) inR3 (fun z9 => ⟨z9, ?_⟩)⟩), n10⟩)⟩)⟩) (fun hny => absurd hy hny), n10⟩)))))
            exact hm _ _ inR0 (inv_thr (inv_thr0 hI)) rfl (fun h => absurd h (by decide))
        · skip
          refine ok_L_setByte hl (fun G q1 q2 => ?_)
          unfold T_L_setByte
          rw [q1, q2]
          refine Or.inr (ok_X11_setByte hl (fun G h1 => go_X11_setByte_0 h1 (Or.inl (cs_needSlot_ok (Ct_fl h1) ha hf hga (Or.inl (cs_needByte_ok (Ct_fl h1) hf R (by omega) hp ec hy.1 hy.2 (fun z => Or.inr ⟨⟨by omega, by omega⟩, cs_needBetween_bad (Ct_fl h1) hv inR0 ⟨by decide, by decide⟩ hvr (Or.inr (Or.inl ⟨rfl, inR2, ?_⟩))⟩)))))))
          refine H 2 _ _ inR2 (fun Qm hm => ok_X13_setByte hl (fun G h2 => go_X13_setByte_0 h2 (ms_isSlot1 (Ct_fl h2) ha hf hga (fun z2 => ms_known1 (Ct_fl h2) (fun z4 => ⟨z4, fun _ => ms_byteP (Ct_fl h2) (show Fs (up M 72 0 _) from hf) (show RefO (up M 72 0 _) 80 from RO) (by omega) hd hp en.symm (fun _ _ z5 => ⟨z5, ⟨by decide, by decide⟩, fun he => absurd he (show M 84 p + d ≠ -1 by omega), fun _ => ms_isIn0 (Ct_fl h2) hv inR0 ⟨by decide, by decide⟩ hvr (fun z6 => ⟨z6, fun _ => ms_fit0 (Ct_fl h2) (fun z7 => ⟨z7, n00, fun _ => ⟨inR0, ?_⟩⟩), n00⟩)⟩) (fun hny => absurd hy hny), n10⟩)))))
          exact hm _ _ inR0 (inv_thr (inv_thr0 hI)) rfl (fun h => absurd h (by decide))
      · skip
        refine ok_L_setByte hl (fun G q1 q2 => ?_)
        unfold T_L_setByte
        rw [q1, q2]
        refine Or.inr (ok_X11_setByte hl (fun G h1 => go_X11_setByte_0 h1 (Or.inl (cs_needSlot_ok (Ct_fl h1) ha hf hga (Or.inr ⟨⟨by omega, by omega⟩, cs_needByte_bad (Ct_fl h1) hf R (by omega) hd (Or.inr ⟨p, hp, ec, hy⟩) (Or.inr (Or.inl ⟨rfl, inR2, ?_⟩))⟩)))))
        refine H 2 _ _ inR2 (fun Qm hm => ok_X13_setByte hl (fun G h2 => go_X13_setByte_0 h2 (ms_isSlot1 (Ct_fl h2) ha hf hga (fun z2 => ms_known1 (Ct_fl h2) (fun z4 => ⟨z4, fun _ => ms_byteP (Ct_fl h2) (show Fs (up M 72 0 _) from hf) (show RefO (up M 72 0 _) 80 from RO) (by omega) hd hp en.symm (fun h5 h6 => absurd ⟨h5, h6⟩ hy) (fun _ => (fun z5 => ⟨z5, ⟨by decide, by decide⟩, fun _ => ms_fit0 (Ct_fl h2) (fun z6 => ⟨z6, n00, fun _ => ⟨inR0, ?_⟩⟩), fun hne => absurd rfl hne⟩)), n10⟩)))))
        exact hm _ _ inR0 (inv_thr (inv_thr0 hI)) rfl (fun h => absurd h (by decide))
  · skip
    refine ok_L_setByte hl (fun G q1 q2 => ?_)
    unfold T_L_setByte
    rw [q1, q2]
    refine Or.inr (ok_X11_setByte hl (fun G h1 => go_X11_setByte_0 h1 (Or.inr ⟨⟨by omega, by omega⟩, cs_needSlot_bad (Ct_fl h1) ha hf hga (Or.inl ⟨rfl, inR1, ?_⟩)⟩)))
    refine H 1 _ _ inR1 (fun Qm hm => ok_X13_setByte hl (fun G h2 => go_X13_setByte_0 h2 (ms_isSlot0 (Ct_fl h2) ha hf hga (fun z3 => ms_known0 (Ct_fl h2) (fun z4 => ⟨z4, n00, fun _ => ⟨inR0, ?_⟩⟩)))))
    exact hm _ _ inR0 (inv_thr hI) rfl (fun h => absurd h (by decide))
theorem pr_refersTo {a c : Int} (hl : l.stackTraces = false) (ha : inR a) (hc : inR c) (hM : MOK M) (hi : i < 513) (hI : Inv i M) : PrZ B l i M qo md_L_refersTo hh_L_refersTo md_X13_refersTo [.int (I a), .int (I c)] := by
  intro f Qw H
  have hf := hI.fr.fs
  have hw := hf.wd
  have R := inv_rep hI
  have RO := rep_ref R
  have hn := R.1
  by_cases hgc : 0 ≤ c ∧ c < wd M
  · by_cases hga : 0 ≤ a ∧ a < wd M
    · have hrc := fr_slot hI.fr hgc
      rcases fr_slot hI.fr hga with ⟨e1, e2⟩ | ⟨p, hp, ec, en⟩
      · skip
        refine ok_L_refersTo hl (fun G q1 q2 => ?_)
        unfold T_L_refersTo
        rw [q1, q2]
        refine Or.inr (ok_X11_refersTo hl (fun G h1 => go_X11_refersTo_0 h1 (Or.inl (cs_needSlot_ok (Ct_fl h1) hc hf hgc (Or.inr ⟨⟨by omega, by omega⟩, cs_needRef_bad2 (Ct_fl h1) ha hf R hga ⟨by decide, by decide⟩ (Or.inl e1) (Or.inr ⟨rfl, inR2, ?_⟩)⟩)))))
        refine H 2 _ _ inR2 (fun Qm hm => ok_X13_refersTo hl (fun G h2 => go_X13_refersTo_0 h2 (ms_isSlot1 (Ct_fl h2) ha hf hga (fun z2 => ⟨z2, n10, fun _ => ms_isSlot1 (Ct_fl h2) hc hf hgc (fun z3 => ⟨z3, n10, fun _ => go_X13_refersTo_22 h2 (ms_known1 (Ct_fl h2) (fun z4 => ⟨z4, n10, fun _ => ms_isRefN (Ct_fl h2) (show Fs (up M 72 0 _) from hf) (show Num (up M 72 0 _) 80 from RO.1) (by omega) e2 (fun z5 => ms_fit0 (Ct_fl h2) (fun z6 => ⟨z6, n00, fun _ => ⟨Or.inl rfl, ?_⟩⟩))⟩))⟩)⟩))))
        exact hm _ _ inR0 (inv_thr (inv_thr0 hI)) rfl (fun h => absurd h (by decide))
      · by_cases h3 : 3 ≤ M 82 p ∧ M 82 p ≤ 5
        · have hrf := ob_ref hI hp h3
          have hb2 := rf_inR hrf.1 hI.ob
          have hbc := rf_inR hrc hI.ob
          have hij := rf_inj hrf.1 hrc hI.ob
          have hc19 := R.2.1 p (by omega)
          have e12 : M 12 (M 19 p).toNat = M 84 p := (at_in hI hp).2.2.2
          have fin : ∀ v : Int, (v = 0 ∨ v = 1) → (v = 1 ↔ (M 87 (M 84 p).toNat ≠ -1 ∧ M 87 (M 84 p).toNat = M 89 (sx M c))) → ∀ f1 : Nat → Int64, (f1 0 = if v = 0 then 0 else 1) → Qw 0 M f1 := by
            intro v hv hiff f1 hf1
            refine H 0 _ _ inR0 (fun Qm hm => ok_X13_refersTo hl (fun G h2 => go_X13_refersTo_0 h2 (ms_isSlot1 (Ct_fl h2) ha hf hga (fun z2 => ⟨z2, n10, fun _ => ms_isSlot1 (Ct_fl h2) hc hf hgc (fun z3 => ⟨z3, n10, fun _ => go_X13_refersTo_22 h2 (ms_known1 (Ct_fl h2) (fun z4 => ⟨z4, n10, fun _ => ?_⟩))⟩)⟩))))
            refine ms_isRefP (Ct_fl h2) (show Fs (up M 72 0 _) from hf) (show Num (up M 72 0 _) 80 from RO.1) (by omega) hp en.symm (fun _ z5 => ms_fit1 (Ct_fl h2) (fun z6 => ⟨z6, fun _ => ms_referent (Ct_fl h2) (show Fs (up M 72 0 _) from hf) (show RefO (up M 72 0 _) 80 from RO) (by omega) hp en.symm h3 (fun z7 => ⟨z7, ⟨by decide, by decide⟩, fun he => ⟨Or.inl rfl, ?_⟩, fun hne => ms_referent (Ct_fl h2) (show Fs (up M 72 0 _) from hf) (show RefO (up M 72 0 _) 80 from RO) (by omega) hp en.symm h3 (fun z8 => ms_inSlot (Ct_fl h2) (show Fs (up M 72 0 _) from hf) (by omega) (fun z9 => ⟨z8, z9, fun hne2 => ⟨Or.inl rfl, ?_⟩, fun he2 => ⟨Or.inr rfl, ?_⟩⟩))⟩), n10⟩)) (fun hn3 => absurd h3 hn3)
            · have he : M 87 (M 84 p).toNat = -1 := he
              have hv0 : v = 0 := hv.resolve_right (fun z => (hiff.mp z).1 he)
              exact hm _ _ inR0 (inv_thr hI) rfl (fun _ => by rw [hf1, if_pos hv0]; rfl)
            · have hne2 : M 87 (M 84 p).toNat ≠ M 89 (sx M c) := hne2
              have hv0 : v = 0 := hv.resolve_right (fun z => hne2 (hiff.mp z).2)
              exact hm _ _ inR0 (inv_thr hI) rfl (fun _ => by rw [hf1, if_pos hv0]; rfl)
            · have hne : M 87 (M 84 p).toNat ≠ -1 := hne
              have he2 : M 87 (M 84 p).toNat = M 89 (sx M c) := he2
              have hv1 : v = 1 := hiff.mpr ⟨hne, he2⟩
              exact hm _ _ inR1 (inv_thr hI) rfl (fun _ => by rw [hf1, hv1])
          refine ok_L_refersTo hl (fun G q1 q2 => ?_)
          unfold T_L_refersTo
          rw [q1, q2]
          refine Or.inl (ok_X11_refersTo hl (fun G h1 => go_X11_refersTo_0 h1 (Or.inl (cs_needSlot_ok (Ct_fl h1) hc hf hgc (Or.inl (cs_needRef_ok (Ct_fl h1) ha hf R hga ⟨by decide, by decide⟩ hp ec h3 (fun z => cs_referentOf (Ct_fl h1) hc19 (by rw [e12]; exact hrf.2) ?_)))))))
          rw [e12]
          refine fun z2 => ⟨z2, ⟨by decide, by decide⟩, fun he => ⟨Or.inl rfl, fun z3 => ⟨z3, fun _ f1 e9 => ⟨inR0, ?_⟩, fun hne => absurd rfl hne⟩⟩, fun hne => cs_heldBy (Ct_fl h1) hf (by omega) (fun z3 => ⟨z2, z3, fun hne2 => ⟨Or.inl rfl, fun z4 => ⟨z4, fun _ f1 e9 => ⟨inR0, ?_⟩, fun hne => absurd rfl hne⟩⟩, fun he2 => ⟨Or.inr rfl, fun z4 => ⟨z4, fun he => absurd he (by decide), fun _ f1 e9 => ⟨inR0, ?_⟩⟩⟩⟩)⟩
          · exact fin 0 (Or.inl rfl) ⟨fun h => absurd h (by decide), fun h => absurd (hb2.2.2.1.mp he) h.1⟩ f1 (by subst e9; rw [updL0]; rfl)
          · exact fin 0 (Or.inl rfl) ⟨fun h => absurd h (by decide), fun h => absurd (hij.mpr h.2) hne2⟩ f1 (by subst e9; rw [updL0]; rfl)
          · exact fin 1 (Or.inr rfl) ⟨fun _ => ⟨fun h => hne (hb2.2.2.1.mpr h), hij.mp he2⟩, fun _ => rfl⟩ f1 (by subst e9; rw [updL0]; rfl)
        · skip
          refine ok_L_refersTo hl (fun G q1 q2 => ?_)
          unfold T_L_refersTo
          rw [q1, q2]
          refine Or.inr (ok_X11_refersTo hl (fun G h1 => go_X11_refersTo_0 h1 (Or.inl (cs_needSlot_ok (Ct_fl h1) hc hf hgc (Or.inr ⟨⟨by omega, by omega⟩, cs_needRef_bad2 (Ct_fl h1) ha hf R hga ⟨by decide, by decide⟩ (Or.inr ⟨p, hp, ec, h3⟩) (Or.inr ⟨rfl, inR2, ?_⟩)⟩)))))
          refine H 2 _ _ inR2 (fun Qm hm => ok_X13_refersTo hl (fun G h2 => go_X13_refersTo_0 h2 (ms_isSlot1 (Ct_fl h2) ha hf hga (fun z2 => ⟨z2, n10, fun _ => ms_isSlot1 (Ct_fl h2) hc hf hgc (fun z3 => ⟨z3, n10, fun _ => go_X13_refersTo_22 h2 (ms_known1 (Ct_fl h2) (fun z4 => ⟨z4, n10, fun _ => ms_isRefP (Ct_fl h2) (show Fs (up M 72 0 _) from hf) (show Num (up M 72 0 _) 80 from RO.1) (by omega) hp en.symm (fun h => absurd h h3) (fun _ z5 => ms_fit0 (Ct_fl h2) (fun z6 => ⟨z6, n00, fun _ => ⟨Or.inl rfl, ?_⟩⟩))⟩))⟩)⟩))))
          exact hm _ _ inR0 (inv_thr (inv_thr0 hI)) rfl (fun h => absurd h (by decide))
    · skip
      refine ok_L_refersTo hl (fun G q1 q2 => ?_)
      unfold T_L_refersTo
      rw [q1, q2]
      refine Or.inr (ok_X11_refersTo hl (fun G h1 => go_X11_refersTo_0 h1 (Or.inl (cs_needSlot_ok (Ct_fl h1) hc hf hgc (Or.inr ⟨⟨by omega, by omega⟩, cs_needRef_bad1 (Ct_fl h1) ha hf hga (Or.inl ⟨rfl, inR1, ?_⟩)⟩)))))
      refine H 1 _ _ inR1 (fun Qm hm => ok_X13_refersTo hl (fun G h2 => go_X13_refersTo_0 h2 (ms_isSlot0 (Ct_fl h2) ha hf hga (fun z3 => ⟨z3, fun _ => go_X13_refersTo_22 h2 (ms_known0 (Ct_fl h2) (fun z4 => ⟨z4, fun _ => ⟨Or.inl rfl, ?_⟩, n00⟩)), n00⟩))))
      exact hm _ _ inR0 (inv_thr hI) rfl (fun h => absurd h (by decide))
  · by_cases hga : 0 ≤ a ∧ a < wd M
    · skip
      refine ok_L_refersTo hl (fun G q1 q2 => ?_)
      unfold T_L_refersTo
      rw [q1, q2]
      refine Or.inr (ok_X11_refersTo hl (fun G h1 => go_X11_refersTo_0 h1 (Or.inr ⟨⟨by omega, by omega⟩, cs_needSlot_bad (Ct_fl h1) hc hf hgc (Or.inl ⟨rfl, inR1, ?_⟩)⟩)))
      refine H 1 _ _ inR1 (fun Qm hm => ok_X13_refersTo hl (fun G h2 => go_X13_refersTo_0 h2 (ms_isSlot1 (Ct_fl h2) ha hf hga (fun z2 => ⟨z2, n10, fun _ => ms_isSlot0 (Ct_fl h2) hc hf hgc (fun z3 => ⟨z3, fun _ => go_X13_refersTo_22 h2 (ms_known0 (Ct_fl h2) (fun z4 => ⟨z4, fun _ => ⟨Or.inl rfl, ?_⟩, n00⟩)), n00⟩)⟩))))
      exact hm _ _ inR0 (inv_thr hI) rfl (fun h => absurd h (by decide))
    · skip
      refine ok_L_refersTo hl (fun G q1 q2 => ?_)
      unfold T_L_refersTo
      rw [q1, q2]
      refine Or.inr (ok_X11_refersTo hl (fun G h1 => go_X11_refersTo_0 h1 (Or.inr ⟨⟨by omega, by omega⟩, cs_needSlot_bad (Ct_fl h1) hc hf hgc (Or.inl ⟨rfl, inR1, ?_⟩)⟩)))
      refine H 1 _ _ inR1 (fun Qm hm => ok_X13_refersTo hl (fun G h2 => go_X13_refersTo_0 h2 (ms_isSlot0 (Ct_fl h2) ha hf hga (fun z3 => ⟨z3, fun _ => go_X13_refersTo_22 h2 (ms_known0 (Ct_fl h2) (fun z4 => ⟨z4, fun _ => ⟨Or.inl rfl, ?_⟩, n00⟩)), n00⟩))))
      exact hm _ _ inR0 (inv_thr hI) rfl (fun h => absurd h (by decide))
theorem pr_forget {a : Int} (hl : l.stackTraces = false) (ha : inR a) (hM : MOK M) (hi : i < 513) (hI : Inv i M) : PrZ B l i M qo md_L_forget hh_L_forget md_X13_forget [.int (I a)] := by
  intro f Qw H
  have hf := hI.fr.fs
  have hw := hf.wd
  have R := inv_rep hI
  have RO := rep_ref R
  have hn := R.1
  by_cases hga : 0 ≤ a ∧ a < wd M
  · rcases fr_slot hI.fr hga with ⟨e1, e2⟩ | ⟨p, hp, ec, en⟩
    · skip
      refine ok_L_forget hl (fun G q1 q2 => ?_)
      unfold T_L_forget
      rw [q1, q2]
      refine Or.inr (ok_X11_forget hl (fun G h1 => go_X11_forget_0 h1 (Or.inr ⟨⟨by omega, by omega⟩, cs_needRef_bad2 (Ct_fl h1) ha hf R hga ⟨by decide, by decide⟩ (Or.inl e1) (Or.inr ⟨rfl, inR2, ?_⟩)⟩)))
      refine H 2 _ _ inR2 (fun Qm hm => ok_X13_forget hl (fun G h2 => go_X13_forget_0 h2 (ms_isSlot1 (Ct_fl h2) ha hf hga (fun z2 => ms_known1 (Ct_fl h2) (fun z4 => ⟨z4, n10, fun _ => ms_isRefN (Ct_fl h2) (show Fs (up M 72 0 _) from hf) (show Num (up M 72 0 _) 80 from RO.1) (by omega) e2 (fun z5 => ms_fit0 (Ct_fl h2) (fun z6 => ⟨z6, n00, fun _ => ⟨Or.inl rfl, ?_⟩⟩))⟩)))))
      exact hm _ _ inR0 (inv_thr (inv_thr0 hI)) rfl (fun h => absurd h (by decide))
    · by_cases h3 : 3 ≤ M 82 p ∧ M 82 p ≤ 5
      · have hrf := ob_ref hI hp h3
        have hb2 := rf_inR hrf.1 hI.ob
        have hc19 := R.2.1 p (by omega)
        have hs := ref_siz (RO.2 p hp)
        have es : sizR M 80 p = 1 := by show (if M 82 p = 0 then M 74 (M 83 p).toNat + M 75 (M 83 p).toNat else if M 82 p = 6 then 2 * M 83 p else M 83 p) = 1; rw [if_neg (by omega), if_neg (by omega)]; exact (RO.2 p hp).2.2.2.2.2.1 h3.1 h3.2
        have e12 : M 12 (M 19 p).toNat = M 84 p := (at_in hI hp).2.2.2
        have fin : ∀ v : Int, (v = 0 ∨ v = 1) → (v = 0 ↔ M 87 (M 84 p).toNat = -1) → ∀ f1 : Nat → Int64, (f1 0 = if v = 0 then 0 else 1) → Qw 0 (up M 18 (M 84 p).toNat (-1)) f1 := by
          intro v hv hiff f1 hf1
          have hI2 : Inv (i + 1) (up (up (up M 18 (M 84 p).toNat (-1)) 72 0 0) 87 (M 84 p).toNat (-1)) := inv_cell3 (k := 0) hI rfl rfl hp (by omega) (fun _ => Or.inl ⟨rfl, rfl⟩) (fun _ => ⟨rfl, fun h => absurd h (by omega)⟩) (fun _ _ => rfl) (by omega) (gd_slot hI hga hp en) (fun _ => gn_none hI)
          refine H 0 _ _ inR0 (fun Qm hm => ok_X13_forget hl (fun G h2 => go_X13_forget_0 h2 (ms_isSlot1 (Ct_fl h2) ha (show Fs (up M 18 _ _) from hf) hga (fun z2 => ms_known1 (Ct_fl h2) (fun z4 => ⟨z4, n10, fun _ => ?_⟩)))))
          refine ms_isRefP (Ct_fl h2) (show Fs (up (up M 18 _ _) 72 0 _) from hf) (show Num (up (up M 18 _ _) 72 0 _) 80 from RO.1) (by omega) hp en.symm (fun _ z5 => ms_fit1 (Ct_fl h2) (fun z6 => ⟨z6, fun _ => ms_placeP (Ct_fl h2) (show Fs (up (up M 18 _ _) 72 0 _) from hf) (show Num (up (up M 18 _ _) 72 0 _) 80 from RO.1) (by omega) hp en.symm (fun z7 => ⟨⟨by omega, by omega⟩, fun z8 => ms_change (Ct_fl h2) ⟨show 0 ≤ M 84 p by omega, show M 84 p < 2048 by omega⟩ ⟨by decide, by decide⟩ (fun z9 => ⟨z9, ⟨by decide, by decide⟩, fun he => ⟨Or.inl rfl, ?_⟩, fun hne => ⟨Or.inr rfl, ?_⟩⟩)⟩), n10⟩)) (fun hn3 => absurd h3 hn3)
          · have he : M 87 (M 84 p).toNat = -1 := he
            exact hm _ _ inR0 hI2 rfl (fun _ => by rw [hf1, if_pos (hiff.mpr he)]; rfl)
          · have hne : M 87 (M 84 p).toNat ≠ -1 := hne
            exact hm _ _ inR1 hI2 rfl (fun _ => by rw [hf1, if_neg (fun z => hne (hiff.mp z))]; rfl)
        refine ok_L_forget hl (fun G q1 q2 => ?_)
        unfold T_L_forget
        rw [q1, q2]
        refine Or.inl (ok_X11_forget hl (fun G h1 => go_X11_forget_0 h1 (Or.inl (cs_needRef_ok (Ct_fl h1) ha hf R hga ⟨by decide, by decide⟩ hp ec h3 (fun z => cs_referentOf (Ct_fl h1) hc19 (by rw [e12]; exact hrf.2) ?_)))))
        rw [e12]
        refine fun z2 => ⟨z2, ⟨by decide, by decide⟩, fun he => cs_setReferent (Ct_fl h1) hc19 (by rw [e12]; exact hrf.2) ⟨by decide, by decide⟩ ?_, fun hne => cs_setReferent (Ct_fl h1) hc19 (by rw [e12]; exact hrf.2) ⟨by decide, by decide⟩ ?_⟩
        · rw [e12]
          exact ⟨Or.inl rfl, fun z3 => ⟨z3, fun _ f1 e9 => ⟨inR0, fin 0 (Or.inl rfl) ⟨fun _ => hb2.2.2.1.mp he, fun _ => rfl⟩ f1 (by subst e9; rw [updL0]; rfl)⟩, fun hne => absurd rfl hne⟩⟩
        · rw [e12]
          exact ⟨Or.inr rfl, fun z3 => ⟨z3, fun he => absurd he (by decide), fun _ f1 e9 => ⟨inR0, fin 1 (Or.inr rfl) ⟨fun h => absurd h (by decide), fun h => absurd (hb2.2.2.1.mpr h) hne⟩ f1 (by subst e9; rw [updL0]; rfl)⟩⟩⟩
      · skip
        refine ok_L_forget hl (fun G q1 q2 => ?_)
        unfold T_L_forget
        rw [q1, q2]
        refine Or.inr (ok_X11_forget hl (fun G h1 => go_X11_forget_0 h1 (Or.inr ⟨⟨by omega, by omega⟩, cs_needRef_bad2 (Ct_fl h1) ha hf R hga ⟨by decide, by decide⟩ (Or.inr ⟨p, hp, ec, h3⟩) (Or.inr ⟨rfl, inR2, ?_⟩)⟩)))
        refine H 2 _ _ inR2 (fun Qm hm => ok_X13_forget hl (fun G h2 => go_X13_forget_0 h2 (ms_isSlot1 (Ct_fl h2) ha hf hga (fun z2 => ms_known1 (Ct_fl h2) (fun z4 => ⟨z4, n10, fun _ => ms_isRefP (Ct_fl h2) (show Fs (up M 72 0 _) from hf) (show Num (up M 72 0 _) 80 from RO.1) (by omega) hp en.symm (fun h => absurd h h3) (fun _ z5 => ms_fit0 (Ct_fl h2) (fun z6 => ⟨z6, n00, fun _ => ⟨Or.inl rfl, ?_⟩⟩))⟩)))))
        exact hm _ _ inR0 (inv_thr (inv_thr0 hI)) rfl (fun h => absurd h (by decide))
  · skip
    refine ok_L_forget hl (fun G q1 q2 => ?_)
    unfold T_L_forget
    rw [q1, q2]
    refine Or.inr (ok_X11_forget hl (fun G h1 => go_X11_forget_0 h1 (Or.inr ⟨⟨by omega, by omega⟩, cs_needRef_bad1 (Ct_fl h1) ha hf hga (Or.inl ⟨rfl, inR1, ?_⟩)⟩)))
    refine H 1 _ _ inR1 (fun Qm hm => ok_X13_forget hl (fun G h2 => go_X13_forget_0 h2 (ms_isSlot0 (Ct_fl h2) ha hf hga (fun z3 => ms_known0 (Ct_fl h2) (fun z4 => ⟨z4, fun _ => ⟨Or.inl rfl, ?_⟩, n00⟩)))))
    exact hm _ _ inR0 (inv_thr hI) rfl (fun h => absurd h (by decide))
end Cells2
theorem st_19 : StpC Inv 19 := by
  intro i G b L xs qo k n x4 M f hC hz hfl h0 h5 hk hM hi hI next
  refine go_law_1772 hC hz hk ?_
  unfold T_law_1772
  refine ⟨⟨by omega, by omega⟩, fun a1 => ?_⟩
  refine ⟨⟨by omega, by omega⟩, fun a2 => ?_⟩
  refine ⟨⟨by omega, by omega⟩, fun a3 => ?_⟩
  refine pr_setByte hfl a1 a2 a3 hM hi hI f _ (fun r M1 f1 hr h2 => ?_)
  intro zr
  refine ⟨⟨by omega, by omega⟩, fun _ => ?_⟩
  refine ⟨⟨by omega, by omega⟩, fun _ => ?_⟩
  refine ⟨⟨by omega, by omega⟩, fun _ => ?_⟩
  refine h2 _ (fun v M2 hv hI2 ht he z2 => ?_)
  exact tail_I hfl hr ht he (next _ _ _ _ (by omega) (by omega) hI2)
theorem st_21 : StpC Inv 21 := by
  intro i G b L xs qo k n x4 M f hC hz hfl h0 h5 hk hM hi hI next
  refine go_law_1920 hC hz hk ?_
  unfold T_law_1920
  refine ⟨⟨by omega, by omega⟩, fun a1 => ?_⟩
  refine ⟨⟨by omega, by omega⟩, fun a2 => ?_⟩
  refine pr_refersTo hfl a1 a2 hM hi hI f _ (fun r M1 f1 hr h2 => ?_)
  intro zr
  refine ⟨⟨by omega, by omega⟩, fun _ => ?_⟩
  refine ⟨⟨by omega, by omega⟩, fun _ => ?_⟩
  refine h2 _ (fun v M2 hv hI2 ht he z2 => ?_)
  exact tail_Z hfl hr hv ht he (next _ _ _ _ (by omega) (by omega) hI2)
theorem st_22 : StpC Inv 22 := by
  intro i G b L xs qo k n x4 M f hC hz hfl h0 h5 hk hM hi hI next
  refine go_law_1995 hC hz hk ?_
  unfold T_law_1995
  refine ⟨⟨by omega, by omega⟩, fun a1 => ?_⟩
  refine pr_forget hfl a1 hM hi hI f _ (fun r M1 f1 hr h2 => ?_)
  intro zr
  refine ⟨⟨by omega, by omega⟩, fun _ => ?_⟩
  refine h2 _ (fun v M2 hv hI2 ht he z2 => ?_)
  exact tail_Z hfl hr hv ht he (next _ _ _ _ (by omega) (by omega) hI2)
