/-! ===== the reference takes an object of the IMAGE ===== -/
theorem bor_4i : bor 0 4 = 4 ∧ bor 1 4 = 5 := by decide +kernel
section TakeS
variable {B : WB} {l : Launch} {X : va_W} {Q : Int → Mem → Prop} {QV : Mem → Prop} {j p a k : Nat} {M M' V V1 : Mem} {o : Int}
theorem ms_take (hl : l.stackTraces = false) (hI : Inv j V) (hj : j ≤ 1000) (r : JnR M V) (hT : TgOk V p) (hw : (o = 0 ∧ V 6 18 + nwW V (imF V p) (V 77 (p + 1)) ≤ 96) ∨ (o = 1 ∧ V 6 19 + nwW V (imF V p) (V 77 (p + 1)) ≤ 320)) (hnum : V 80 2 + 1 ≤ 1000 * j)
    (hfound : ∀ q : Nat, V 77 p = 3 → (q : Int) < V 80 0 → LikeI V p q → (∀ r : Nat, r < q → ¬ LikeI V p r) → Nted V V1 (V 81 q) ∧ ∀ M', JnR M' V1 → (∀ o k : Nat, o ≠ 109 → M' o k = M o k) → Q (V 81 q) M')
    (hmade : ∀ M', (V 77 p = 3 → ∀ q : Nat, (q : Int) < V 80 0 → ¬ LikeI V p q) → JnR M' (mdV V p o) → (∀ a k : Nat, a < 80 ∨ 87 < a → M' a k = M a k) → Q (V 80 2) M') : OkI B l md_X13_take 0 0 [.ref (ad B 72), .int (I (p : Int)), .int (I o)] X M Q NoX := by
  obtain ⟨p2, hh, p3, p4⟩ := hT
  have hl9 := hI.im.2.1
  have hs := hd_sz hI hh
  have hf := hd_fm hh
  have hrm := nw_room hI hf hw
  have hrm2 : V 80 1 + imS V p ≤ 1664 := hrm.2
  have hat := at_nn hI
  have hnV := hI.ob.1
  have hh1 := hh.1
  have e77 := jnr_77 r
  have hlen : 0 ≤ V 77 (p + 1) ∧ (V 77 p = 3 → V 77 (p + 1) ≤ 120 ∧ imS V p = V 77 (p + 1)) := ⟨hh.2.1, fun e3 => ⟨hh.2.2.2.2 (by omega), by unfold imS nwS imF; rw [if_pos e3]; rfl⟩⟩
  have hFi : 0 ≤ imF V p ∧ imF V p ≤ 2 := by
    unfold imF
    split <;> omega
  refine ok_X13_take hl (fun G h => ?_)
  have f := Ct_fl h
  have l88 : ∀ s0 : Int, s0 = o + 4 * (if V 77 p = 3 then 1 else 0) + 8 * (if 3 ≤ imF V p ∧ imF V p ≤ 5 then (0 : Int) else 0) → (V 77 p = 3 → ∀ q : Nat, (q : Int) < V 80 0 → ¬ LikeI V p q) → L_X13_take_88 G X (p : Int) (V 77 (p + 1)) s0 (V 77 (p + 1)) (imF V p) M := by
    intro s0 hs0 hno
    have hit : (if V 77 p = 3 then (1 : Int) else 0) = 0 ∨ ((if V 77 p = 3 then (1 : Int) else 0) = 1 ∧ imF V p = 2) := by
      by_cases e3 : V 77 p = 3
      · rw [if_pos e3]; exact Or.inr ⟨rfl, by unfold imF; rw [if_pos e3]⟩
      · rw [if_neg e3]; exact Or.inl rfl
    refine go_X13_take_88 h (ms_makeF (i := j) (N := V) (o := o) (q := 0) (it := if V 77 p = 3 then 1 else 0) f hI hj r hf hw hit (Or.inl rfl) hs0 (fun M1 r1 f1 z => ?_))
    have r1 : JnR M1 (mdO V p o) := r1
    obtain ⟨m, hm⟩ : ∃ m : Nat, m = (V 80 0).toNat := ⟨_, rfl⟩
    have v82 : mdO V p o 82 m = imF V p := by unfold mdO; rw [nwf_e (by omega), hm, nw_n ⟨by decide, by decide⟩]; rfl
    have v83 : mdO V p o 83 m = V 77 (p + 1) := by unfold mdO; rw [nwf_e (by omega), hm, nw_n ⟨by decide, by decide⟩]; rfl
    have v84 : mdO V p o 84 m = V 80 1 := by unfold mdO; rw [nwf_e (by omega), hm, nw_n ⟨by decide, by decide⟩]; rfl
    have v80 : mdO V p o 80 0 = V 80 0 + 1 := by unfold mdO; rw [nwf_e (by omega), nw_80, if_pos rfl]
    have vk : ∀ a k : Nat, a = 74 ∨ a = 75 → mdO V p o a k = V a k := fun a k h => by unfold mdO; exact nwf_k (by omega)
    obtain ⟨r8, r80, r7⟩ := jnr_get r1
    have c80 : M1 80 0 = V 80 0 + 1 := (r80 0 (by decide)).trans v80
    have c82 : M1 82 m = imF V p := (r8 82 m (by decide) (by decide)).trans v82
    have c83 : M1 83 m = V 77 (p + 1) := (r8 83 m (by decide) (by decide)).trans v83
    have c84 : M1 84 m = V 80 1 := (r8 84 m (by decide) (by decide)).trans v84
    have c74 : ∀ k, M1 74 k = V 74 k := fun k => (r7 74 k (by decide) (by decide)).trans (vk 74 k (by omega))
    have c75 : ∀ k, M1 75 k = V 75 k := fun k => (r7 75 k (by decide) (by decide)).trans (vk 75 k (by omega))
    have cm : M1 80 0 - 1 = ((m : Nat) : Int) := by omega
    rw [cm]
    have eL : lnkR M1 80 m = imL V p := by
      show (if M1 82 m = 0 then M1 74 (M1 83 m).toNat else if M1 82 m = 1 then M1 83 m else 0) = _
      rw [c82, c83, c74]
      unfold imF imL
      by_cases e3 : V 77 p = 3
      · rw [if_pos e3, if_neg (by decide), if_neg (by decide), if_neg (by omega), if_neg (by omega)]
      · rw [if_neg e3]
    have hof := of_bd hI hf
    refine fun _ => ms_links (o := 80) (Or.inl rfl) f m (by omega) (fun e0 => ?_) ?_
    · have e0 : M1 82 m = 0 := e0
      show 0 ≤ M1 83 m ∧ M1 83 m < 12
      rw [c83]
      rw [c82] at e0
      exact ⟨hof.1, hof.2.2 e0⟩
    · rw [eL]
      refine fun z2 => ⟨⟨by omega, by omega⟩, ?_⟩
      show inR (M1 82 m) → OkI (gB G) (gl G) md_X13_size 0 0 [.ref (ad (gB G) 72), .int (I (M1 82 m)), .int (I (V 77 (p + 1)))] X M1 (fun r128 M3 => inR r128 → L_X13_take_137 G X (p : Int) (V 80 2) (m : Int) r128 (imL V p) M3) NoX
      rw [c82]
      have es : (if imF V p = 0 then M1 74 (V 77 (p + 1)).toNat + M1 75 (V 77 (p + 1)).toNat else if imF V p = 6 then 2 * V 77 (p + 1) else V 77 (p + 1)) = imS V p := by rw [c74, c75]; rfl
      refine fun z3 => ms_size f z3 ⟨by omega, by omega⟩ (fun e0 => ⟨hof.1, hof.2.2 e0⟩) (by rw [es]; exact ⟨by omega, by omega⟩) ?_
      rw [es]
      intro z4
      have loop : ∀ (d t : Nat) (M2 : Mem), imL V p ≤ t → (t : Int) + d = imS V p → (∀ a k, a ≠ 87 → M2 a k = M1 a k) → (∀ k : Nat, M2 87 k = if V 80 1 + imL V p ≤ (k : Int) ∧ (k : Int) < V 80 1 + t then V 77 (p + 2 + (k - (V 80 1).toNat)) else M1 87 k) → L_X13_take_137 G X (p : Int) (V 80 2) (m : Int) (imS V p) (t : Int) M2 := by
        intro d
        induction d with
        | zero =>
          intro t M2 hLt ht g g87
          refine go_X13_take_137 h ⟨⟨by omega, by omega⟩, z4, fun _ => ⟨z, hmade M2 hno ⟨⟨fun d k hd hdk => ?_, fun a k h1 h2 => ?_, ?_⟩, fun a k ho => ?_, fun a ho => ?_⟩ (fun a k ha => (g a k (by omega)).trans (f1 a k ha))⟩, fun hlt => absurd hlt (by omega)⟩
          · by_cases h7 : d = 7
            · subst h7
              show M2 87 k = mdV V p o 87 k
              rw [g87]
              unfold mdV
              by_cases hin : V 80 1 + imL V p ≤ (k : Int) ∧ (k : Int) < V 80 1 + imS V p
              · rw [if_pos ⟨hin.1, by omega⟩, if_pos ⟨Or.inr rfl, hin.1, hin.2⟩]
              · rw [if_neg (by omega), if_neg (fun z => hin z.2)]
                exact r8 87 k (by decide) (by decide)
            · rw [g _ k (by omega), md_o (by omega) (by omega)]
              exact r1.1.1 d k hd hdk
          · rw [g a k (by omega), md_o (by omega) (by omega)]
            exact r1.1.2.1 a k h1 h2
          · rw [g 72 1 (by decide), md_o (by decide) (by decide)]
            exact r1.1.2.2
          · rw [g a k (by omega), md_o (by omega) (by omega)]
            exact r1.2.1 a k ho
          · have h1 : a ≠ 87 := by unfold isHp at ho; omega
            rw [g a 25 h1, g a 26 h1]
            exact r1.2.2 a ho
        | succ d ih =>
          intro t M2 hLt ht g g87
          have d84 : M2 84 m = V 80 1 := (g 84 m (by decide)).trans c84
          have d77 : M2 77 (p + 2 + t) = V 77 (p + 2 + t) := ((g 77 _ (by decide)).trans (f1 77 _ (by omega))).trans (e77 _)
          refine go_X13_take_137 h ⟨⟨by omega, by omega⟩, z4, fun hge => absurd hge (by omega), fun _ => ⟨⟨by omega, by omega⟩, ?_⟩⟩
          rw [show M2 84 ((m : Nat) : Int).toNat = V 80 1 from d84, show ((p : Int) + 2 + (t : Int)).toNat = p + 2 + t by omega, d77, show (V 80 1 + (t : Int)).toNat = (V 80 1).toNat + t by omega]
          refine fun _ => ⟨⟨by omega, by omega⟩, fun z6 => ⟨⟨by omega, by omega⟩, z6, fun M3 e3 => ?_⟩⟩
          refine ih (t + 1) M3 (by omega) (by omega) (fun a k ha => by rw [e3, up_ne (fun z => ha z.1)]; exact g a k ha) (fun k => ?_)
          rw [e3]
          by_cases hk : k = (V 80 1).toNat + t
          · subst hk
            rw [up_s, if_pos ⟨by omega, by omega⟩, show (V 80 1).toNat + t - (V 80 1).toNat = t by omega]
          · rw [up_k hk, g87]
            by_cases hin : V 80 1 + imL V p ≤ (k : Int) ∧ (k : Int) < V 80 1 + (t : Int)
            · rw [if_pos hin, if_pos ⟨hin.1, by omega⟩]
            · rw [if_neg hin, if_neg (by omega)]
      have := loop (imS V p - imL V p).toNat (imL V p).toNat M1 (by omega) (by omega) (fun _ _ _ => rfl) (fun k => by rw [if_neg (by omega)])
      rw [show (((imL V p).toNat : Nat) : Int) = imL V p by omega] at this
      exact this
  have hz : (8 : Int) * (if 3 ≤ imF V p ∧ imF V p ≤ 5 then (0 : Int) else 0) = 0 := by split <;> rfl
  refine go_X13_take_0 h ?_
  unfold T_X13_take_0
  rw [show M 77 ((p : Int)).toNat = V 77 p from e77 p, show M 77 ((p : Int) + (1 : Int)).toNat = V 77 (p + 1) by rw [show ((p : Int) + 1).toNat = p + 1 by omega]; exact e77 _]
  refine ⟨⟨by omega, by omega⟩, fun z => ⟨⟨by omega, by omega⟩, fun z2 => ⟨z, ⟨by decide, by decide⟩, fun n3 => ?_, fun e3 => ?_⟩⟩⟩
  · refine go_X13_take_42 h ⟨⟨by decide, by decide⟩, ⟨by decide, by decide⟩, fun _ => ⟨z, inR2, z, ⟨by decide, by decide⟩, fun _ => ?_, fun e3 => absurd e3 n3⟩, fun hne => absurd rfl hne⟩
    rw [imf_min hh1.2]
    exact l88 o (by rw [hz, if_neg n3]; omega) (fun e3 => absurd e3 n3)
  · obtain ⟨len1, len2⟩ := hlen.2 e3
    refine ms_findI f hI r ⟨hlen.1, len1⟩ (by omega) (fun q hq h2 hL hfst z3 => ?_) (fun hnone z3 => ?_)
    · obtain ⟨nt, hq2⟩ := hfound q e3 hq hL hfst
      obtain ⟨r8, r80, r7⟩ := jnr_get r
      refine go_X13_take_42 h ⟨z3, ⟨by decide, by decide⟩, fun he => absurd he (by omega), fun _ => ⟨⟨by omega, by omega⟩, ?_⟩⟩
      rw [show M 81 ((q : Nat) : Int).toNat = V 81 q from r8 81 q (by decide) (by decide)]
      exact fun z5 => ms_readV f hI r z5 nt (fun M' r' f' z6 => ⟨z6, hq2 M' r' f'⟩)
    · refine go_X13_take_42 h ⟨⟨by decide, by decide⟩, ⟨by decide, by decide⟩, fun _ => ⟨z, inR2, z, ⟨by decide, by decide⟩, fun n3 => absurd e3 n3, fun _ z5 => ?_⟩, fun hne => absurd rfl hne⟩
      rw [imf_min hh1.2]
      refine l88 _ ?_ (fun _ => hnone)
      rw [hz, if_pos e3]
      rcases hw with ⟨e0, -⟩ | ⟨e0, -⟩
      · rw [e0, bor_4i.1]; omega
      · rw [e0, bor_4i.2]; omega
end TakeS
