/-! ===== isMarked, walked ===== -/
section Mrk2
variable {G : GT} {B : WB} {l : Launch} {S S0 Sn : Sh} {D D1 N V W K C M M1 : Mem} {c : SC} {K9 N9 k n m : Nat} {Q : Int → Sh → Mem → Mem → Prop} {i j p q : Nat} {t6 : Nat} {x2 x3 x4 x5 x8 a b : Int}
theorem mk_154 (h : CtU G md_L_isMarked [] S0 (uA kZ Q) B l K9 N9) (hX : Xs S0 S) (bd : k ≤ K9 ∧ n ≤ N9) (rx3 : inR x3) (rx5 : inR x5) (rx4 : inR (x4 + 1)) (e8 : x8 = x3) (e4 : W 80 4 = x4 + 1) (hA : IsA S t6 101 x5.toNat) (hD : ∀ k : Nat, (k : Int) < x5 → D t6 k ≠ 0 → RchN W k) (hq : ∀ M1, Inv j M1 → Agr rel M1 W → Q 1 S D M1) : ∀ (t : Nat) (x9 : Int) (M1 : Mem), (x5 - x9).toNat = t → 0 ≤ x9 → x9 ≤ x5 → Inv j M1 → Agr rel M1 W → L_L_isMarked_154 G S D M1 k n x3 x4 x5 t6 x8 x9 := by
  subst e8
  intro t
  induction t with
  | zero =>
    intro x9 M1 ht h0 h1 I1 g
    exact go_L_isMarked_154 h hX ⟨⟨by omega, by have := rx5.2; omega⟩, rx5, fun _ => ⟨rx3, rx3, fun hne => absurd rfl hne, fun _ => ⟨bd, qw_fulls (CtU_fl h) I1 g (fun z => ⟨z, rx4, fun hne => absurd e4 hne, fun _ => ⟨bd, Or.inr rfl, hq M1 I1 g⟩⟩)⟩⟩, fun hlt => absurd hlt (by omega)⟩
  | succ t ih =>
    intro x9 M1 ht h0 h1 I1 g
    have rx : inR x9 := ⟨by omega, by have := rx5.2; omega⟩
    have ex : ((x9.toNat : Nat) : Int) = x9 := by omega
    have hd : D t6 x9.toNat ≠ 0 → RchN W x9 := fun z => by
      have := hD x9.toNat (by omega) z
      rw [ex] at this
      exact this
    exact go_L_isMarked_154 h hX ⟨rx, rx5, fun hge => absurd hge (by omega), fun _ => ⟨⟨_, hA, h0, by omega⟩, fun rd => ⟨rd, fun _ => ih (x9 + 1) M1 (by omega) (by omega) (by omega) I1 g, fun hn => ⟨bd, qw_reached (CtU_fl h) I1 g rx (fun M2 I2 g2 z => ⟨z, fun _ => ih (x9 + 1) M2 (by omega) (by omega) (by omega) I2 g2, fun hz => absurd hz (by rw [ind_pos (hd hn)]; decide)⟩)⟩⟩⟩⟩
theorem mk_offL (h : CtU G md_L_isMarked [] S0 (uA kZ Q) B l K9 N9) (hX : Xs S0 S) (bd : k ≤ K9 ∧ n ≤ N9) (rx3 : inR x3) (rx5 : inR x5) (h5 : 0 ≤ x5) (rx4 : inR (x4 + 1)) (e8 : x8 = x3) (e4 : W 80 4 = x4 + 1) (hoff : W 72 10 = 0) (hA : IsA S t6 101 x5.toNat) (hD : ∀ k : Nat, (k : Int) < x5 → D t6 k ≠ 0 → RchN W k) (hq : ∀ M1, Inv j M1 → Agr rel M1 W → Q 1 S D M1) (I1 : Inv j M1) (g : Agr rel M1 W) : L_L_isMarked_76 G S D M1 k n (s_m c) x2 x3 x4 x5 t6 x8 :=
  go_L_isMarked_76 h hX ⟨bd, qw_marking (CtU_fl h) I1 g (fun z => ⟨z, fun _ => mk_154 h hX bd rx3 rx5 rx4 e8 e4 hA hD hq x5.toNat 0 M1 (by omega) (by decide) h5 I1 g, fun hne => absurd hoff hne⟩)⟩
/-- the law's own memory does a step -/
theorem mk_due (hl : l.stackTraces = false) (hI : Inv i V) (hi : i + 1 ≤ 1000) (hon : V 72 10 = 1) (hx : 1 ≤ x2 ∧ x2 ≤ 50) (hno : lk S t6 = none) (hnoN : lk Sn t6 = none) (hR : SR V ((S ++ [(t6, (18, 0, m))]) ++ Sn) D c) : OkU B l md_X12_due [] 0 0 [rv (s_m c), .int (I 37), .int (I x2), .int (I 0), .int (I 0)] ((S ++ [(t6, (18, 0, m))]) ++ Sn) D M (uS kI M (fun r S1 D1 => S1 = ((S ++ [(t6, (18, 0, m))]) ++ Sn) ∧ (∀ j, D1 t6 j = D t6 j) ∧ ((x2 < V 33 2 - V 72 11 → r = x2 ∧ ∀ V', VsN V V' (V 72 11 + x2) → SR V' ((S ++ [(t6, (18, 0, m))]) ++ Sn) D1 c) ∧ (V 33 2 - V 72 11 ≤ x2 → r = V 33 2 - V 72 11 ∧ SR (colW (vis9 V) 0) ((S ++ [(t6, (18, 0, m))]) ++ Sn) D1 c)))) := by
  have h3 := hI.co.2.1
  have h4 := hI.co.2.2
  have hI1 := inv_keep i _ hI
  have rx2 : inR x2 := ⟨by omega, by omega⟩
  have l6 : lk ((S ++ [(t6, (18, 0, m))]) ++ Sn) t6 = some (18, 0, m) := lk_app (lk_new hno)
  have hsmN : lk (S ++ Sn) t6 = none := by
    cases hh : lk (S ++ Sn) t6 with
    | none => rfl
    | some x =>
      obtain ⟨k1, hk1⟩ := lk_get hh
      exfalso
      rcases List.mem_append.mp (List.mem_of_getElem? hk1) with z | z
      · obtain ⟨y, hy⟩ := lk_mem z
        have hy : lk S t6 = some y := hy
        rw [hno] at hy
        cases hy
      · obtain ⟨y, hy⟩ := lk_mem z
        have hy : lk Sn t6 = some y := hy
        rw [hnoN] at hy
        cases hy
  have hin : ∀ a x, lk (S ++ Sn) a = some x → lk ((S ++ [(t6, (18, 0, m))]) ++ Sn) a = some x := fun a x ha => by
    have ne : a ≠ t6 := fun z => by rw [z, hsmN] at ha; cases ha
    rw [lk_mid ne]
    exact ha
  have hsm : SR V (S ++ Sn) D c := sr_lk (fun a r o n9 ha hr => by
    have ne : a ≠ t6 := fun z => by
      rw [z, l6] at ha
      cases ha
      exact hr rfl
    rw [lk_mid ne] at ha
    exact ha) hR
  have hd := du_37 (B := B) (l := l) (kc := 0) (nc := 0) (M := M) (a := x2) (b := 0) (e := 0) (Q := fun r S9 D9 => S9 = S ++ Sn ∧ ((x2 < V 33 2 - V 72 11 → r = x2 ∧ ∀ V', VsN V V' (V 72 11 + x2) → SR V' (S ++ Sn) D9 c) ∧ (V 33 2 - V 72 11 ≤ x2 → r = V 33 2 - V 72 11 ∧ SR (colW (vis9 V) 0) (S ++ Sn) D9 c))) hl hI1 hsm rx2 (by omega) (by push_cast; omega) (by push_cast; omega) (fun hh => absurd hx hh) (fun _ hh => absurd (hh.symm.trans hon) (by decide)) (fun _ _ hlt D9 hh => ⟨rfl, fun _ => ⟨rfl, hh⟩, fun hle => absurd hle (by omega)⟩) (fun _ _ hle D9 hh => ⟨rfl, fun hlt => absurd hlt (by omega), fun _ => ⟨rfl, hh⟩⟩)
  have hd2 : OkU B l md_X12_due [] 0 0 [rv (s_m c), .int (I 37), .int (I x2), .int (I 0), .int (I 0)] (S ++ Sn) D M (uD kI (S ++ Sn) M (fun r D9 => (x2 < V 33 2 - V 72 11 → r = x2 ∧ ∀ V', VsN V V' (V 72 11 + x2) → SR V' (S ++ Sn) D9 c) ∧ (V 33 2 - V 72 11 ≤ x2 → r = V 33 2 - V 72 11 ∧ SR (colW (vis9 V) 0) (S ++ Sn) D9 c))) :=
    OkU_mono hd (fun v S9 D9 M9 _ _ _ ⟨g1, r, g3, g4, g5⟩ => ⟨g4.symm, g1, r, g3, g5⟩)
  refine OkU_mono (OkU_frameI (So := [(t6, (18, 0, m))]) hin hd2) (fun v S9 D9 M9 _ _ _ ⟨g1, g2, r, g3, D2, ⟨q1, q2⟩, hs1, hs2⟩ => ⟨g2, r, g3, g1.symm, fun jj => hs2 t6 hsmN jj, fun hlt => ⟨(q1 hlt).1, fun V' hv => ?_⟩, fun hle => ⟨(q2 hle).1, ?_⟩⟩)
  · refine sr_lk (fun a r o n9 ha _ => hin a _ ha) (sr_on (fun z => ?_) Xs.rf (fun a y ha jj => hs1 a y ha jj) ((q1 hlt).2 V' hv))
    have e97 : V' 97 0 = V 97 0 := hv.1 97 0 (by omega)
    have e80 : V' 80 0 = V 80 0 := hv.1 80 0 (by omega)
    rw [e97, e80]
    exact pi_le hI hon
  · exact sr_lk (fun a r o n9 ha _ => hin a _ ha) (sr_on (fun z => absurd ((mark_end hI hon).2.2.2.1.symm.trans z) (by decide)) Xs.rf (fun a y ha jj => hs1 a y ha jj) (q2 hle).2)
/-- a step, done to both -/
theorem mk_76 (h : CtU G md_L_isMarked [] S0 (uA kZ Q) B l K9 N9) (hX : Xs S0 ((S ++ [(t6, (18, 0, m))]) ++ Sn)) (bd : k ≤ K9 ∧ n ≤ N9) (hi : i + 1 ≤ 1000) (hx : 1 ≤ x2 ∧ x2 ≤ 50) (hno : lk S t6 = none) (hnoN : lk Sn t6 = none) (rx3 : inR x3) (rx5 : inR (m : Int)) (rx4 : inR (x4 + 1)) (e4 : N 80 4 = x4) (hq : ∀ D1 M1 N', Eq72 N' M1 → Inv (i + 1) N' → SR N' ((S ++ [(t6, (18, 0, m))]) ++ Sn) D1 c → N' 72 1 = N 72 1 → Q 1 ((S ++ [(t6, (18, 0, m))]) ++ Sn) D1 M1) : ∀ (d : Nat) (V D : Mem) (x8 : Int), (x3 - x8).toNat ≤ d → Inv i V → V 72 10 = 1 → V 72 11 = x8 → V 33 2 = x3 → Agr rM9 V N → SR V ((S ++ [(t6, (18, 0, m))]) ++ Sn) D c → (∀ k : Nat, k < m → D t6 k = ind (RchN N k)) → 0 ≤ x8 → (x8 < x3 ∨ (x8 = 0 ∧ x3 = 0)) → L_L_isMarked_76 G ((S ++ [(t6, (18, 0, m))]) ++ Sn) D V k n (s_m c) x2 x3 x4 m t6 x8 := by
  have rx2 : inR x2 := ⟨by omega, by omega⟩
  intro d
  induction d with
  | zero =>
    intro V D x8 hd hI hon hv hs g9 hR hD h0 hc
    have step := fun M => mk_due (B := gB G) (l := gl G) (M := M) (x2 := x2) (CtU_fl h) hI hi hon hx hno hnoN hR
    refine go_L_isMarked_76 h hX ⟨bd, qw_marking (CtU_fl h) hI agr0 (fun z => ⟨z, fun hz => absurd (hz.symm.trans hon) (by decide), fun _ => ⟨bd, cc_step (CtU_fl h) hI hi hon hx (fun hlt => absurd hlt (by omega)) (fun hle M2 a2 s2 => ?_)⟩⟩)⟩
    refine fun z85 => ⟨⟨0, 0, 21, hR.l.1, rfl⟩, 0, 0, ⟨bd.1, bd.2⟩, OkU_mono (step M2) (fun v S9 D9 M9 _ _ _ ⟨g1, r, g3, g4, g5, g6, g7⟩ => ⟨g1, r, g3, fun z105 _ => ?_⟩)⟩
    subst g4
    obtain ⟨er, hsr⟩ := g7 hle
    obtain ⟨f1, f2, f3, f4, f5⟩ := mark_end hI hon
    have h3' := hI.co.2.1
    have h4' := hI.co.2.2
    have hW := inv_colW (i := i + 1) (inv_keep i _ (inv_vis9 hI hon)) (w := 0) ⟨by decide, fun _ => hon, fun e => absurd rfl e⟩ (show V 80 3 + 1 ≤ _ by push_cast; omega) (show V 80 4 + 1 ≤ _ by push_cast; omega)
    obtain ⟨G1, G2, G3⟩ := gho_all hW a2 s2
    have e84 : V 80 4 = N 80 4 := g9 80 4 rfl
    rw [← er]
    refine ⟨by rw [← er] at z85; exact z85, z105, fun hne => absurd rfl hne, fun _ => ⟨z105, fun hneg => absurd hneg (by omega), fun _ => ⟨z105, rx2, fun hgt => absurd hgt (by omega), fun _ => ⟨⟨by omega, by have := rx3.2; omega⟩, rx3, fun hgt => absurd hgt (by omega), fun _ => ⟨⟨bd.1, bd.2⟩, ?_⟩⟩⟩⟩⟩
    refine Ok_swap G1 (qw_marking (CtU_fl h) G2 G3 (fun z129 => ⟨⟨by omega, by have := rx3.2; omega⟩, rx3, fun _ => ⟨z129, inR0, fun _ => ?_, fun hne => absurd f4 hne⟩, fun hlt => absurd hlt (by omega)⟩))
    exact mk_offL (j := i + 1) (W := colW (vis9 V) 0) h hX bd rx3 rx5 (by omega) rx4 (by omega) (by omega) f4 ⟨18, 0, by rw [Int.toNat_natCast]; exact lk_app (lk_new hno), rfl⟩ (fun k hk hd => f1 k ((rchN_9 g9).mpr (ind_iff.mp (ind01_ne (by rw [← hD k (by omega), ← g5 k]; exact hd))))) (fun M3 I3 g3 => hq D9 M3 M3 eq72_rf I3 (sr_rel g3 hsr) ((g3 72 1 rfl).trans (f5.trans (g9 72 1 rfl)))) G2 G3
  | succ d ih =>
    intro V D x8 hd hI hon hv hs g9 hR hD h0 hc
    have step := fun M => mk_due (B := gB G) (l := gl G) (M := M) (x2 := x2) (CtU_fl h) hI hi hon hx hno hnoN hR
    refine go_L_isMarked_76 h hX ⟨bd, qw_marking (CtU_fl h) hI agr0 (fun z => ⟨z, fun hz => absurd (hz.symm.trans hon) (by decide), fun _ => ⟨bd, cc_step (CtU_fl h) hI hi hon hx (fun hlt V' M1 hE I' hvs => ?_) (fun hle M2 a2 s2 => ?_)⟩⟩)⟩
    · refine fun z85 => ⟨⟨0, 0, 21, hR.l.1, rfl⟩, 0, 0, ⟨bd.1, bd.2⟩, OkU_mono (step M1) (fun v S9 D9 M9 _ _ _ ⟨g1, r, g3, g4, g5, g6, g7⟩ => ⟨g1, r, g3, fun z105 _ => ?_⟩)⟩
      subst g4
      obtain ⟨er, hsr⟩ := g6 hlt
      subst er
      have e10 : V' 72 10 = 1 := (hvs.1 72 10 (by omega)).trans hon
      have e11 : V' 72 11 = x8 + r := by rw [hvs.2, hv]
      have e33 : V' 33 2 = x3 := (hvs.1 33 2 (by omega)).trans hs
      have g9' : Agr rM9 V' N := fun o k hk => by
        refine (hvs.1 o k ?_).trans (g9 o k hk)
        unfold rM9 at hk
        simp only [Bool.or_eq_true, Bool.and_eq_true, Nat.beq_eq, Nat.ble_eq] at hk
        omega
      refine ⟨z85, z105, fun hne => absurd rfl hne, fun _ => ⟨z85, fun hneg => absurd hneg (by omega), fun _ => ⟨z85, rx2, fun hgt => absurd hgt (by omega), fun _ => ⟨⟨by omega, by have := rx3.2; omega⟩, rx3, fun hgt => absurd hgt (by omega), fun _ => ⟨⟨bd.1, bd.2⟩, ?_⟩⟩⟩⟩⟩
      refine Ok_swap hE (qw_marking (CtU_fl h) I' agr0 (fun z129 => ⟨⟨by omega, by have := rx3.2; omega⟩, rx3, fun hge => absurd hge (by omega), fun _ => ⟨z129, inR1, fun _ => ?_, fun hne => absurd e10 hne⟩⟩))
      exact ih V' D9 (x8 + r) (by omega) I' e10 e11 e33 g9' (hsr V' hvs) (fun k hk => (g5 k).trans (hD k hk)) (by omega) (Or.inl (by omega))
    · refine fun z85 => ⟨⟨0, 0, 21, hR.l.1, rfl⟩, 0, 0, ⟨bd.1, bd.2⟩, OkU_mono (step M2) (fun v S9 D9 M9 _ _ _ ⟨g1, r, g3, g4, g5, g6, g7⟩ => ⟨g1, r, g3, fun z105 _ => ?_⟩)⟩
      subst g4
      obtain ⟨er, hsr⟩ := g7 hle
      obtain ⟨f1, f2, f3, f4, f5⟩ := mark_end hI hon
      have h3' := hI.co.2.1
      have h4' := hI.co.2.2
      have hW := inv_colW (i := i + 1) (inv_keep i _ (inv_vis9 hI hon)) (w := 0) ⟨by decide, fun _ => hon, fun e => absurd rfl e⟩ (show V 80 3 + 1 ≤ _ by push_cast; omega) (show V 80 4 + 1 ≤ _ by push_cast; omega)
      obtain ⟨G1, G2, G3⟩ := gho_all hW a2 s2
      have e84 : V 80 4 = N 80 4 := g9 80 4 rfl
      rw [← er]
      refine ⟨by rw [← er] at z85; exact z85, z105, fun hne => absurd rfl hne, fun _ => ⟨z105, fun hneg => absurd hneg (by omega), fun _ => ⟨z105, rx2, fun hgt => absurd hgt (by omega), fun _ => ⟨⟨by omega, by have := rx3.2; omega⟩, rx3, fun hgt => absurd hgt (by omega), fun _ => ⟨⟨bd.1, bd.2⟩, ?_⟩⟩⟩⟩⟩
      refine Ok_swap G1 (qw_marking (CtU_fl h) G2 G3 (fun z129 => ⟨⟨by omega, by have := rx3.2; omega⟩, rx3, fun _ => ⟨z129, inR0, fun _ => ?_, fun hne => absurd f4 hne⟩, fun hlt => absurd hlt (by omega)⟩))
      exact mk_offL (j := i + 1) (W := colW (vis9 V) 0) h hX bd rx3 rx5 (by omega) rx4 (by omega) (by omega) f4 ⟨18, 0, by rw [Int.toNat_natCast]; exact lk_app (lk_new hno), rfl⟩ (fun k hk hd => f1 k ((rchN_9 g9).mpr (ind_iff.mp (ind01_ne (by rw [← hD k (by omega), ← g5 k]; exact hd))))) (fun M3 I3 g3 => hq D9 M3 M3 eq72_rf I3 (sr_rel g3 hsr) ((g3 72 1 rfl).trans (f5.trans (g9 72 1 rfl)))) G2 G3
theorem w_isMarked (hl : l.stackTraces = false) (hI : Inv i N) (hi : i + 1 ≤ 300) (off : N 72 10 = 0) (hR : SR N S D c) (hx : 1 ≤ x2 ∧ x2 ≤ 50) (hK : 625 ≤ K9) (hN9 : (N 80 2).toNat + 8320 ≤ N9) (hq : ∀ S1 D1 M2 N', Xs S S1 → Eq72 N' M2 → Inv (i + 1) N' → SR N' S1 D1 c → N' 72 1 = N 72 1 → Q 1 S1 D1 M2) : OkU B l md_L_isMarked [] K9 N9 [.ref (ad B 0), rv (s_m c), .int (I x2)] S D N (uA kZ Q) := by
  have hmd := hI.ob.2.2.1.2
  have hco := hI.co.2.2
  have rx2 : inR x2 := ⟨by omega, by omega⟩
  refine ok_L_isMarked hl (fun G h => go_L_isMarked_0 h Xs.rf ⟨⟨by omega, by omega⟩, qw_reachedN (CtU_fl h) hI agr0 (fun Ma Ia ga ra z1 => ⟨⟨by omega, by omega⟩, qw_fulls (CtU_fl h) Ia ga (fun z2 => ⟨⟨by omega, by omega⟩, qw_made (CtU_fl h) Ia ga (fun z => ⟨⟨hmd.1, by omega, by omega, by omega⟩, fun q6 S1 D1 q60 hn6 eS1 eD1 => ?_⟩)⟩)⟩)⟩)
  obtain ⟨m, hm⟩ : ∃ m : Nat, m = (N 80 2).toNat := ⟨_, rfl⟩
  have em : (m : Int) = N 80 2 := by omega
  have hsum := rc_all hI
  have e12 : 0 ≤ rcN N (N 80 2).toNat := (rcN_b N _).1
  have l6 : lk S1 q6 = some (18, 0, m) := by rw [eS1, hm]; exact lk_new hn6
  have eS : S1 = S ++ [(q6, (18, 0, m))] := by rw [eS1, hm]
  have eD6 : ∀ jj, D1 q6 jj = 0 := fun jj => by rw [eD1]; exact zr_q
  have eDo : ∀ a y, lk S a = some y → ∀ jj, D1 a jj = D a jj := fun a y ha jj => by
    have ne : a ≠ q6 := fun z => by rw [z, hn6] at ha; cases ha
    rw [eD1]
    unfold zr
    rw [if_neg ne]
  rw [← em] at z ⊢
  have emt : ((m : Nat) : Int).toNat = m := Int.toNat_natCast m
  have bd : 0 + 1 + 624 ≤ K9 ∧ 0 + ((m : Nat) : Int).toNat + 8320 ≤ N9 := ⟨by omega, by omega⟩
  generalize 0 + 1 = k9 at bd ⊢
  generalize 0 + ((m : Nat) : Int).toNat = n9 at bd ⊢
  have bd0 : k9 ≤ K9 ∧ n9 ≤ N9 := ⟨by omega, by omega⟩
  have hA : IsA S1 q6 101 ((m : Nat) : Int).toNat := by rw [emt]; exact ⟨18, 0, l6, rfl⟩
  obtain ⟨due, hdue⟩ : ∃ due : Int, due = rcN N (N 80 2).toNat := ⟨_, rfl⟩
  have emt2 : rcN N ((m : Nat) : Int).toNat = due := by rw [emt, hm, hdue]
  rw [← hdue] at hsum e12
  rw [← hdue] at z1
  rw [emt2]
  have r80 : inR (N 80 4) := z2
  generalize hfu : N 80 4 = fu at z2 r80 ⊢
  have loop : ∀ (d t : Nat) (D3 M1 : Mem), m - t = d → t ≤ m → (∀ a y, lk S a = some y → ∀ jj, D3 a jj = D a jj) → (∀ k : Nat, k < t → D3 q6 k = ind (RchN N k)) → Inv i M1 → Agr rel M1 N → L_L_isMarked_26 G S1 D3 M1 k9 n9 (s_m c) x2 due fu m q6 t := by
    intro d
    induction d with
    | zero =>
      intro t D3 M1 hd ht hs h4 I1 g
      have et : t = m := by omega
      subst et
      have hR1 : SR M1 S1 D3 c := sr_rel g (sr_on (pi_le hI) ⟨_, eS⟩ hs hR)
      have off1 : M1 72 10 = 0 := (g 72 10 rfl).trans off
      have rt : inR (t : Int) := z
      have hn := I1.ob.1
      have hrtc := rt_count I1
      have hkci := kc_ind (K := Hrt M1 80) (M1 80 0).toNat
      have hle := sum_le (w := fun p => ind (Hrt M1 80 p)) (v := fun p => ind (Rch M1 (-1) p)) (M1 80 0).toNat (fun k hk => ind_le (P := Hrt M1 80) (P' := fun p => Rch M1 (-1) p) (fun hh => rch_rt hh (by omega)))
      have hsum1 : sumF (fun p => ind (Rch M1 (-1) p)) (M1 80 0).toNat = due := by
        rw [hsum, g 80 0 rfl]
        exact sum_congr _ (fun k _ => ind_congr (rch_rel g))
      have hX1 : Xs S S1 := ⟨_, eS⟩
      refine go_L_isMarked_26 h hX1 ⟨rt, rt, fun _ => ⟨bd0, cc_begin (CtU_fl h) I1 off1 (fun C s r51 z51 => ⟨⟨0, 0, 21, hR1.l.1, rfl⟩, 624, 8320, bd, w_begin (M := C) (CtU_fl h) I1 off1 hR1 (Nat.le_refl _) (Nat.le_refl _) (fun S2 D2 hX2 h18 hsr => fun z59 hXX => ⟨z51, z59, fun hne => absurd rfl hne, fun _ => ⟨z51, z1, fun _ => ?_, fun hgt => absurd hgt (by omega)⟩⟩)⟩)⟩, fun hlt => absurd hlt (by omega)⟩
      have IK := inv_begin I1 s (fb_K C)
      have hRK := hsr C (fbK C) s (fb_K C)
      have hE : Eq72 (fbK C) C := fun o ho k => (fb_K C).1 o k (by omega) (by omega) (by omega) (by omega) (by omega)
      have hon : fbK C 72 10 = 1 := (fb_K C).2.1.2.1
      have h11 : fbK C 72 11 = 0 := (fb_K C).2.1.2.2.1
      have hpk := beg_pk s (fb_K C)
      have e97 : fbK C 97 0 = M1 80 0 := hpk.2.1.1
      have h109 : ∀ q : Nat, (q : Int) < M1 80 0 → fbK C 109 q = 0 := fun q hq => (fb_K C).2.2.2.2.2.2.2.2 q (by rw [s.1 80 0 (by decide) (by decide) (by decide) (by decide) (by decide) (by decide) (by decide) (by decide)]; exact hq)
      have h33 : fbK C 33 2 = due := by
        rw [keep_size IK hon, e97, kc_ind, ← hsum1]
        exact sum_congr _ (fun k _ => ind_congr (kp_rch I1 hpk h109))
      obtain ⟨Sn, hSn⟩ := hX2
      clear hA l6 eS1
      subst eS
      subst hSn
      have hA4 : ∀ k : Nat, k < t → D2 q6 k = ind (RchN M1 k) := fun k hk => by
        rw [h18 q6 0 t (lk_new hn6) k, h4 k hk]
        exact ind_congr (rchN_rel g).symm
      have fin : lk Sn q6 = none → L_L_isMarked_76 G ((S ++ [(q6, (18, 0, t))]) ++ Sn) D2 (fbK C) (k9 + 624) (n9 + 8320) (s_m c) x2 due fu t q6 0 := fun hnoN =>
        mk_76 (N := M1) h ⟨_, List.append_assoc _ _ _⟩ bd (by omega) hx hn6 hnoN z1 rt ⟨by have := r80.1; omega, by omega⟩ ((g 80 4 rfl).trans hfu) (fun D9 M9 N' a1 a2 a3 a4 => hq _ D9 M9 N' ⟨_, List.append_assoc _ _ _⟩ a1 a2 a3 (a4.trans (g 72 1 rfl))) (due - 0).toNat (fbK C) D2 0 (Nat.le_refl _) IK hon h11 h33 (beg_9 s (fb_K C)) hRK hA4 (Int.le_refl 0) (by omega)
      refine fun hS => V_nd (fun hnd => V_swap hE (fin ?_ hS))
      cases hh : lk Sn q6 with
      | none => rfl
      | some x =>
        exfalso
        obtain ⟨k1, hk1⟩ := lk_get hh
        have i1 : ((S ++ [(q6, (18, 0, t))]) ++ Sn)[S.length]? = some (q6, (18, 0, t)) := by
          rw [List.getElem?_append_left (by rw [List.length_append]; show S.length < S.length + 1; omega), List.getElem?_append_right (Nat.le_refl _), Nat.sub_self]
          rfl
        have i2 : ((S ++ [(q6, (18, 0, t))]) ++ Sn)[S.length + 1 + k1]? = some (q6, x) := by
          rw [List.getElem?_append_right (by rw [List.length_append]; show S.length + 1 ≤ _; omega), List.length_append]
          show Sn[S.length + 1 + k1 - (S.length + 1)]? = _
          rw [Nat.add_sub_cancel_left]
          exact hk1
        have := hnd _ _ _ _ i1 i2 rfl
        omega
    | succ d ih =>
      intro t D3 M1 hd ht hs h4 I1 g
      have rt : inR (t : Int) := ⟨by omega, by have := z.2; omega⟩
      have ett : ((t : Nat) : Int).toNat = t := Int.toNat_natCast t
      refine go_L_isMarked_26 h ⟨_, eS⟩ ⟨rt, z, fun hge => absurd hge (by omega), fun _ => ⟨bd0, qw_reached (CtU_fl h) I1 g rt (fun M2 I2 g2 z3 => ⟨⟨_, hA, by omega, by omega⟩, ind_01, fun D4 eD4 => ?_⟩)⟩⟩
      rw [ett] at eD4
      have h9 := ih (t + 1) D4 M2 (by omega) (by omega) (fun a y ha jj => by
        have ne : a ≠ q6 := fun z => by rw [z, hn6] at ha; cases ha
        rw [eD4, up_ad ne]
        exact hs a y ha jj) (fun k hk => ?_) I2 g2
      · exact h9
      · rw [eD4]
        by_cases hkt : k = t
        · rw [hkt, up_s]
        · rw [up_k hkt]
          exact h4 k (by omega)
  exact loop m 0 D1 Ma (by omega) (by omega) eDo (fun k hk => absurd hk (by omega)) Ia ga
end Mrk2
