/-! ===== the class copies a NET ===== -/
/-- whose copies are made -/
def CopC (N : Mem) (q0 s : Nat) : Prop := Nt N q0 s ∧ N 16 (N 19 s).toNat = 0
/-- the memory with the copies, each holding copies -/
noncomputable def cpyN (N : Mem) (q0 : Nat) (o : Int) : Mem := trN N (CopC N q0) (mkT N (CopC N q0) o true (N 80 0).toNat) (N 80 0).toNat
section Cnet
variable {B : WB} {l : Launch} {X : va_W} {Q : Int → Mem → Prop} {QV : Mem → Prop} {i j t s a k p0 q0 : Nat} {M M' M1 N T V : Mem} {C : Nat → Prop} {o x v : Int} {b : Bool} {L : List (Nat × Int)}
/-- what the NET's objects are, behind a search for room -/
theorem cp_ok (hI : Inv i M) (hN : RmI (i + 1) 0 N) (e2 : N 80 2 = M 80 2) (hq0 : (q0 : Int) < N 80 0) (h2 : N 82 q0 ≤ 2) (hroot : ∃ k : Nat, k < 72 ∧ N 89 k = N 81 q0) (hx : wtN N q0 = x) (hr : RoomN N x) : CpOk (i + 1) N (CopC N q0) (mkO x) := by
  have hn := hI.ob.2.2.1
  refine ⟨hN.1, by rw [e2]; push_cast; omega, fun s hs => ⟨nt_lt hq0 hs.1, nt_form h2 hs.1, fun hon => ?_⟩, ?_⟩
  · have hmk := hN.1.mk.2.2.2 hon
    have hRO := rep_ref (inv_rep hN.1)
    have hg0 : Gd N q0 := hmk.2.2.1 q0 ⟨hq0, Or.inl hroot⟩
    refine hs.1 (fun s => Gd N s) hg0 (fun a k q ha hg hk he _ => ?_)
    refine hmk.2.2.2.1 a k q ha hg ?_ he
    have h3 := lnk_form hk
    show (k : Int) < (if N 82 a = 4 ∧ (0 : Int) = 0 then 1 else lnkR N 80 a)
    rw [if_neg (by omega)]
    exact hk
  · have h3 := mk_hw hr
    rw [← hx] at h3 ⊢
    exact h3
/-- the set of cells holds the NET's cells -/
theorem sm_net (hI : Inv i M) (h0 : (p0 : Int) < M 80 0) (w : WkC M 47 (bfs M 2 209 [(p0, 0)] 0) M1) (c : Int) : Sm M1 47 c ↔ ∃ s, Nt M p0 s ∧ M 19 s = c := by
  have R := inv_rep hI
  have RO := rep_ref R
  constructor
  · intro hs
    obtain ⟨k, h1, h2⟩ := (sm_iff w.1).mp hs
    have hk : k < (bfs M 2 209 [(p0, 0)] 0).length := by have := w.2.2.1; omega
    have he := List.getElem?_eq_getElem hk
    refine ⟨_, (bfs_nt RO h0).mp (nd_mem.mpr ⟨k, _, he, rfl⟩), ?_⟩
    rw [← h2]
    exact (w.2.2.2.1 k _ he).1.symm
  · rintro ⟨s, h1, rfl⟩
    exact (wk_mem R w (nt_lt h0 h1)).mpr ((bfs_nt RO h0).mpr h1)
/-- what the memory is once all copies are filled -/
theorem cpy_agc (h : CpOk j N C o) (a1 : AgC M1 (mkT N C o false (N 80 0).toNat)) (g : ∀ a k, a ≠ 18 → M' a k = M1 a k) (g2 : ∀ k : Nat, ¬ (N 80 1 ≤ (k : Int) ∧ (k : Int) < N 80 1 + szk N C (N 80 0).toNat) → M' 18 k = M1 18 k) (g3 : ∀ s k : Nat, C s → (k : Int) < sizR N 80 s → M' 18 ((N 80 1 + szk N C s).toNat + k) = tvN N C 18 s k) : AgC M' (trN N C (mkT N C o true (N 80 0).toNat) (N 80 0).toNat) := by
  have hI := h.1
  have hn := hI.ob.1
  intro a k hk
  have ha : a ≤ 71 := by unfold rC at hk; simp only [Bool.and_eq_true, Nat.ble_eq] at hk; exact hk.1
  by_cases h18 : a = 18
  · subst h18
    by_cases hin : N 80 1 ≤ (k : Int) ∧ (k : Int) < N 80 1 + szk N C (N 80 0).toNat
    · obtain ⟨s, s1, s2, s3, s4⟩ := blk_ex hI (N 80 0).toNat (by omega) k hin.1 hin.2
      have hb := szk_bd (K := C) hI s (by omega)
      have hnn := at_nn hI
      have e : k = (N 80 1 + szk N C s).toNat + (k - (N 80 1 + szk N C s).toNat) := by omega
      rw [e, g3 s _ s2 (by omega), tr_in hI (Or.inl rfl) _ (by omega) s s1 s2 (by omega)]
    · rw [g2 k hin, tr_out hI _ (by omega) k hin, mk_out h (Or.inl rfl) _ (by omega) k hin, a1 18 k hk, mk_out h (Or.inl rfl) _ (by omega) k hin]
  · rw [g a k h18, a1 a k hk, tr_o h18 (by omega), mk_tf _ a k h18 (by omega)]
set_option maxHeartbeats 2000000 in
theorem cs_copyNet (hl : l.stackTraces = false) (hI : Inv i M) (hi : i ≤ 600) (hp0 : (p0 : Int) < M 80 0) (h2 : M 82 p0 ≤ 2) (h16 : M 16 (M 19 p0).toNat = 0) (hroot : ∃ k : Nat, k < 72 ∧ M 89 k = M 81 p0) (hx : wtN M p0 = x) (hN : N = rmN M x)
    (hno : ∀ M', ¬ RoomN N x → AgC M' N → IvSc M' → (∀ a k : Nat, 72 ≤ a → M' a k = M a k) → Q (-1) M')
    (hyes : ∀ (M' : Mem) (q0 : Nat), RoomN N x → CpOk (i + 1) N (CopC N q0) (mkO x) → (q0 : Int) < N 80 0 → N 81 q0 = M 81 p0 → CopC N q0 q0 → AgC M' (cpyN N q0 (mkO x)) → IvSc M' → (∀ a k : Nat, 72 ≤ a → M' a k = M a k) → Q (N 19 ((N 80 0).toNat + kc (CopC N q0) q0)) M') : OkI B l md_X2_copyNet 0 0 [.ref (ad B 46), .int (I (M 19 p0))] X M Q NoX := by
  have i47 : isSc 47 := Or.inr (Or.inr (Or.inl rfl))
  have c47 := sc_cs i47
  have R := inv_rep hI
  have RO := rep_ref R
  have hn := hI.ob.1
  have hRm := rmi_start hI
  have hRN := (rm_inv (x := x) hRm).1
  rw [← hN] at hRN
  obtain ⟨K, f, E⟩ := emb_rm (x := x) hRm
  rw [← hN] at E
  have hK0 := E.2.2.2.2.2.1 p0 hp0 hroot
  obtain ⟨z1, z2, z3, z4, z5, z6, -⟩ := E.2.1 p0 hK0
  refine ok_X2_copyNet hl (fun G h => go_X2_copyNet_0 h (cs_findNet i47 (by decide) (Ct_fl h) hI hp0 (fun M1 w => ?_)))
  have hsm := sm_net hI hp0 w
  have hwl := fun w' : Nat → Int => wt_list (w := w') RO hp0 w.2.2.2.2
  have I1 := inv_fw i47 hI w.2.1 w.1
  have r1 := fw_agr i47 w.2.1
  have hrow : ∀ k : Nat, k < (bfs M 2 209 [(p0, 0)] 0).length → ∃ r : Nat, Nt M p0 r ∧ M1 49 k = M 19 r ∧ ∀ e, (bfs M 2 209 [(p0, 0)] 0)[k]? = some e → e.1 = r := fun k hk => by
    have he := List.getElem?_eq_getElem hk
    exact ⟨_, (bfs_nt RO hp0).mp (nd_mem.mpr ⟨k, _, he, rfl⟩), (w.2.2.2.1 k _ he).1, fun e h => by rw [Option.some.inj (he.symm.trans h)]⟩
  have hlen := w.2.2.1
  have hf72 : ∀ a k : Nat, 72 ≤ a → M1 a k = M a k := fun a k ha => w.2.1 a k (by omega) (by omega) (by omega) (by omega)
  have hsi := fun c : Int => sm_iff w.1 (c := c)
  have hl208 := w.1.1
  generalize hLL : (bfs M 2 209 [(p0, 0)] 0).length = len at *
  clear w
  obtain ⟨r, hr⟩ := Classical.axiomOfChoice (r := fun k r => k < len → Nt M p0 r ∧ M1 49 k = M 19 r ∧ ∀ e, (bfs M 2 209 [(p0, 0)] 0)[k]? = some e → e.1 = r) (fun k => by
    by_cases hk : k < len
    · obtain ⟨r, h⟩ := hrow k hk
      exact ⟨r, fun _ => h⟩
    · exact ⟨0, fun z => absurd z hk⟩)
  have hsum : sumF (fun k => cnd (M 16 (M 19 (r k)).toNat = 0) (wrdR M 80 (r k)) 0) len = x := by
    rw [← hx]
    exact hwl _ (fun k hk e he => by rw [(hr k hk).2.2 e he])
  have hw42 : ∀ k, k < len → 0 ≤ cnd (M 16 (M 19 (r k)).toNat = 0) (wrdR M 80 (r k)) 0 ∧ cnd (M 16 (M 19 (r k)).toNat = 0) (wrdR M 80 (r k)) 0 ≤ 42 := fun k hk => by
    have := wrd_bd (RO.2 (r k) (nt_lt hp0 (hr k hk).1))
    by_cases hc : M 16 (M 19 (r k)).toNat = 0
    · rw [cnd_t hc]; omega
    · rw [cnd_f hc]; omega
  have hxb := sum_bd len hw42
  rw [hsum] at hxb
  have hx1 : 0 ≤ x ∧ x ≤ 1000000 := ⟨hxb.1, by omega⟩
  -- the words of those that are copied
  have loop1 : ∀ (d t : Nat), t + d = len → L_X2_copyNet_16 G X (M 19 p0) (sumF (fun k => cnd (M 16 (M 19 (r k)).toNat = 0) (wrdR M 80 (r k)) 0) t) (t : Int) M1 := by
    intro d
    induction d with
    | zero =>
      intro t ht
      rw [show t = len by omega, hsum]
      refine go_X2_copyNet_16 h (fun z => ⟨⟨by omega, by omega⟩, z, fun _ => ?_, fun hlt => absurd hlt (by omega)⟩)
      refine cs_findRoomF (j := i + 1) (N := M) (Ct_fl h) hRm (by omega) (agc_rel r1) I1.2 hx1 (fun M2 a2 s2 g2 => ?_)
      rw [← hN] at a2 ⊢
      have g72 : ∀ a k : Nat, 72 ≤ a → M2 a k = M a k := fun a k ha => (g2 a k (by omega)).trans (hf72 a k ha)
      refine ⟨fun hrm z => ⟨z, fun _ => ?_, fun he => absurd he (by decide)⟩, fun hrm z => ⟨z, fun hne => absurd rfl hne, fun _ => ⟨⟨by decide, by decide⟩, hno M2 hrm a2 s2 g72⟩⟩⟩
      obtain ⟨kr, hk1, hk2⟩ := hroot
      have hcp : CpOk (i + 1) N (CopC N (f p0)) (mkO x) := cp_ok hI hRN (by rw [hN]; exact rm_k (by omega)) z1 (by rw [z4]; exact h2) ⟨kr, hk1, by rw [(E.2.2.2.2.1 kr).2.2, z3]; exact hk2⟩ ((wt_emb E RO hK0).trans hx) hrm
      have hinj : ∀ a b : Nat, (a : Int) < N 80 0 → (b : Int) < N 80 0 → N 19 a = N 19 b → a = b := fun a b ha hb e => hRN.1.ob.2.2.2.2.1 a b (by have := hRN.1.ob.1; omega) (by have := hRN.1.ob.1; omega) e
      have hset : ∀ s : Nat, (s : Int) < N 80 0 → ((Sm M2 47 (N 19 s) ∧ N 16 (N 19 s).toNat = 0) ↔ CopC N (f p0) s) := fun s hs => by
        have e1 : Sm M2 47 (N 19 s) ↔ Sm M1 47 (N 19 s) := by
          unfold Sm
          rw [g2 (47 + 1) _ (by decide)]
        rw [e1, hsm, ← nt_cells E RO hK0]
        exact ⟨fun ⟨⟨s', h1, h3⟩, h4⟩ => ⟨by rw [← hinj s' s (nt_lt z1 h1) hs h3]; exact h1, h4⟩, fun z => ⟨⟨s, z.1, rfl⟩, z.2⟩⟩
      have hC0 : CopC N (f p0) (f p0) := ⟨nt_self, by rw [z2, z6]; exact h16⟩
      have mk : OkV (gB G) (gl G) md_X2_makeCopies 0 0 [.ref (ad (gB G) 46), .int (I (mkO x))] X M2 (fun M3 => L_X2_copyNet_103 G X (M 19 p0) 0 M3) NoX := by
        refine cs_makeCopies (Ct_fl h) hcp (by omega) a2 s2 hset (fun M3 a3 s3 g3 k3 => ?_)
        have hv := mk_v (b := false) hcp (N 80 0).toNat (by have := hRN.1.ob.1; omega)
        obtain ⟨IV, ⟨t0, t1, t2⟩, -, q8, q7, qd, qk, qn, qb⟩ := hv
        have F3 : FilS N (CopC N (f p0)) M3 := by
          refine ⟨(s3.1 47 c47).1, fun s hs => ?_, fun s hs => ?_, fun k hk => (a3 18 k rfl).trans (qd 18 k (Or.inl rfl) hk)⟩
          · obtain ⟨-, o2, -, -, -, -, -, -, -, o10, o11, -⟩ := hRN.1.ob.2.2.2.2.2.1 s hs
            refine ⟨((a3 8 _ rfl).trans (q7 8 s (by decide) (by decide) hs)).trans o2, ((a3 11 _ rfl).trans (q7 11 s (by decide) (by decide) hs)).trans o10, (a3 10 _ rfl).trans (q7 10 s (by decide) (by decide) hs), (a3 16 _ rfl).trans (q7 16 s (by decide) (by decide) hs), ((a3 12 _ rfl).trans (q7 12 s (by decide) (by decide) hs)).trans o11, ?_⟩
            have e1 : Sm M3 47 (N 19 s) ↔ Sm M2 47 (N 19 s) := by
              unfold Sm
              rw [g3 (47 + 1) _ (by decide) (by decide)]
            rw [e1]
            exact hset s hs
          · have hsN := (hcp.2.2.1 s hs).1
            obtain ⟨b1, b2, b3, b4⟩ := ad_bd hcp hs
            have hlt := kc_lt (K := CopC N (f p0)) hs (show s < (N 80 0).toNat by omega)
            refine ⟨k3 s hsN hs, hRN.1.ob.2.2.2.1 _ b4, ?_⟩
            have pm : (((N 80 0).toNat + kc (CopC N (f p0)) s : Nat) : Int) < mkT N (CopC N (f p0)) (mkO x) false (N 80 0).toNat 80 0 := by rw [t0]; omega
            have e12 := (at_in IV pm).2.2.2
            rw [qk 19 _ (by omega)] at e12
            exact ((a3 12 _ rfl).trans e12).trans (qn s (by omega) hs).2.2.2
        have e472 : M3 47 2 = len := by rw [g3 47 2 (by decide) (by decide), g2 47 2 (by decide)]; exact hlen.symm
        have e49 : ∀ t, t < len → M3 49 t = N 19 (f (r t)) ∧ ((f (r t) : Nat) : Int) < N 80 0 := fun t ht => by
          obtain ⟨q1, q2, -⟩ := hr t ht
          obtain ⟨hk, -⟩ := nt_to E RO hK0 q1
          obtain ⟨y1, y2, -⟩ := E.2.1 (r t) hk
          rw [g3 49 t (by decide) (by decide), g2 49 t (by decide), q2, y2]
          exact ⟨rfl, y1⟩
        have loop2 : ∀ (d t : Nat) (M4 : Mem), t + d = len → FilS N (CopC N (f p0)) M4 → (∀ a k, a ≠ 18 → M4 a k = M3 a k) → (∀ k : Nat, ¬ (N 80 1 ≤ (k : Int) ∧ (k : Int) < N 80 1 + szk N (CopC N (f p0)) (N 80 0).toNat) → M4 18 k = M3 18 k) → (∀ u : Nat, u < t → CopC N (f p0) (f (r u)) → ∀ k : Nat, (k : Int) < sizR N 80 (f (r u)) → M4 18 ((N 80 1 + szk N (CopC N (f p0)) (f (r u))).toNat + k) = tvN N (CopC N (f p0)) 18 (f (r u)) k) → L_X2_copyNet_103 G X (M 19 p0) (t : Int) M4 := by
          intro d
          induction d with
          | zero =>
            intro t M4 ht F4 p1 p2 p3
            have ht' : t = len := by omega
            subst ht'
            have e2 : M4 47 2 = t := (p1 47 2 (by decide)).trans e472
            have hc0 := c19 hI.ob hp0
            have e50 : M4 50 (M 19 p0).toNat = N 19 ((N 80 0).toNat + kc (CopC N (f p0)) (f p0)) := by
              rw [← z2]
              exact (F4.2.2.1 (f p0) hC0).1
            refine go_X2_copyNet_103 h (fun z => ⟨⟨by omega, by omega⟩, z, fun _ => ⟨hc0, fun z7 => ⟨z7, ?_⟩⟩, fun hlt => absurd hlt (by omega)⟩)
            rw [e50]
            refine hyes M4 (f p0) hrm hcp z1 z3 hC0 (cpy_agc hcp a3 p1 p2 (fun s k hs hk => ?_)) (sc_agr (fun o k hk => p1 o k (by
              rintro rfl
              exact absurd (show false = true from hk) (by decide))) s3) (fun a k ha => by rw [p1 a k (by omega), g3 a k (by omega) (by omega)]; exact g72 a k ha)
            obtain ⟨p, h1, rfl, h3⟩ := nt_of E RO hK0 hs.1
            obtain ⟨u, hu1, hu2⟩ := (hsi _).mp ((hsm _).mpr ⟨p, h3, rfl⟩)
            have hu : u < t := by omega
            have e : r u = p := by
              obtain ⟨q1, q2, -⟩ := hr u hu
              have e9 : M 19 (r u) = M 19 p := q2.symm.trans hu2
              have l1 := nt_lt hp0 q1
              have l2 := nt_lt hp0 h3
              exact hI.ob.2.2.2.2.1 _ _ (by omega) (by omega) e9
            have := p3 u hu (by rw [e]; exact hs) k (by rw [e]; exact hk)
            rw [e] at this
            exact this
          | succ d ih =>
            intro t M4 ht F4 p1 p2 p3
            obtain ⟨e4, hs⟩ := e49 t (by omega)
            have e4 : M4 49 t = N 19 (f (r t)) := (p1 49 t (by decide)).trans e4
            have e2 : M4 47 2 = len := (p1 47 2 (by decide)).trans e472
            have hc := c19 hRN.1.ob hs
            obtain ⟨-, -, -, f16, -, fC⟩ := F4.2.1 (f (r t)) hs
            refine go_X2_copyNet_103 h (fun z => ⟨⟨by omega, by omega⟩, z, fun hge => absurd hge (by omega), fun _ => ⟨⟨by omega, by omega⟩, ?_⟩⟩)
            show inR (M4 49 t) → OkI (gB G) (gl G) md_X2_isCopied 0 0 [.ref (ad (gB G) 46), .int (I (M4 49 t))] X M4 (fun r124 M1' => inR r124 → (inR r124 ∧ (r124 = 0 → L_X2_copyNet_103 G X (M 19 p0) ((t : Int) + 1) M1') ∧ (r124 ≠ 0 → ((0 ≤ (t : Int) ∧ (t : Int) < 208) ∧ (inR (M1' 49 t) → OkV (gB G) (gl G) md_X2_fillCopy 0 0 [.ref (ad (gB G) 46), .int (I (M1' 49 t))] X M1' (fun M2' => L_X2_copyNet_103 G X (M 19 p0) ((t : Int) + 1) M2') NoX))))) NoX
            rw [e4]
            refine fun _ => cs_isCopied (Ct_fl h) F4.1 ⟨by omega, by omega⟩ (fun hcpd z7 => ⟨z7, n10, fun _ => ⟨⟨by omega, by omega⟩, fun _ => ?_⟩⟩) (fun hcpd z7 => ⟨z7, fun _ => ?_, n00⟩)
            · rw [f16] at hcpd
              have hCt := fC.mp hcpd
              rw [e4]
              refine cs_fillCopy (Ct_fl h) hcp F4 hCt (fun M5 F5 g5 o5 v5 => ih (t + 1) M5 (by omega) F5 (fun a k ha => (g5 a k ha).trans (p1 a k ha)) (fun k hk => ?_) (fun u hu hCu k hk => ?_))
              · have h3 := szk_mono (K := CopC N (f p0)) hRN.1 (p := f (r t) + 1) (N 80 0).toNat (by omega) (by have := hRN.1.ob.1; omega)
                rw [szk_t hCt] at h3
                have h4 := ad_bd hcp hCt
                rw [o5 k (by omega)]
                exact p2 k hk
              · by_cases heq : f (r u) = f (r t)
                · rw [heq] at hk ⊢
                  exact v5 k hk
                · have hu2 : u < t := by
                    by_cases hut : u = t
                    · subst hut; exact absurd rfl heq
                    · omega
                  have hb := ad_bd hcp hCu
                  have hd := blk_dis (C := CopC N (f p0)) (k := (N 80 1 + szk N (CopC N (f p0)) (f (r u))).toNat + k) hRN.1 (e49 u (by omega)).2 hs hCu hCt heq ⟨by omega, by omega⟩
                  rw [o5 _ hd]
                  exact p3 u hu2 hCu k hk
            · rw [f16] at hcpd
              refine ih (t + 1) M4 (by omega) F4 p1 p2 (fun u hu hCu k hk => ?_)
              by_cases hut : u = t
              · subst hut
                exact absurd (fC.mpr hCu) hcpd
              · exact p3 u (by omega) hCu k hk
        exact loop2 len 0 M3 (by omega) F3 (fun _ _ _ => rfl) (fun _ _ => rfl) (fun u hu => absurd hu (by omega))
      refine ⟨⟨by omega, by omega⟩, ⟨by decide, by decide⟩, fun hle => ?_, fun hgt => ?_⟩
      · have e : mkO x = 0 := if_pos hle
        rw [e] at mk
        exact mk
      · have e : mkO x = 1 := if_neg (by omega)
        rw [e] at mk
        exact mk
    | succ d ih =>
      intro t ht
      obtain ⟨q1, q2, -⟩ := hr t (by omega)
      have hq := nt_lt hp0 q1
      have hc := c19 hI.ob hq
      refine go_X2_copyNet_16 h (fun z => ⟨⟨by omega, by omega⟩, z, fun hge => absurd hge (by omega), fun _ => ⟨⟨by omega, by omega⟩, ?_⟩⟩)
      show inR (M1 49 t) → OkI (gB G) (gl G) md_X2_isCopied 0 0 [.ref (ad (gB G) 46), .int (I (M1 49 t))] X M1 (fun r38 M1' => inR r38 → (inR r38 ∧ (r38 = 0 → L_X2_copyNet_16 G X (M 19 p0) (sumF (fun k => cnd (M 16 (M 19 (r k)).toNat = 0) (wrdR M 80 (r k)) 0) t + 0) ((t : Int) + 1) M1') ∧ (r38 ≠ 0 → ((0 ≤ (t : Int) ∧ (t : Int) < 208) ∧ (inR (M1' 49 t) → ((0 ≤ M1' 49 t ∧ M1' 49 t < 208) ∧ (inR (M1' 11 (M1' 49 t).toNat) → L_X2_copyNet_16 G X (M 19 p0) (sumF (fun k => cnd (M 16 (M 19 (r k)).toNat = 0) (wrdR M 80 (r k)) 0) t + M1' 11 (M1' 49 t).toNat) ((t : Int) + 1) M1'))))))) NoX
      rw [q2]
      have nx := ih (t + 1) (by omega)
      have e16 : M1 16 (M 19 (r t)).toNat = M 16 (M 19 (r t)).toNat := r1 16 _ rfl
      have e11 : M1 11 (M 19 (r t)).toNat = wrdR M 80 (r t) := (r1 11 _ rfl).trans (hI.ob.2.2.2.2.2.1 (r t) hq).2.2.2.2.2.2.2.2.2.1
      refine fun _ => cs_isCopied (Ct_fl h) (I1.2.1 47 c47).1 ⟨by omega, by omega⟩ (fun hcp z => ⟨z, n10, fun _ => ⟨⟨by omega, by omega⟩, fun _ => ?_⟩⟩) (fun hcp z => ⟨z, fun _ => ?_, n00⟩)
      · rw [q2]
        refine ⟨hc, fun _ => ?_⟩
        rw [e11]
        rw [e16] at hcp
        have e : sumF (fun k => cnd (M 16 (M 19 (r k)).toNat = 0) (wrdR M 80 (r k)) 0) (t + 1) = sumF (fun k => cnd (M 16 (M 19 (r k)).toNat = 0) (wrdR M 80 (r k)) 0) t + wrdR M 80 (r t) := by
          show _ + cnd (M 16 (M 19 (r t)).toNat = 0) (wrdR M 80 (r t)) 0 = _
          rw [cnd_t hcp.2]
        rw [← e]
        exact nx
      · rw [e16] at hcp
        have hne : ¬ M 16 (M 19 (r t)).toNat = 0 := fun e => hcp ⟨(hsm _).mpr ⟨r t, q1, rfl⟩, e⟩
        have e : sumF (fun k => cnd (M 16 (M 19 (r k)).toNat = 0) (wrdR M 80 (r k)) 0) (t + 1) = sumF (fun k => cnd (M 16 (M 19 (r k)).toNat = 0) (wrdR M 80 (r k)) 0) t + 0 := by
          show _ + cnd (M 16 (M 19 (r t)).toNat = 0) (wrdR M 80 (r t)) 0 = _
          rw [cnd_f hne]
        rw [← e]
        exact nx
  exact loop1 len 0 (by omega)
end Cnet
