/-! ===== the class makes all objects of the IMAGE ===== -/
section CallS
variable {B : WB} {l : Launch} {X : va_W} {Q : Int → Mem → Prop} {QV : Mem → Prop} {j p a k : Nat} {M M' V N : Mem} {S S' : Nat → Prop} {o : Int}
theorem imc_x (hI : Inv j V) (a : AgX S M V) : ImC M V :=
  ⟨⟨(a 51 5 (rc_of (by omega)) (fun z => absurd z.1 (by decide))).trans hI.im.1, fun k hk => (a 52 k (rc_of (by omega)) (fun z => absurd z.1 (by decide))).trans (hI.im.2.2 k hk)⟩, fun o k h1 h2 => a o k (rc_of (by omega)) (fun z => absurd z.1 (by omega))⟩
theorem agx_sub (a : AgX S M V) (h : ∀ k, S k → S' k) : AgX S' M V := fun o k hk hS => a o k hk (fun z => hS ⟨z.1, h k z.2⟩)
theorem agx_57 {v : Int} (a : AgX S M V) : AgX S (up M 57 k v) V := by
  intro o i hk hS
  have h57 : o ≠ 57 := by
    rintro rfl
    exact absurd (show false = true from hk) (by decide)
  rw [up_ne (fun z => h57 z.1)]
  exact a o i hk hS
theorem cs_makeAllA {G : GT} (hG : Ct G md_X3_makeAll X (oI Q NoX) B l 0 0) (h : ReOk j N o) (hj : j ≤ 1000) (a : AgC M N) (sc : IvSc M)
    (hq : ∀ (M1 : Mem) (Vs : Nat → Mem) (gn gc : Nat → Int), SqV j N o Vs gn gc (N 77 0).toNat → AgX (SqS N (fun s => Vs s 80 1) 0 (N 77 0).toNat) M1 (Vs (N 77 0).toNat) → IvSc M1 → (∀ s : Nat, s < (N 77 0).toNat → M1 57 s = gc s) → (∀ a k : Nat, 72 ≤ a → M1 a k = M a k) → L_X3_makeAll_53 G X 1 0 M1) : L_X3_makeAll_4 G X o 1 0 M := by
  have hfew := re_few h
  have h9 := h.1.im.2.1
  have h90 := h.2.1.1
  have loop : ∀ (d t : Nat) (M1 : Mem) (Vs : Nat → Mem) (gn gc : Nat → Int), (t : Int) + d = N 77 0 → SqV j N o Vs gn gc t → AgX (SqS N (fun s => Vs s 80 1) 0 t) M1 (Vs t) → IvSc M1 → (∀ s : Nat, s < t → M1 57 s = gc s) → (∀ a k : Nat, 72 ≤ a → M1 a k = M a k) → L_X3_makeAll_4 G X o (imA N t : Int) (t : Int) M1 := by
    intro d
    induction d with
    | zero =>
      intro t M1 Vs gn gc ht q a1 s1 g57 g
      obtain ⟨i1, i2, -⟩ := sq_all h t (by omega) q
      have hc := imc_x i1 a1
      have e9 : Vs t 72 9 = N 72 9 := i2.2.2.2.2.2.2.1
      have e0 : M1 52 0 = N 77 0 := (hc.1.2 0 (by omega)).trans (i2.2.2.2.2.2.1 0)
      have et : (N 77 0).toNat = t := by omega
      rw [et] at hq
      refine go_X3_makeAll_4 hG ?_
      unfold T_X3_makeAll_4
      rw [show M1 52 ((0 : Int)).toNat = N 77 0 from e0]
      exact ⟨⟨by omega, by omega⟩, fun z => ⟨⟨by omega, by omega⟩, z, fun _ => hq M1 Vs gn gc q a1 s1 g57 g, fun hlt => absurd hlt (by omega)⟩⟩
    | succ d ih =>
      intro t M1 Vs gn gc ht q a1 s1 g57 g
      obtain ⟨i1, i2, -⟩ := sq_all h t (by omega) q
      obtain ⟨T, hw, hnum⟩ := sq_step h (by omega) q
      have hc := imc_x i1 a1
      have e9 : Vs t 72 9 = N 72 9 := i2.2.2.2.2.2.2.1
      have e0 : M1 52 0 = N 77 0 := (hc.1.2 0 (by omega)).trans (i2.2.2.2.2.2.1 0)
      have TN := re_tg h (t := t) (by omega)
      have hs := hd_sz h.1 TN.2.1
      have T1 := TN.1
      -- behind the object
      have nx : ∀ (V1 : Mem) (n c : Int) (M2 : Mem), Inv j V1 → StV o (Vs t) V1 (imA N t) n c → AgX (fun k => SqS N (fun s => Vs s 80 1) 0 t k ∨ (Vs t 80 1 ≤ (k : Int) ∧ (k : Int) < Vs t 80 1 + imL (Vs t) (imA N t))) M2 V1 → IvSc M2 → (∀ k, M2 57 k = M1 57 k) → (∀ a k : Nat, 72 ≤ a → M2 a k = M1 a k) → inR c → ((0 ≤ (t : Int) ∧ (t : Int) < 400) ∧ inR c ∧ ∀ M3 : Mem, M3 = up M2 57 ((t : Int)).toNat c → OkI (gB G) (gl G) md_X3_sizeAt 0 0 [.ref (ad (gB G) 51), .int (I (imA N t : Int))] X M3 (fun r37 M4 => inR r37 → L_X3_makeAll_4 G X o ((imA N t : Int) + ((2 : Int) + r37)) ((t : Int) + (1 : Int)) M4) NoX) := by
        intro V1 n c M2 iV hst a2 s2 g2 f2 zc
        have i3 : StyV V1 N := sty_trans (st_sty i1 T.2.1 hst) i2
        have TV : TgOk V1 (imA N t) := (ime_t i3.2.2.2.2.2 _).mpr TN
        have e19 : V1 72 9 = N 72 9 := i3.2.2.2.2.2.2.1
        have eS := ime_s i3.2.2.2.2.2 (imA N t)
        have eL := ime_l i2.2.2.2.2.2 (imA N t)
        refine ⟨⟨by omega, by omega⟩, zc, fun M3 e3 => ?_⟩
        have a3 : AgX (fun k => SqS N (fun s => Vs s 80 1) 0 t k ∨ (Vs t 80 1 ≤ (k : Int) ∧ (k : Int) < Vs t 80 1 + imL (Vs t) (imA N t))) M3 V1 := by rw [e3]; exact agx_57 a2
        have hc3 := imc_x iV a3
        refine cs_sizeAt (Ct_fl hG) iV hc3 (by omega) (hc3.1.2 _ (by omega)) (hc3.1.2 _ (by omega)) TV.2.1 ?_
        rw [eS]
        intro _
        have q' := sq_ext q iV hst
        have nx := ih (t + 1) M3 _ _ _ (by omega) q' (by
          show AgX (SqS N (fun s => (if s = t + 1 then V1 else Vs s) 80 1) 0 (t + 1)) M3 (if t + 1 = t + 1 then V1 else Vs (t + 1))
          rw [if_pos rfl]
          refine agx_sub a3 (fun k hk => ?_)
          rcases hk with ⟨s, h0, h1, h2, h3⟩ | ⟨h2, h3⟩
          · refine ⟨s, h0, by omega, ?_⟩
            show (if s = t + 1 then V1 else Vs s) 80 1 ≤ (k : Int) ∧ (k : Int) < (if s = t + 1 then V1 else Vs s) 80 1 + imL N (imA N s)
            rw [if_neg (by omega)]
            exact ⟨h2, h3⟩
          · refine ⟨t, by omega, by omega, ?_⟩
            show (if t = t + 1 then V1 else Vs t) 80 1 ≤ (k : Int) ∧ (k : Int) < (if t = t + 1 then V1 else Vs t) 80 1 + imL N (imA N t)
            rw [if_neg (by omega)]
            rw [eL] at h3
            exact ⟨h2, h3⟩) (by rw [e3]; exact sc_agr (agr_up rfl agr0) s2) (fun s hs => by
          show M3 57 s = if s = t then c else gc s
          rw [e3]
          by_cases hst : s = t
          · rw [if_pos hst, hst]
            exact up_s _ _ _ _
          · rw [if_neg hst]
            show up M2 57 t c 57 s = gc s
            rw [up_k hst, g2]
            exact g57 s (by omega)) (fun a k ha => by rw [e3, up_ne (by omega), f2 a k ha]; exact g a k ha)
        have eA : ((imA N (t + 1) : Nat) : Int) = (imA N t : Int) + (2 + imS N (imA N t)) := by
          show ((imA N t + 2 + (imS N (imA N t)).toNat : Nat) : Int) = _
          omega
        rw [eA] at nx
        exact nx
      refine go_X3_makeAll_4 hG ?_
      unfold T_X3_makeAll_4
      rw [show M1 52 ((0 : Int)).toNat = N 77 0 from e0]
      refine ⟨⟨by omega, by omega⟩, fun z => ⟨⟨by omega, by omega⟩, z, fun hge => absurd hge (by omega), fun _ => ⟨⟨by omega, by omega⟩, ⟨by decide, by decide⟩, fun hge => absurd hge (by omega), fun _ => ?_⟩⟩⟩
      refine cs_makeThing (Ct_fl hG) i1 hj a1 s1 hc T hw hnum (sq_txt h (by omega) q) (fun M2 V1 r e3 hr hL hf iv av sv nt fr zr => ?_) (fun M2 hno av sv fr zr => ?_)
      · exact nx V1 (Vs t 81 r) (Vs t 19 r) M2 iv (Or.inl ⟨e3, r, hr, hL, hf, nt, rfl, rfl⟩) (agx_sub av (fun k hk => Or.inl hk)) sv (fun k => fr 57 k (by omega) (by decide) (by decide)) (fun a k ha => fr a k (by omega) (by omega) (by omega)) zr
      · exact nx (mdV (Vs t) (imA N t) o) (Vs t 80 2) (Vs t 19 (Vs t 80 0).toNat) M2 (inv_md i1 T.2.1 T.2.2.2 hw hnum) (Or.inr ⟨hno, rfl, rfl, rfl⟩) av sv (fun k => fr 57 k (by omega)) (fun a k ha => fr a k (by omega)) zr
  have := loop (N 77 0).toNat 0 M (fun _ => N) (fun _ => 0) (fun _ => 0) (by omega) ⟨rfl, fun s hs => absurd hs (by omega)⟩ (agx_c a) sc (fun s hs => absurd hs (by omega)) (fun _ _ _ => rfl)
  exact this
end CallS
