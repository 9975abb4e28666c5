/-! ===== the class makes an object of the IMAGE: the whole ===== -/
section Thing2
variable {B : WB} {l : Launch} {X : va_W} {Q : Int → Mem → Prop} {QV : Mem → Prop} {j p a k : Nat} {M M' V : Mem} {S : Nat → Prop} {o : Int}
theorem md_siz : sizR (mdO V p o) 80 (V 80 0).toNat = imS V p := by
  have v82 : mdO V p o 82 (V 80 0).toNat = imF V p := by unfold mdO; rw [nwf_e (by omega), nw_n ⟨by decide, by decide⟩]; rfl
  have v83 : mdO V p o 83 (V 80 0).toNat = V 77 (p + 1) := by unfold mdO; rw [nwf_e (by omega), nw_n ⟨by decide, by decide⟩]; rfl
  have vk : ∀ a k : Nat, a = 74 ∨ a = 75 → mdO V p o a k = V a k := fun a k h => by unfold mdO; exact nwf_k (by omega)
  show (if mdO V p o 82 (V 80 0).toNat = 0 then mdO V p o 74 (mdO V p o 83 (V 80 0).toNat).toNat + mdO V p o 75 (mdO V p o 83 (V 80 0).toNat).toNat else if mdO V p o 82 (V 80 0).toNat = 6 then 2 * mdO V p o 83 (V 80 0).toNat else mdO V p o 83 (V 80 0).toNat) = _
  rw [v82, v83, vk 74 _ (by omega), vk 75 _ (by omega)]
  rfl
theorem cs_makeThing (hl : l.stackTraces = false) (hI : Inv j V) (hj : j ≤ 1000) (a : AgX S M V) (sc : IvSc M) (hc : ImC M V) (hT : TgOk V p) (hw : (o = 0 ∧ V 6 18 + nwW V (imF V p) (V 77 (p + 1)) ≤ 96 ∧ nwW V (imF V p) (V 77 (p + 1)) ≤ 32) ∨ (o = 1 ∧ V 6 19 + nwW V (imF V p) (V 77 (p + 1)) ≤ 320)) (hnum : V 80 2 + 1 ≤ 300 * j) (hS : ∀ q : Nat, (q : Int) < V 80 0 → V 82 q = 2 → ∀ k : Nat, (k : Int) < V 83 q → ¬ S ((V 84 q).toNat + k))
    (hfound : ∀ (M1 V1 : Mem) (q : Nat), V 77 p = 3 → (q : Int) < V 80 0 → LikeI V p q → (∀ r : Nat, r < q → ¬ LikeI V p r) → Inv j V1 → AgX S M1 V1 → IvSc M1 → Nted V V1 (V 81 q) → (∀ o k, ¬ (o = 33 ∧ k = 2) → o ≠ 34 → o ≠ 35 → M1 o k = M o k) → Q (V 19 q) M1)
    (hmade : ∀ M1 : Mem, (V 77 p = 3 → ∀ q : Nat, (q : Int) < V 80 0 → ¬ LikeI V p q) → AgX (fun k => S k ∨ (V 80 1 ≤ (k : Int) ∧ (k : Int) < V 80 1 + imL V p)) M1 (mdV V p o) → IvSc M1 → (∀ a k : Nat, (19 ≤ a ∧ a < 36) ∨ 38 < a → M1 a k = M a k) → Q (V 19 (V 80 0).toNat) M1) : OkI B l md_X3_makeThing 0 0 [.ref (ad B 51), .int (I (p : Int)), .int (I o)] X M Q NoX := by
  obtain ⟨p2, hh, p3, p4⟩ := hT
  have hl9 := hI.im.2.1
  have hs := hd_sz hI hh
  have e := hc.1.2 p (by omega)
  have e2 := hc.1.2 (p + 1) (by omega)
  have hf := hd_fm hh
  have hrm := nw_room hI hf hw
  have hrm2 : V 80 1 + imS V p ≤ 1664 := hrm.2
  have hat := at_nn hI
  have hnV := hI.ob.1
  have hO := inv_mdO hI hh hw hnum
  have hc4 := hI.ob.2.2.2.1 (V 80 0).toNat (by omega)
  have hlen : 0 ≤ V 77 (p + 1) ∧ (V 77 p = 3 → V 77 (p + 1) ≤ 120 ∧ imS V p = V 77 (p + 1)) := ⟨hh.2.1, fun e3 => ⟨hh.2.2.2.2 (by omega), by unfold imS nwS imF; rw [if_pos e3]; rfl⟩⟩
  refine ok_X3_makeThing hl (fun G h => ?_)
  have f := Ct_fl h
  have l62 : ∀ s0 : Int, s0 = (if V 77 p = 3 then 1 else 0) → (V 77 p = 3 → ∀ q : Nat, (q : Int) < V 80 0 → ¬ LikeI V p q) → L_X3_makeThing_62 G X (p : Int) o s0 M := by
    intro s0 hs0 hno
    refine go_X3_makeThing_62 h (cs_formAt (N := V) f (by omega) e (fun _ => cs_kindAt (N := V) f (by omega) e e2 (fun _ => cs_lengthAt f hI hc (by omega) e e2 hh (fun _ => cs_makeX (i := j) f hI hj a sc hf hw (fun M4 a4 s4 g4 z => ⟨z, ⟨by decide, by decide⟩, fun he => absurd he (by omega), fun _ => ⟨hc4, ?_⟩⟩)))))
    have hFi : ¬ (3 ≤ imF V p ∧ imF V p ≤ 5) := by
      have := hh.1
      unfold imF
      split <;> omega
    rw [nwF_q (q := 0) hFi] at a4
    have am : ∀ b k : Nat, rC b k = true → ¬ (b = 18 ∧ S k) → ¬ (b = 16 ∧ k = (V 19 (V 80 0).toNat).toNat) → M4 b k = mdO V p o b k := fun b k hk hS2 h16 => by
      have h71 : b ≤ 71 := by unfold rC at hk; simp only [Bool.and_eq_true, Nat.ble_eq] at hk; exact hk.1
      unfold mdO
      rw [nwF_it h71 h16]
      exact a4 b k hk hS2
    have o19 : mdO V p o 19 (V 80 0).toNat = V 19 (V 80 0).toNat := by unfold mdO; exact nwf_k (by omega)
    have o80 : (((V 80 0).toNat : Nat) : Int) < mdO V p o 80 0 := by unfold mdO; rw [nwf_e (by omega), nw_80, if_pos rfl]; omega
    have o84 : mdO V p o 84 (V 80 0).toNat = V 80 1 := by unfold mdO; rw [nwf_e (by omega), nw_n ⟨by decide, by decide⟩]; rfl
    obtain ⟨-, i8, -, -, -, -, -, -, -, i11, i12, -⟩ := hO.ob.2.2.2.2.2.1 _ o80
    rw [o19] at i8 i11 i12
    have c12 : M4 12 (V 19 (V 80 0).toNat).toNat = V 80 1 := (am 12 _ rfl (by omega) (by omega)).trans (i12.trans o84)
    rw [c12]
    intro z2
    have so := cs_sizeOfV (B := gB G) (l := gl G) (X := X) (M := M4) (Q := fun r123 M5 => inR r123 → ((0 ≤ (p : Int) + 2 ∧ 0 ≤ V 80 1 ∧ 0 ≤ r123 ∧ (p : Int) + 2 + r123 ≤ 400 ∧ V 80 1 + r123 ≤ 1664) ∧ ∀ M6 : Mem, M6 = cpM M5 52 ((p : Int) + 2).toNat 18 (V 80 1).toNat r123.toNat → ((0 ≤ V 19 (V 80 0).toNat ∧ V 19 (V 80 0).toNat < 208) ∧ (s0 = 0 ∨ s0 = 1) ∧ ∀ M7 : Mem, M7 = up M6 16 (V 19 (V 80 0).toNat).toNat s0 → (inR (V 19 (V 80 0).toNat) ∧ Q (V 19 (V 80 0).toNat) M7)))) f hO o80 (by rw [o19]; exact (am 8 _ rfl (by omega) (by omega)).trans i8) (by rw [o19]; exact (am 11 _ rfl (by omega) (by omega)).trans i11) (by rw [o19]; exact am 10 _ rfl (by omega) (by omega))
    rw [o19, md_siz] at so
    refine so (fun _ => ⟨⟨by omega, by omega, by omega, by omega, by omega⟩, fun M6 e6 => ⟨hc4, ?_, fun M7 e7 => ⟨z, hmade M7 hno (fun b k hk hS2 => ?_) ?_ (fun b k hb => ?_)⟩⟩⟩)
    · rw [hs0]; split; exact Or.inr rfl; exact Or.inl rfl
    · have h71 : b ≤ 71 := by unfold rC at hk; simp only [Bool.and_eq_true, Nat.ble_eq] at hk; exact hk.1
      by_cases h16 : b = 16 ∧ k = (V 19 (V 80 0).toNat).toNat
      · obtain ⟨rfl, rfl⟩ := h16
        rw [e7, up_s, md_o (by decide) (by decide), hs0]
        unfold mdO
        rw [nwf_e (by omega), nw_c ⟨by decide, by decide⟩]
        rfl
      · rw [e7, up_ne h16, e6]
        show (if b = 18 ∧ (V 80 1).toNat ≤ k ∧ k < (V 80 1).toNat + (imS V p).toNat then M4 52 (((p : Int) + 2).toNat + (k - (V 80 1).toNat)) else M4 b k) = mdV V p o b k
        by_cases h18 : b = 18
        · subst h18
          have hS3 : ¬ S k := fun z => hS2 ⟨rfl, Or.inl z⟩
          have hL3 : ¬ (V 80 1 ≤ (k : Int) ∧ (k : Int) < V 80 1 + imL V p) := fun z => hS2 ⟨rfl, Or.inr z⟩
          unfold mdV
          by_cases hin : V 80 1 ≤ (k : Int) ∧ (k : Int) < V 80 1 + imS V p
          · rw [if_pos ⟨rfl, by omega, by omega⟩, if_pos ⟨Or.inl rfl, by omega, by omega⟩, g4 52 _ (by omega), show ((p : Int) + 2).toNat = p + 2 by omega]
            exact hc.1.2 _ (by omega)
          · rw [if_neg (by omega), if_neg (by omega)]
            exact am 18 k hk (fun z => hS3 z.2) h16
        · rw [if_neg (fun z => h18 z.1), md_o h18 (by omega)]
          exact am b k hk (fun z => h18 z.1) h16
    · rw [e7, e6]
      refine sc_agr (agr_up rfl (fun b k hk => ?_)) s4
      show (if b = 18 ∧ _ then _ else M4 b k) = M4 b k
      rw [if_neg]
      rintro ⟨rfl, -⟩
      exact absurd (show false = true from hk) (by decide)
    · rw [e7, up_ne (by omega), e6]
      show (if b = 18 ∧ _ then _ else M4 b k) = _
      rw [if_neg (by omega)]
      exact g4 b k hb
  refine go_X3_makeThing_0 h ⟨⟨by omega, by omega⟩, ?_⟩
  show inR (M 52 p) → (inR (M 52 p) ∧ inR 3 ∧ (M 52 p ≠ 3 → L_X3_makeThing_15 G X (p : Int) o 0 M) ∧ (M 52 p = 3 → L_X3_makeThing_15 G X (p : Int) o 1 M))
  rw [e]
  refine fun z => ⟨z, ⟨by decide, by decide⟩, fun hne => go_X3_makeThing_15 h ⟨inR0, fun _ => l62 0 (if_neg hne).symm (fun e3 => absurd e3 hne), fun h0 => absurd rfl h0⟩, fun e3 => go_X3_makeThing_15 h ⟨inR1, fun h0 => absurd h0 (by decide), fun _ => ⟨⟨by omega, by omega⟩, ?_⟩⟩⟩
  rw [show ((p : Int) + 1).toNat = p + 1 by omega, e2]
  obtain ⟨len1, len2⟩ := hlen.2 e3
  refine fun _ => cs_findI f hI a hS ⟨hlen.1, len1⟩ (by omega) hc.1.2 (fun q hq h2 hL hfst z2 => ⟨z2, ⟨by decide, by decide⟩, fun he => absurd he (by have := c19 hI.ob hq; omega), fun _ => ?_⟩) (fun hnone z2 => ⟨z2, ⟨by decide, by decide⟩, fun _ => l62 1 (if_pos e3).symm (fun _ => hnone), fun hne => absurd rfl hne⟩)
  exact cs_noteReadY f hI a sc (Or.inr ⟨q, hq, rfl, rfl⟩) (fun M1 V1 iv av sv nt fr => ⟨z2, hfound M1 V1 q e3 hq hL hfst iv av sv nt fr⟩)
end Thing2
