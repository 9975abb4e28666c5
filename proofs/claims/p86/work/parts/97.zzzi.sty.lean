/-! ===== what stays while the IMAGE's objects are made ===== -/
def StyV (V' V : Mem) : Prop := (V 80 0 ≤ V' 80 0 ∧ V 80 1 ≤ V' 80 1) ∧
  (∀ a p : Nat, 81 ≤ a → a ≤ 84 → (p : Int) < V 80 0 → V' a p = V a p) ∧
  (∀ a k : Nat, a = 18 ∨ a = 87 → (k : Int) < V 80 1 → V' a k = V a k) ∧
  (∀ a k : Nat, (19 ≤ a ∧ a ≤ 24) ∨ a = 88 ∨ a = 89 ∨ (a = 80 ∧ k = 6) ∨ (a = 97 ∧ k = 0) ∨ a = 98 ∨ (a = 72 ∧ k = 10) → V' a k = V a k) ∧
  (∀ p : Nat, V 109 p = 1 → V' 109 p = 1) ∧ ImE V' V
/-- the object that the IMAGE has at p: it is there, or is made -/
def StV (o : Int) (V V' : Mem) (p : Nat) (n c : Int) : Prop := (V 77 p = 3 ∧ ∃ q : Nat, (q : Int) < V 80 0 ∧ LikeI V p q ∧ (∀ r : Nat, r < q → ¬ LikeI V p r) ∧ Nted V V' (V 81 q) ∧ n = V 81 q ∧ c = V 19 q) ∨
  ((V 77 p = 3 → ∀ q : Nat, (q : Int) < V 80 0 → ¬ LikeI V p q) ∧ V' = mdV V p o ∧ n = V 80 2 ∧ c = V 19 (V 80 0).toNat)
/-- where the object is that the IMAGE has at p -/
def PlU (U N : Mem) (p : Nat) (n c b : Int) (P : Nat) : Prop := (P : Int) < U 80 0 ∧ U 81 P = n ∧ U 19 P = c ∧ lnkR U 80 P = imL N p ∧
  (0 < imL N p → (U 82 P = 0 ∨ U 82 P = 1) ∧ U 84 P = b ∧ sizR U 80 P = imS N p ∧ N 80 0 ≤ P ∧ ∀ k : Nat, (k : Int) < imL N p → U 87 (b.toNat + k) = -1) ∧
  (U 72 10 = 1 → N 97 0 ≤ P ∨ U 109 P = 1)
section StyS
variable {j p a k P : Nat} {V V' W N U : Mem} {o n c : Int}
theorem sty_refl : StyV V V := ⟨⟨Int.le_refl _, Int.le_refl _⟩, fun _ _ _ _ _ => rfl, fun _ _ _ _ => rfl, fun _ _ _ => rfl, fun _ h => h, ime_refl⟩
theorem sty_trans (h : StyV W V') (g : StyV V' V) : StyV W V := by
  obtain ⟨h1, h2, h3, h4, h5, h6⟩ := h
  obtain ⟨g1, g2, g3, g4, g5, g6⟩ := g
  exact ⟨⟨by omega, by omega⟩, fun a p x y z => (h2 a p x y (by omega)).trans (g2 a p x y z), fun a k x y => (h3 a k x (by omega)).trans (g3 a k x y), fun a k x => (h4 a k x).trans (g4 a k x), fun p x => h5 p (g5 p x), ime_trans h6 g6⟩
theorem md_80 : mdO V p o 80 k = if k = 0 then V 80 0 + 1 else if k = 1 then V 80 1 + imS V p else if k = 2 then V 80 2 + 1 else V 80 k := by
  unfold mdO
  rw [nwf_e (by omega), nw_80]
  rfl
theorem sty_md (hI : Inv j V) (hh : HdOk V p) : StyV (mdV V p o) V := by
  have hs := hd_sz hI hh
  have hn := hI.ob.1
  refine ⟨⟨?_, ?_⟩, fun a q h1 h2 hq => ?_, fun a k h1 h2 => ?_, fun a k h1 => ?_, fun q hq => ?_, ime_md⟩
  · rw [md_o (by decide) (by decide), md_80, if_pos rfl]; omega
  · rw [md_o (by decide) (by decide), md_80, if_neg (by decide), if_pos rfl]; omega
  · rw [md_o (by omega) (by omega)]
    unfold mdO
    rw [nwf_e (by omega), nw_no ⟨h1, by omega⟩ (by omega)]
  · unfold mdV
    rw [if_neg (by omega)]
    unfold mdO
    rw [nwf_e (by omega), nw_do h1 (by omega)]
  · by_cases h8 : a = 80
    · subst h8
      rw [md_o (by decide) (by decide), md_80, if_neg (by omega), if_neg (by omega), if_neg (by omega)]
    · rw [md_o (by omega) (by omega)]
      unfold mdO
      exact nwf_k (by omega)
  · rw [md_o (by decide) (by decide)]
    unfold mdO
    rw [nwf_k (by omega)]
    exact hq
theorem nt_e (h : ∀ o k : Nat, ¬ (o = 33 ∧ k = 2) → o ≠ 34 → o ≠ 35 → V' o k = up V 109 P 1 o k) (h1 : ¬ (a = 33 ∧ k = 2)) (h2 : a ≠ 34) (h3 : a ≠ 35) (h4 : a ≠ 109) : V' a k = V a k := by
  rw [h a k h1 h2 h3, up_ne (fun z => h4 z.1)]
theorem sty_nted (h : Nted V V' n) : StyV V' V := by
  have hi := ime_nted h
  rcases h with ⟨rfl, -⟩ | ⟨-, q, -, -, h⟩
  · exact sty_refl
  · refine ⟨⟨?_, ?_⟩, fun a q h1 h2 _ => nt_e h (by omega) (by omega) (by omega) (by omega), fun a k h1 _ => nt_e h (by omega) (by omega) (by omega) (by omega), fun a k h1 => nt_e h (by omega) (by omega) (by omega) (by omega), fun r hr => ?_, hi⟩
    · rw [nt_e h (by decide) (by decide) (by decide) (by decide)]
      exact Int.le_refl _
    · rw [nt_e h (by decide) (by decide) (by decide) (by decide)]
      exact Int.le_refl _
    · rw [h 109 r (by omega) (by decide) (by decide)]
      unfold up
      split
      · rfl
      · exact hr
theorem st_sty (hI : Inv j V) (hh : HdOk V p) (h : StV o V V' p n c) : StyV V' V := by
  rcases h with ⟨-, q, -, -, -, h, -⟩ | ⟨-, rfl, -⟩
  · exact sty_nted h
  · exact sty_md hI hh
theorem st_w (hI : Inv j V) (hh : HdOk V p) (h : StV o V V' p n c) : V' 6 18 ≤ V 6 18 + (if o = 0 then nwW V (imF V p) (V 77 (p + 1)) else 0) ∧ V' 6 19 ≤ V 6 19 + (if o = 0 then 0 else nwW V (imF V p) (V 77 (p + 1))) ∧ V' 80 2 ≤ V 80 2 + 1 := by
  have hs := hd_sz hI hh
  rcases h with ⟨-, q, -, -, -, h, -⟩ | ⟨-, rfl, -⟩
  · have e : V' 6 18 = V 6 18 ∧ V' 6 19 = V 6 19 ∧ V' 80 2 = V 80 2 := by
      rcases h with ⟨rfl, -⟩ | ⟨-, q, -, -, h⟩
      · exact ⟨rfl, rfl, rfl⟩
      · exact ⟨nt_e h (by decide) (by decide) (by decide) (by decide), nt_e h (by decide) (by decide) (by decide) (by decide), nt_e h (by decide) (by decide) (by decide) (by decide)⟩
    obtain ⟨e1, e2, e3⟩ := e
    rw [e1, e2, e3]
    refine ⟨?_, ?_, by omega⟩ <;> split <;> omega
  · have e6 : ∀ k, mdV V p o 6 k = nwN V (imF V p) (V 77 (p + 1)) o (if V 77 p = 3 then 1 else 0) 0 (-1) (-1) 6 k := fun k => by
      rw [md_o (by decide) (by decide)]
      unfold mdO
      exact nwf_e (by omega)
    rw [e6, e6, nw_6, nw_6, md_o (by decide) (by decide), md_80]
    exact ⟨Int.le_refl _, Int.le_refl _, Int.le_refl _⟩
theorem iml_3 (h : 0 < imL V p) : V 77 p = 0 ∨ V 77 p = 1 := by
  unfold imL at h
  by_cases e0 : V 77 p = 0
  · exact Or.inl e0
  · by_cases e1 : V 77 p = 1
    · exact Or.inr e1
    · rw [if_neg e0, if_neg e1] at h
      omega
theorem lnk_im (e2 : U 82 P = imF V p) (e3 : U 83 P = V 77 (p + 1)) (e74 : ∀ k, U 74 k = V 74 k) (e75 : ∀ k, U 75 k = V 75 k) : lnkR U 80 P = imL V p ∧ sizR U 80 P = imS V p := by
  constructor
  · show (if U 82 P = 0 then U 74 (U 83 P).toNat else if U 82 P = 1 then U 83 P else 0) = _
    rw [e2, e3, e74]
    unfold imF imL
    by_cases e3 : V 77 p = 3
    · rw [if_pos e3, if_neg (by decide), if_neg (by decide), if_neg (by omega), if_neg (by omega)]
    · rw [if_neg e3]
  · show (if U 82 P = 0 then U 74 (U 83 P).toNat + U 75 (U 83 P).toNat else if U 82 P = 6 then 2 * U 83 P else U 83 P) = _
    rw [e2, e3, e74, e75]
    rfl
theorem pl_u (hI : Inv j V) (hh : HdOk V p) (h : StV o V V' p n c) (hU : StyV U V') (hN : StyV V N) : ∃ P, PlU U N p n c (V 80 1) P := by
  have hs := hd_sz hI hh
  have hn := hI.ob.1
  have hat := at_nn hI
  have hV := st_sty hI hh h
  have eL := ime_l hN.2.2.2.2.2 p
  have eS := ime_s hN.2.2.2.2.2 p
  obtain ⟨u1, u2, u3, u4, u5, u6⟩ := hU
  obtain ⟨v1, v2, v3, v4, v5, v6⟩ := hV
  obtain ⟨n1, n2, n3, n4, n5, n6⟩ := hN
  have e97 : V 97 0 = N 97 0 := n4 97 0 (by omega)
  have e74 : ∀ k, U 74 k = V 74 k := fun k => (u6.2.2.2.1 k).trans (v6.2.2.2.1 k)
  have e75 : ∀ k, U 75 k = V 75 k := fun k => (u6.2.2.2.2 k).trans (v6.2.2.2.2 k)
  have e19 : ∀ k, U 19 k = V 19 k := fun k => (u4 19 k (by omega)).trans (v4 19 k (by omega))
  have e10 : U 72 10 = V 72 10 := (u4 72 10 (by omega)).trans (v4 72 10 (by omega))
  rcases h with ⟨h3, q, hq, hL, -, hnt, rfl, rfl⟩ | ⟨-, rfl, rfl, rfl⟩
  · have f2 : V 82 q = 2 := int_2 hI hq (fun h0 => hL.1 ((flag_4 hI hq).mpr h0))
    have eqa : ∀ a : Nat, 81 ≤ a → a ≤ 84 → U a q = V a q := fun a h1 h2 => (u2 a q h1 h2 (by omega)).trans (v2 a q h1 h2 hq)
    have l0 : imL V p = 0 := by unfold imL; rw [if_neg (by omega), if_neg (by omega)]
    refine ⟨q, by omega, eqa 81 (by decide) (by decide), e19 q, ?_, fun hpos => absurd hpos (by omega), fun hon => ?_⟩
    · rw [← eL, l0]
      show (if U 82 q = 0 then U 74 (U 83 q).toNat else if U 82 q = 1 then U 83 q else 0) = 0
      rw [eqa 82 (by decide) (by decide), f2, if_neg (by decide), if_neg (by decide)]
    · rw [e10] at hon
      have P1 := (hI.mk.2.2.2 hon).1
      by_cases h97 : (q : Int) < V 97 0
      · right
        have e98 := (P1.2.2.2.2.1 q h97).1
        rcases hnt with ⟨-, h0 | ⟨-, hno⟩⟩ | ⟨-, p0, hp0, he, hv⟩
        · omega
        · exact absurd e98 (hno q h97)
        · have hpq : p0 = q := by
            refine (ob_num hI.ob).inj (show (p0 : Int) < V 80 0 by have := P1.1; omega) hq ?_
            show V 81 p0 = V 81 q
            rw [← (P1.2.2.2.2.1 p0 hp0).1]
            exact he
          refine u5 q ?_
          rw [hv 109 q (by omega) (by decide) (by decide), hpq]
          exact up_s _ _ _ _
      · left; omega
  · obtain ⟨m, hm⟩ : ∃ m : Nat, m = (V 80 0).toNat := ⟨_, rfl⟩
    have v80 : mdV V p o 80 0 = V 80 0 + 1 := by rw [md_o (by decide) (by decide), md_80, if_pos rfl]
    have v81 : mdV V p o 80 1 = V 80 1 + imS V p := by rw [md_o (by decide) (by decide), md_80, if_neg (by decide), if_pos rfl]
    have vn : ∀ a : Nat, 81 ≤ a → a ≤ 84 → U a m = nwN V (imF V p) (V 77 (p + 1)) o (if V 77 p = 3 then 1 else 0) 0 (-1) (-1) a (V 80 0).toNat := fun a h1 h2 => by
      rw [u2 a m h1 h2 (by omega), md_o (by omega) (by omega), hm]
      unfold mdO
      exact nwf_e (by omega)
    have m81 : U 81 m = V 80 2 := by rw [vn 81 (by decide) (by decide), nw_n ⟨by decide, by decide⟩]; rfl
    have m82 : U 82 m = imF V p := by rw [vn 82 (by decide) (by decide), nw_n ⟨by decide, by decide⟩]; rfl
    have m83 : U 83 m = V 77 (p + 1) := by rw [vn 83 (by decide) (by decide), nw_n ⟨by decide, by decide⟩]; rfl
    have m84 : U 84 m = V 80 1 := by rw [vn 84 (by decide) (by decide), nw_n ⟨by decide, by decide⟩]; rfl
    obtain ⟨s1, s2⟩ := lnk_im m82 m83 e74 e75
    refine ⟨m, by omega, m81, by rw [e19, hm], by rw [s1, eL], fun hpos => ⟨?_, m84, by rw [s2, eS], by omega, fun k hk => ?_⟩, fun hon => ?_⟩
    · have := iml_3 (V := V) (p := p) (by omega)
      rw [m82]
      unfold imF
      rw [if_neg (by omega)]
      exact this
    · have eS2 : nwS V (imF V p) (V 77 (p + 1)) = imS V p := rfl
      rw [u3 87 _ (Or.inr rfl) (by omega)]
      unfold mdV
      rw [if_neg (by omega)]
      unfold mdO
      rw [nwf_e (by omega), nw_d (Or.inr rfl) (by omega) (by rw [eS2]; omega), iml_h hh, if_pos (by omega)]
      rfl
    · rw [e10] at hon
      have P1 := (hI.mk.2.2.2 hon).1
      left; have := P1.1; omega
end StyS
