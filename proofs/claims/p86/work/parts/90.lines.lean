section Lines
variable {B : WB} {l : Launch} {X : va_W} {M : Mem} {Q : Int → Mem → Prop} {x : Int} {i qo : Nat}
theorem agr_cp {r : Nat → Nat → Bool} {M M' : Mem} {src sp dst dp n : Nat} (h : ∀ j, r dst j = false) (h' : Agr r M' M) : Agr r (cpM M' src sp dst dp n) M := by
  intro o k hr
  unfold cpM
  rw [if_neg]
  · exact h' o k hr
  · rintro ⟨rfl, -⟩
    rw [h k] at hr
    cases hr
theorem cs_takeFirst {o : Nat} (ho : isLi o) (hl : l.stackTraces = false) (hb : 0 ≤ M o 1 ∧ M o 1 ≤ 208) (h0 : M o 1 = 0 → Q (-1) M) (h1 : M o 1 ≠ 0 → Q (M (o + 1) 0) (cpM (up M o 1 (M o 1 - 1)) (o + 1) 1 (o + 1) 0 (M o 1 - 1).toNat)) : OkI B l md_X5_takeFirst 0 0 [.ref (ad B o)] X M Q NoX := by
  refine ok_X5_takeFirst hl (fun G h => go_X5_takeFirst_0 h ho (fun z => ⟨z, fun hne => ⟨by omega, fun z2 z3 => ⟨⟨by omega, by omega⟩, fun M1 e z4 => ?_⟩⟩, fun he => ⟨⟨by decide, by decide⟩, h0 he⟩⟩))
  have e1 : M1 o 1 = M o 1 - 1 := by subst e; unfold up; rw [if_pos ⟨rfl, rfl⟩]
  refine ⟨by rw [e1]; omega, fun M2 e2 => ⟨z2, ?_⟩⟩
  rw [e1] at e2
  subst e2
  subst e
  exact h1 hne
theorem li_q {M' : Mem} (h : IvLi M) (hpl : Agr rPl M' M) (hpos : 0 < M 80 7) (h1 : M' 25 1 = M 80 7 - 1) (h2 : M' 80 7 = M 80 7 - 1) (h26 : ∀ k : Nat, (k : Int) + 1 < M 80 7 → M' 26 k = M 26 (k + 1)) (h90 : ∀ k : Nat, (k : Int) + 1 < M 80 7 → M' 90 k = M 90 (k + 1)) (h27 : M' 27 1 = M 27 1) (h8 : M' 80 8 = M 80 8) (h28 : ∀ k, M' 28 k = M 28 k) (h91 : ∀ k, M' 91 k = M 91 k) : IvLi M' := by
  obtain ⟨⟨a1, a2, a3, a4⟩, b1, b2, b3, b4⟩ := h
  refine ⟨⟨by omega, by omega, by omega, fun k hk => ?_⟩, by omega, by omega, by omega, fun k hk => ?_⟩
  · rw [h26 k (by omega), h90 k (by omega)]
    have := a4 (k + 1) (by omega)
    exact ⟨this.1, rf_same hpl this.2⟩
  · rw [h28, h91]
    have := b4 k (by omega)
    exact ⟨this.1, rf_same hpl this.2⟩
theorem li_l {M' : Mem} (h : IvLi M) (hpl : Agr rPl M' M) (hpos : 0 < M 80 8) (h1 : M' 27 1 = M 80 8 - 1) (h2 : M' 80 8 = M 80 8 - 1) (h26 : ∀ k : Nat, (k : Int) + 1 < M 80 8 → M' 28 k = M 28 (k + 1)) (h90 : ∀ k : Nat, (k : Int) + 1 < M 80 8 → M' 91 k = M 91 (k + 1)) (h27 : M' 25 1 = M 25 1) (h8 : M' 80 7 = M 80 7) (h28 : ∀ k, M' 26 k = M 26 k) (h91 : ∀ k, M' 90 k = M 90 k) : IvLi M' := by
  obtain ⟨⟨a1, a2, a3, a4⟩, b1, b2, b3, b4⟩ := h
  refine ⟨⟨by omega, by omega, by omega, fun k hk => ?_⟩, by omega, by omega, by omega, fun k hk => ?_⟩
  · rw [h28, h91]
    have := a4 k (by omega)
    exact ⟨this.1, rf_same hpl this.2⟩
  · rw [h26 k (by omega), h90 k (by omega)]
    have := b4 (k + 1) (by omega)
    exact ⟨this.1, rf_same hpl this.2⟩
theorem cp_shift (M : Mem) (a n k : Nat) (h : k < n) : cpM M a 1 a 0 n a k = M a (k + 1) := by
  unfold cpM
  rw [if_pos ⟨rfl, by omega, by omega⟩]
  congr 1
  omega
def rQx (o : Nat) (k : Nat) : Bool := rKp o k || (Nat.beq o 80 && (Nat.beq k 0 || Nat.beq k 8)) || Nat.beq o 91 || Nat.beq o 81 || Nat.beq o 82 || Nat.beq o 84 || Nat.beq o 87 || Nat.beq o 19 || Nat.beq o 15
def rLx (o : Nat) (k : Nat) : Bool := rKp o k || (Nat.beq o 80 && (Nat.beq k 0 || Nat.beq k 7)) || Nat.beq o 90 || Nat.beq o 81 || Nat.beq o 82 || Nat.beq o 84 || Nat.beq o 87 || Nat.beq o 19 || Nat.beq o 15
theorem mk_poll {M' : Mem} (hI : Inv i M) {j : Nat} (hn : Agr rMn M' M) (hx : Agr rQx M' M) (hpos : 0 < M 80 7) (h2 : M' 80 7 = M 80 7 - 1) (h90 : ∀ k : Nat, (k : Int) + 1 < M 80 7 → M' 90 k = M 90 (k + 1)) (h89 : ∀ q, M' 89 q = if q = j then M 90 0 else M 89 q) : IvMk M' := by
  obtain ⟨q1, q2, q3, q4⟩ := hI.mk.2.1
  have hkp : Agr rKp M' M := fun o k hk => hx o k (by unfold rQx; rw [hk]; rfl)
  refine mk_root hn hI.mk ⟨fun a b hab hb => ?_, fun k hk => ?_, fun a b hab hb => ?_, fun k hk => ?_⟩ (fun hon => ?_)
  · rw [h90 a (by omega), h90 b (by omega)]
    exact q1 (a + 1) (b + 1) (by omega) (by omega)
  · rw [h90 k (by omega)]
    obtain ⟨p, a1, a2, a3, a4⟩ := q2 (k + 1) (by omega)
    exact ⟨p, by rw [hx 80 0 rfl]; exact a1, by rw [hx 81 p rfl]; exact a2, by rw [hx 82 p rfl]; exact a3, by rw [hx 84 p rfl, hx 87 _ rfl]; exact a4⟩
  · rw [hx 80 8 rfl] at hb
    rw [hx 91 a rfl, hx 91 b rfl]
    exact q3 a b hab hb
  · rw [hx 80 8 rfl] at hk
    rw [hx 91 k rfl]
    obtain ⟨p, a1, a2, a3⟩ := q4 k hk
    exact ⟨p, by rw [hx 80 0 rfl]; exact a1, by rw [hx 81 p rfl]; exact a2, by rw [hx 19 p rfl, hx 15 _ rfl]; exact a3⟩
  · have c := (hI.mk.2.2.2 hon).2.2.1
    intro q hq
    obtain ⟨h0, h1⟩ := hq
    rw [hx 80 0 rfl] at h0
    refine (gd_same hkp).mpr ?_
    rcases h1 with ⟨k, hk, he⟩ | ⟨k, hk, he⟩ | ⟨k, hk, he⟩
    · have he : M' 89 k = M' 81 q := he
      rw [h89, hx 81 q rfl] at he
      split at he
      · exact c q ⟨h0, Or.inr (Or.inl ⟨0, by omega, he⟩)⟩
      · exact c q ⟨h0, Or.inl ⟨k, hk, he⟩⟩
    · have he : M' 90 k = M' 81 q := he
      rw [h90 k (by omega), hx 81 q rfl] at he
      exact c q ⟨h0, Or.inr (Or.inl ⟨k + 1, by omega, he⟩)⟩
    · have he : M' 91 k = M' 81 q := he
      rw [hx 91 k rfl, hx 81 q rfl] at he
      rw [hx 80 8 rfl] at hk
      exact c q ⟨h0, Or.inr (Or.inr ⟨k, hk, he⟩)⟩
theorem mk_last {M' : Mem} (hI : Inv i M) {j : Nat} (hn : Agr rMn M' M) (hx : Agr rLx M' M) (hpos : 0 < M 80 8) (h2 : M' 80 8 = M 80 8 - 1) (h90 : ∀ k : Nat, (k : Int) + 1 < M 80 8 → M' 91 k = M 91 (k + 1)) (h89 : ∀ q, M' 89 q = if q = j then M 91 0 else M 89 q) : IvMk M' := by
  obtain ⟨q1, q2, q3, q4⟩ := hI.mk.2.1
  have hkp : Agr rKp M' M := fun o k hk => hx o k (by unfold rLx; rw [hk]; rfl)
  refine mk_root hn hI.mk ⟨fun a b hab hb => ?_, fun k hk => ?_, fun a b hab hb => ?_, fun k hk => ?_⟩ (fun hon => ?_)
  · rw [hx 80 7 rfl] at hb
    rw [hx 90 a rfl, hx 90 b rfl]
    exact q1 a b hab hb
  · rw [hx 80 7 rfl] at hk
    rw [hx 90 k rfl]
    obtain ⟨p, a1, a2, a3, a4⟩ := q2 k hk
    exact ⟨p, by rw [hx 80 0 rfl]; exact a1, by rw [hx 81 p rfl]; exact a2, by rw [hx 82 p rfl]; exact a3, by rw [hx 84 p rfl, hx 87 _ rfl]; exact a4⟩
  · rw [h90 a (by omega), h90 b (by omega)]
    exact q3 (a + 1) (b + 1) (by omega) (by omega)
  · rw [h90 k (by omega)]
    obtain ⟨p, a1, a2, a3⟩ := q4 (k + 1) (by omega)
    exact ⟨p, by rw [hx 80 0 rfl]; exact a1, by rw [hx 81 p rfl]; exact a2, by rw [hx 19 p rfl, hx 15 _ rfl]; exact a3⟩
  · have c := (hI.mk.2.2.2 hon).2.2.1
    intro q hq
    obtain ⟨h0, h1⟩ := hq
    rw [hx 80 0 rfl] at h0
    refine (gd_same hkp).mpr ?_
    rcases h1 with ⟨k, hk, he⟩ | ⟨k, hk, he⟩ | ⟨k, hk, he⟩
    · have he : M' 89 k = M' 81 q := he
      rw [h89, hx 81 q rfl] at he
      split at he
      · exact c q ⟨h0, Or.inr (Or.inr ⟨0, by omega, he⟩)⟩
      · exact c q ⟨h0, Or.inl ⟨k, hk, he⟩⟩
    · have he : M' 90 k = M' 81 q := he
      rw [hx 90 k rfl, hx 81 q rfl] at he
      rw [hx 80 7 rfl] at hk
      exact c q ⟨h0, Or.inr (Or.inl ⟨k, hk, he⟩)⟩
    · have he : M' 91 k = M' 81 q := he
      rw [h90 k (by omega), hx 81 q rfl] at he
      exact c q ⟨h0, Or.inr (Or.inr ⟨k + 1, by omega, he⟩)⟩
end Lines
