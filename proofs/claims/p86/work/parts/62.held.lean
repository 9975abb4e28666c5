section Held
variable {B : WB} {l : Launch} {i : Nat} {M : Mem} {qo : Nat}
def rRn (o : Nat) (k : Nat) : Bool := rKp o k || (Nat.beq o 80 && (Nat.beq k 0 || Nat.beq k 7 || Nat.beq k 8)) || Nat.beq o 81 || Nat.beq o 90 || Nat.beq o 91
theorem rn_kp {o k : Nat} (h : rKp o k = true) : rRn o k = true := by
  unfold rRn
  rw [h]
  rfl
theorem gd_same {M M' : Mem} (h : Agr rKp M' M) {q : Nat} : Gd M' q ↔ Gd M q := by
  unfold Gd
  rw [kp_same h, h 97 0 rfl]
/-- what may be put where roots are, while marking is on -/
def Gn (M : Mem) (n : Int) : Prop := M 72 10 = 1 → ∀ q : Nat, (q : Int) < M 80 0 → M 81 q = n → Gd M q
theorem rt_held {M M' : Mem} (h : Agr rRn M' M) {j : Nat} {n : Int} (h89 : ∀ q, M' 89 q = if q = j then n else M 89 q) (hg : ∀ q : Nat, (q : Int) < M 80 0 → M 81 q = n → Gd M q) (c : MkRt M) : MkRt M' := by
  intro q hq
  obtain ⟨h0, h1⟩ := hq
  rw [h 80 0 rfl] at h0
  refine (gd_same (agr_le h (fun o k => rn_kp))).mpr ?_
  rcases h1 with ⟨k, hk, he⟩ | ⟨k, hk, he⟩ | ⟨k, hk, he⟩
  · have he : M' 89 k = M' 81 q := he
    rw [h89, h 81 q rfl] at he
    split at he
    · exact hg q h0 he.symm
    · exact c q ⟨h0, Or.inl ⟨k, hk, he⟩⟩
  · have he : M' 90 k = M' 81 q := he
    rw [h 90 k rfl, h 81 q rfl] at he
    rw [h 80 7 rfl] at hk
    exact c q ⟨h0, Or.inr (Or.inl ⟨k, hk, he⟩)⟩
  · have he : M' 91 k = M' 81 q := he
    rw [h 91 k rfl, h 81 q rfl] at he
    rw [h 80 8 rfl] at hk
    exact c q ⟨h0, Or.inr (Or.inr ⟨k, hk, he⟩)⟩
theorem gn_none {M : Mem} (hI : Inv i M) : Gn M (-1) := fun _ q hq he => absurd (hI.ob.2.2.2.2.2.2.2.1 q hq).1 (by omega)
theorem gn_at {M : Mem} (hI : Inv i M) {k : Nat} (hk : k < 72) : Gn M (M 89 k) := fun hon q hq he => (hI.mk.2.2.2 hon).2.2.1 q ⟨hq, Or.inl ⟨k, hk, he.symm⟩⟩
theorem gn_slot {M : Mem} (hI : Inv i M) {x : Int} (hx : 0 ≤ x ∧ x < wd M) : Gn M (M 89 (sx M x)) := by
  have hf := hI.fr.fs
  have h1 := hf.1
  have h2 := hf.wd
  exact gn_at hI (by unfold sx; omega)
/-- a slot of the top frame is set in both -/
theorem inv_hold {M M' : Mem} (hI : Inv i M) {x c n : Int} (hx : 0 ≤ x ∧ x < wd M) (hr : Rf M c n) (hgn : Gn M n) (a1 : Agr rF0 M' M) (a2 : Agr rLi M' M) (a3 : Agr rKd M' M) (a4 : Agr rOb M' M) (a5 : Agr rIm M' M) (a6 : Agr rCo M' M) (a7 : Agr rMn M' M) (a9 : Agr rQu M' M) (a10 : Agr rRn M' M) (a8 : Agr rSc M' M) (h22 : ∀ q, M' 22 q = if q = sx M x then c else M 22 q) (h89 : ∀ q, M' 89 q = if q = sx M x then n else M 89 q) : Inv (i + 1) M' :=
  inv_keep i _ ⟨⟨fr_hold hI.fr a1 hx hr h22 h89, li_same a2 hI.li, kd_same a3 hI.kd, ob_same a4 hI.ob, im_same a5 hI.im, co_same a6 hI.co, mk_root a7 hI.mk (qu_same a9 hI.mk.2.1) (fun hon => rt_held a10 h89 (hgn hon) (hI.mk.2.2.2 hon).2.2.1)⟩, sc_agr a8 hI.sc⟩
/-- .. and thrown: the class's slot first, then what was thrown, then the reference's -/
theorem inv_hold3 {M : Mem} (hI : Inv i M) {x c n t : Int} {j : Nat} (hj : j = sx M x) (hx : 0 ≤ x ∧ x < wd M) (hr : Rf M c n) (hgn : Gn M n) : Inv (i + 1) (up (up (up M 22 (sx M x) c) 72 0 t) 89 j n) := by
  subst hj
  refine inv_hold hI hx hr hgn (agr_up rfl (agr_up rfl (agr_up rfl agr0))) (agr_up rfl (agr_up rfl (agr_up rfl agr0))) (agr_up rfl (agr_up rfl (agr_up rfl agr0))) (agr_up rfl (agr_up rfl (agr_up rfl agr0))) (agr_up rfl (agr_up rfl (agr_up rfl agr0))) (agr_up rfl (agr_up rfl (agr_up rfl agr0))) (agr_up rfl (agr_up rfl (agr_up rfl agr0))) (agr_up rfl (agr_up rfl (agr_up rfl agr0))) (agr_up rfl (agr_up rfl (agr_up rfl agr0))) (agr_up rfl (agr_up rfl (agr_up rfl agr0))) (fun q => ?_) (fun q => ?_)
  · show up M 22 (sx M x) c 22 q = _
    unfold up
    by_cases h : q = sx M x
    · rw [if_pos ⟨rfl, h⟩, if_pos h]
    · rw [if_neg (fun z => h z.2), if_neg h]
  · show up M 89 (sx M x) n 89 q = _
    unfold up
    by_cases h : q = sx M x
    · rw [if_pos ⟨rfl, h⟩, if_pos h]
    · rw [if_neg (fun z => h z.2), if_neg h]
end Held
