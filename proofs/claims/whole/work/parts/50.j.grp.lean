/-! ===== the groups of the relation, each with what it speaks of ===== -/
def Agr (r : Nat → Nat → Bool) (M' M : Mem) : Prop := ∀ o k, r o k = true → M' o k = M o k
theorem agr0 {r : Nat → Nat → Bool} {M : Mem} : Agr r M M := fun _ _ _ => rfl
theorem agr_up {r : Nat → Nat → Bool} {M M' : Mem} {a b : Nat} {v : Int} (h : r a b = false) (h' : Agr r M' M) : Agr r (up M' a b v) M := by
  intro o k hr
  unfold up
  rw [if_neg]
  · exact h' o k hr
  · rintro ⟨rfl, rfl⟩
    rw [h] at hr
    cases hr
theorem agr_tr {r : Nat → Nat → Bool} {M1 M2 M3 : Mem} (h : Agr r M3 M2) (h' : Agr r M2 M1) : Agr r M3 M1 := fun o k hr => (h o k hr).trans (h' o k hr)
def msk (r : Nat → Nat → Bool) (M : Mem) : Mem := fun o k => if r o k = true then M o k else 0
theorem msk_eq {r : Nat → Nat → Bool} {M M' : Mem} (h : Agr r M' M) : msk r M' = msk r M := by
  funext o k
  unfold msk
  split
  · rename_i h1; exact h o k h1
  · rfl
def rPl (o : Nat) (k : Nat) : Bool := Nat.beq o 19 || Nat.beq o 81 || (Nat.beq o 80 && Nat.beq k 0)
def rFr (o : Nat) (k : Nat) : Bool := rPl o k || (Nat.beq o 80 && Nat.beq k 6) || (Nat.beq o 21 && Nat.beq k 5) || Nat.beq o 22 || Nat.beq o 23 || Nat.beq o 24 || Nat.beq o 88 || Nat.beq o 89
def rLi (o : Nat) (k : Nat) : Bool := rPl o k || (Nat.beq o 80 && (Nat.beq k 7 || Nat.beq k 8)) || (Nat.beq o 25 && Nat.beq k 1) || (Nat.beq o 27 && Nat.beq k 1) || Nat.beq o 26 || Nat.beq o 28 || Nat.beq o 90 || Nat.beq o 91
def rKd (o : Nat) (k : Nat) : Bool := (Nat.beq o 1 && Nat.beq k 4) || Nat.beq o 2 || Nat.beq o 3 || Nat.beq o 4 || Nat.beq o 5 || (Nat.beq o 72 && Nat.beq k 1) || Nat.beq o 73 || Nat.beq o 74 || Nat.beq o 75 || Nat.beq o 76
def rOb (o : Nat) (k : Nat) : Bool := (Nat.beq o 80 && (Nat.beq k 0 || Nat.beq k 1 || Nat.beq k 2)) || (Nat.ble 6 o && Nat.ble o 19) || (Nat.beq o 72 && Nat.beq k 1) || (Nat.ble 73 o && Nat.ble o 76) || (Nat.ble 81 o && Nat.ble o 87)
def rIm (o : Nat) (k : Nat) : Bool := (Nat.beq o 51 && Nat.beq k 5) || Nat.beq o 52 || (Nat.beq o 72 && Nat.beq k 9) || Nat.beq o 77
def rCo (o : Nat) (k : Nat) : Bool := (Nat.beq o 39 && (Nat.beq k 6 || Nat.beq k 7 || Nat.beq k 8)) || (Nat.beq o 80 && (Nat.beq k 3 || Nat.beq k 4 || Nat.beq k 5))
def rMk (o : Nat) (k : Nat) : Bool := (Nat.beq o 31 && Nat.beq k 6) || (Nat.beq o 72 && Nat.beq k 10)
theorem fr_same {M M' : Mem} (h : Agr rFr M' M) (c : IvFr M) : IvFr M' := by
  have e := msk_eq h
  have c1 : IvFr (msk rFr M) := c
  rw [← e] at c1
  exact c1
theorem li_same {M M' : Mem} (h : Agr rLi M' M) (c : IvLi M) : IvLi M' := by
  have e := msk_eq h
  have c1 : IvLi (msk rLi M) := c
  rw [← e] at c1
  exact c1
theorem kd_same {M M' : Mem} (h : Agr rKd M' M) (c : IvKd M) : IvKd M' := by
  have e := msk_eq h
  have c1 : IvKd (msk rKd M) := c
  rw [← e] at c1
  exact c1
theorem im_same {M M' : Mem} (h : Agr rIm M' M) (c : IvIm M) : IvIm M' := by
  have e := msk_eq h
  have c1 : IvIm (msk rIm M) := c
  rw [← e] at c1
  exact c1
theorem co_same {i : Nat} {M M' : Mem} (h : Agr rCo M' M) (c : IvCo i M) : IvCo i M' := by
  have e := msk_eq h
  have c1 : IvCo i (msk rCo M) := c
  rw [← e] at c1
  exact c1
theorem mk_same {M M' : Mem} (h : Agr rMk M' M) (c : IvMk M) : IvMk M' := by
  have e := msk_eq h
  have c1 : IvMk (msk rMk M) := c
  rw [← e] at c1
  exact c1
theorem atR_msk {M : Mem} : atR (msk rOb M) 80 = atR M 80 := by
  funext p
  induction p with
  | zero => rfl
  | succ p ih => show atR (msk rOb M) 80 p + sizR (msk rOb M) 80 p = atR M 80 p + sizR M 80 p; rw [ih]; rfl
theorem wsR_msk {M : Mem} {b : Bool} : wsR (msk rOb M) b = wsR M b := by
  funext p
  induction p with
  | zero => rfl
  | succ p ih => show wsR (msk rOb M) b p + _ = wsR M b p + _; rw [ih]; rfl
theorem ob_msk {i : Nat} {M : Mem} : IvOb i (msk rOb M) ↔ IvOb i M := by
  unfold IvOb IvO1
  simp only [atR_msk, wsR_msk]
  exact Iff.rfl
theorem ob_same {i : Nat} {M M' : Mem} (h : Agr rOb M' M) (c : IvOb i M) : IvOb i M' := by
  have c1 := ob_msk.mpr c
  rw [← msk_eq h] at c1
  exact ob_msk.mp c1
def rSc (o : Nat) (k : Nat) : Bool := (Nat.ble 33 o && Nat.ble o 38) || (Nat.ble 40 o && Nat.ble o 45) || (Nat.ble 47 o && Nat.ble o 49) || (Nat.ble 53 o && Nat.ble o 55) || (Nat.ble 59 o && Nat.ble o 67) || (Nat.ble 69 o && Nat.ble o 71) || ((Nat.beq o 80 || Nat.beq o 97 || Nat.beq o 114) && (Nat.beq k 25 || Nat.beq k 26))
theorem set_agr {M M' : Mem} {o : Nat} (h0 : M' o = M o) (h1 : M' (o + 1) = M (o + 1)) (h2 : M' (o + 2) = M (o + 2)) (h : SetOk M o ∧ M o 3 = -1) : SetOk M' o ∧ M' o 3 = -1 := by
  unfold SetOk
  rw [h0, h1, h2]
  exact h
theorem sc_agr {M M' : Mem} (h : Agr rSc M' M) (hc : IvSc M) : IvSc M' := by
  refine ⟨fun o ho => ?_, fun o ho => ?_⟩
  · have h2 := hc.1 o ho
    rcases ho with rfl | rfl | rfl | rfl | rfl | rfl | rfl | rfl | rfl | rfl <;> exact set_agr (funext fun k => h _ k rfl) (funext fun k => h _ k rfl) (funext fun k => h _ k rfl) h2
  · have h2 := hc.2 o ho
    rcases ho with rfl | rfl | rfl <;> exact ⟨(h _ _ rfl).trans h2.1, (h _ _ rfl).trans h2.2⟩
