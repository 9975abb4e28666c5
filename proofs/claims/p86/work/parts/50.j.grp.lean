/-! ===== the groups of the relation, each with what it speaks of ===== -/
def Agr (r : Nat → Nat → Bool) (M' M : Mem) : Prop := ∀ o k, r o k = true → M' o k = M o k
theorem agr0 {r : Nat → Nat → Bool} {M : Mem} : Agr r M M := fun _ _ _ => rfl
theorem agr_up {r : Nat → Nat → Bool} {M M' : Mem} {a b : Nat} {v : Int} (h : r a b = false) (h' : Agr r M' M) : Agr r (up M' a b v) M := by
  intro o k hr
  unfold up
  rw [if_neg]
  · exact h' o k hr
  · rintro ⟨rfl, rfl⟩
    rw [h] at hr
    cases hr
theorem agr_tr {r : Nat → Nat → Bool} {M1 M2 M3 : Mem} (h : Agr r M3 M2) (h' : Agr r M2 M1) : Agr r M3 M1 := fun o k hr => (h o k hr).trans (h' o k hr)
def msk (r : Nat → Nat → Bool) (M : Mem) : Mem := fun o k => if r o k = true then M o k else 0
theorem msk_eq {r : Nat → Nat → Bool} {M M' : Mem} (h : Agr r M' M) : msk r M' = msk r M := by
  funext o k
  unfold msk
  split
  · rename_i h1; exact h o k h1
  · rfl
def rPl (o : Nat) (k : Nat) : Bool := Nat.beq o 19 || Nat.beq o 81 || (Nat.beq o 80 && Nat.beq k 0)
def rFr (o : Nat) (k : Nat) : Bool := rPl o k || (Nat.beq o 80 && Nat.beq k 6) || (Nat.beq o 21 && Nat.beq k 5) || Nat.beq o 22 || Nat.beq o 23 || Nat.beq o 24 || Nat.beq o 88 || Nat.beq o 89
def rLi (o : Nat) (k : Nat) : Bool := rPl o k || (Nat.beq o 80 && (Nat.beq k 7 || Nat.beq k 8)) || (Nat.beq o 25 && Nat.beq k 1) || (Nat.beq o 27 && Nat.beq k 1) || Nat.beq o 26 || Nat.beq o 28 || Nat.beq o 90 || Nat.beq o 91
def rKd (o : Nat) (k : Nat) : Bool := (Nat.beq o 1 && Nat.beq k 4) || Nat.beq o 2 || Nat.beq o 3 || Nat.beq o 4 || Nat.beq o 5 || (Nat.beq o 72 && Nat.beq k 1) || Nat.beq o 73 || Nat.beq o 74 || Nat.beq o 75 || Nat.beq o 76
def rOb (o : Nat) (k : Nat) : Bool := (Nat.beq o 80 && (Nat.beq k 0 || Nat.beq k 1 || Nat.beq k 2)) || (Nat.ble 6 o && Nat.ble o 19) || (Nat.beq o 72 && Nat.beq k 1) || (Nat.ble 73 o && Nat.ble o 76) || (Nat.ble 81 o && Nat.ble o 87)
def rIm (o : Nat) (k : Nat) : Bool := (Nat.beq o 51 && Nat.beq k 5) || Nat.beq o 52 || (Nat.beq o 72 && Nat.beq k 9) || Nat.beq o 77
def rCo (o : Nat) (k : Nat) : Bool := (Nat.beq o 39 && (Nat.beq k 6 || Nat.beq k 7 || Nat.beq k 8)) || (Nat.beq o 80 && (Nat.beq k 3 || Nat.beq k 4 || Nat.beq k 5))
def rKp (o : Nat) (k : Nat) : Bool := (Nat.beq o 97 && (Nat.beq k 0 || Nat.beq k 7 || Nat.beq k 8)) || (Nat.ble 98 o && Nat.ble o 101) || Nat.beq o 104 || (Nat.ble 106 o && Nat.ble o 109) || Nat.beq o 74
def rFl (o : Nat) (k : Nat) : Bool := (Nat.beq o 31 && Nat.beq k 6) || (Nat.beq o 72 && Nat.beq k 10)
def rQu (o : Nat) (k : Nat) : Bool := (Nat.beq o 80 && (Nat.beq k 0 || Nat.beq k 7 || Nat.beq k 8)) || Nat.beq o 90 || Nat.beq o 91 || Nat.beq o 81 || Nat.beq o 82 || Nat.beq o 84 || Nat.beq o 87 || Nat.beq o 19 || Nat.beq o 15
def rAg (o : Nat) (k : Nat) : Bool := (Nat.beq o 80 && Nat.beq k 0) || Nat.beq o 14 || Nat.beq o 15 || Nat.beq o 76 || Nat.beq o 19 || (Nat.ble 82 o && Nat.ble o 85) || Nat.beq o 87
def rPi (o : Nat) (k : Nat) : Bool := (Nat.beq o 97 && (Nat.beq k 0 || Nat.beq k 2 || Nat.beq k 7 || Nat.beq k 8)) || (Nat.beq o 80 && (Nat.beq k 0 || Nat.beq k 2)) || (Nat.ble 98 o && Nat.ble o 101) || Nat.beq o 104 || Nat.beq o 32 || Nat.beq o 19 || (Nat.ble 81 o && Nat.ble o 84) || Nat.beq o 74 || Nat.beq o 75
def rSe (o : Nat) (k : Nat) : Bool := rKp o k || Nat.beq o 34 || Nat.beq o 37 || Nat.beq o 19 || (Nat.beq o 80 && Nat.beq k 0) || (Nat.beq o 33 && Nat.beq k 2) || (Nat.beq o 31 && Nat.beq k 7) || (Nat.beq o 72 && Nat.beq k 11)
def rRt (o : Nat) (k : Nat) : Bool := rKp o k || (Nat.beq o 80 && (Nat.beq k 0 || Nat.beq k 7 || Nat.beq k 8)) || Nat.beq o 81 || (Nat.ble 89 o && Nat.ble o 91)
def rSa (o : Nat) (k : Nat) : Bool := rKp o k || (Nat.beq o 80 && Nat.beq k 0) || (Nat.ble 81 o && Nat.ble o 84) || Nat.beq o 87 || Nat.beq o 75
def rMk (o : Nat) (k : Nat) : Bool := rFl o k || rQu o k || rAg o k || rPi o k || rSe o k || rRt o k || rSa o k
def rMn (o : Nat) (k : Nat) : Bool := rFl o k || rAg o k || rPi o k || rSe o k || rSa o k
theorem agr_le {r s : Nat → Nat → Bool} {M M' : Mem} (h : Agr s M' M) (hs : ∀ o k, r o k = true → s o k = true) : Agr r M' M := fun o k hk => h o k (hs o k hk)
theorem fr_same {M M' : Mem} (h : Agr rFr M' M) (c : IvFr M) : IvFr M' := by
  have e := msk_eq h
  have c1 : IvFr (msk rFr M) := c
  rw [← e] at c1
  exact c1
theorem li_same {M M' : Mem} (h : Agr rLi M' M) (c : IvLi M) : IvLi M' := by
  have e := msk_eq h
  have c1 : IvLi (msk rLi M) := c
  rw [← e] at c1
  exact c1
theorem kd_same {M M' : Mem} (h : Agr rKd M' M) (c : IvKd M) : IvKd M' := by
  have e := msk_eq h
  have c1 : IvKd (msk rKd M) := c
  rw [← e] at c1
  exact c1
theorem im_same {M M' : Mem} (h : Agr rIm M' M) (c : IvIm M) : IvIm M' := by
  have e := msk_eq h
  have c1 : IvIm (msk rIm M) := c
  rw [← e] at c1
  exact c1
theorem co_same {i : Nat} {M M' : Mem} (h : Agr rCo M' M) (c : IvCo i M) : IvCo i M' := by
  have e := msk_eq h
  have c1 : IvCo i (msk rCo M) := c
  rw [← e] at c1
  exact c1
theorem qu_same {M M' : Mem} (h : Agr rQu M' M) (c : IvQu M) : IvQu M' := by
  have e := msk_eq h
  have c1 : IvQu (msk rQu M) := c
  rw [← e] at c1
  exact c1
theorem ag_same {M M' : Mem} (h : Agr rAg M' M) (c : IvAg M) : IvAg M' := by
  have e := msk_eq h
  have c1 : IvAg (msk rAg M) := c
  rw [← e] at c1
  exact c1
theorem kp_same {M M' : Mem} (h : Agr rKp M' M) : Kp M' = Kp M := by
  have e := msk_eq h
  have c1 : Kp (msk rKp M) = Kp M := rfl
  have c2 : Kp (msk rKp M') = Kp M' := rfl
  rw [← c1, ← c2, e]
theorem pi_same {M M' : Mem} (h : Agr rPi M' M) (c : MkPi M) : MkPi M' := by
  have e := msk_eq h
  have c1 : MkPi (msk rPi M) := c
  rw [← e] at c1
  exact c1
theorem kp_le {o k : Nat} (h : rKp o k = true) : rSe o k = true ∧ rRt o k = true ∧ rSa o k = true := by
  unfold rSe rRt rSa
  rw [h]
  exact ⟨rfl, rfl, rfl⟩
theorem se_same {M M' : Mem} (h : Agr rSe M' M) (c : MkSe M) : MkSe M' := by
  have hk : Kp M' = Kp M := kp_same (agr_le h (fun o k z => (kp_le z).1))
  have a0 := h 97 0 rfl
  have a1 := h 80 0 rfl
  unfold MkSe
  rw [hk, a0, a1, h 31 7 rfl, h 72 11 rfl, h 33 2 rfl]
  refine ⟨fun x hx => ?_, fun x hx => ?_, c.2.2⟩
  · rw [h 34 x rfl]
    refine (c.1 x hx).trans ⟨fun ⟨p, q1, q2, q3⟩ => ⟨p, q1, by rw [h 19 p rfl]; exact q2, q3⟩, fun ⟨p, q1, q2, q3⟩ => ⟨p, q1, by rw [← h 19 p rfl]; exact q2, q3⟩⟩
  · rw [h 37 x rfl]
    refine (c.2.1 x hx).trans ⟨fun ⟨p, q1, q2, q3⟩ => ⟨p, q1, q2, by rw [h 19 p rfl]; exact q3⟩, fun ⟨p, q1, q2, q3⟩ => ⟨p, q1, q2, by rw [← h 19 p rfl]; exact q3⟩⟩
theorem rt_same {M M' : Mem} (h : Agr rRt M' M) (c : MkRt M) : MkRt M' := by
  have e := msk_eq h
  have c1 : MkRt (msk rRt M) := c
  rw [← e] at c1
  exact c1
theorem sa_same {M M' : Mem} (h : Agr rSa M' M) (c : MkSa M) : MkSa M' := by
  have e := msk_eq h
  have c1 : MkSa (msk rSa M) := c
  rw [← e] at c1
  exact c1
theorem mk_le {o k : Nat} : (rFl o k = true → rMk o k = true) ∧ (rQu o k = true → rMk o k = true) ∧ (rAg o k = true → rMk o k = true) ∧ (rPi o k = true → rMk o k = true) ∧ (rSe o k = true → rMk o k = true) ∧ (rRt o k = true → rMk o k = true) ∧ (rSa o k = true → rMk o k = true) := by
  unfold rMk
  refine ⟨fun h => ?_, fun h => ?_, fun h => ?_, fun h => ?_, fun h => ?_, fun h => ?_, fun h => ?_⟩ <;> rw [h] <;> simp
theorem mn_le {o k : Nat} : (rFl o k = true → rMn o k = true) ∧ (rAg o k = true → rMn o k = true) ∧ (rPi o k = true → rMn o k = true) ∧ (rSe o k = true → rMn o k = true) ∧ (rSa o k = true → rMn o k = true) := by
  unfold rMn
  refine ⟨fun h => ?_, fun h => ?_, fun h => ?_, fun h => ?_, fun h => ?_⟩ <;> rw [h] <;> simp
theorem mk_same {M M' : Mem} (h : Agr rMk M' M) (c : IvMk M) : IvMk M' := by
  obtain ⟨c1, c2, c3, c4⟩ := c
  have e0 := h 72 10 rfl
  refine ⟨by rw [e0, h 31 6 rfl]; exact c1, qu_same (agr_le h (fun o k => mk_le.2.1)) c2, ag_same (agr_le h (fun o k => mk_le.2.2.1)) c3, fun hon => ?_⟩
  rw [e0] at hon
  obtain ⟨d1, d2, d3, d4⟩ := c4 hon
  exact ⟨pi_same (agr_le h (fun o k => mk_le.2.2.2.1)) d1, se_same (agr_le h (fun o k => mk_le.2.2.2.2.1)) d2, rt_same (agr_le h (fun o k => mk_le.2.2.2.2.2.1)) d3, sa_same (agr_le h (fun o k => mk_le.2.2.2.2.2.2)) d4⟩
/-- roots alone have changed -/
theorem mk_root {M M' : Mem} (h : Agr rMn M' M) (c : IvMk M) (hq : IvQu M') (hr : M 72 10 = 1 → MkRt M') : IvMk M' := by
  obtain ⟨c1, c2, c3, c4⟩ := c
  have e0 := h 72 10 rfl
  refine ⟨by rw [e0, h 31 6 rfl]; exact c1, hq, ag_same (agr_le h (fun o k => mn_le.2.1)) c3, fun hon => ?_⟩
  rw [e0] at hon
  obtain ⟨d1, d2, d3, d4⟩ := c4 hon
  exact ⟨pi_same (agr_le h (fun o k => mn_le.2.2.1)) d1, se_same (agr_le h (fun o k => mn_le.2.2.2.1)) d2, hr hon, sa_same (agr_le h (fun o k => mn_le.2.2.2.2)) d4⟩
theorem atR_msk {M : Mem} : atR (msk rOb M) 80 = atR M 80 := by
  funext p
  induction p with
  | zero => rfl
  | succ p ih => show atR (msk rOb M) 80 p + sizR (msk rOb M) 80 p = atR M 80 p + sizR M 80 p; rw [ih]; rfl
theorem wsR_msk {M : Mem} {b : Bool} : wsR (msk rOb M) b = wsR M b := by
  funext p
  induction p with
  | zero => rfl
  | succ p ih => show wsR (msk rOb M) b p + _ = wsR M b p + _; rw [ih]; rfl
theorem ob_msk {i : Nat} {M : Mem} : IvOb i (msk rOb M) ↔ IvOb i M := by
  unfold IvOb IvO1
  simp only [atR_msk, wsR_msk]
  exact Iff.rfl
theorem ob_same {i : Nat} {M M' : Mem} (h : Agr rOb M' M) (c : IvOb i M) : IvOb i M' := by
  have c1 := ob_msk.mpr c
  rw [← msk_eq h] at c1
  exact ob_msk.mp c1
def rSc (o : Nat) (k : Nat) : Bool := (Nat.ble 33 o && Nat.ble o 38) || (Nat.ble 40 o && Nat.ble o 45) || (Nat.ble 47 o && Nat.ble o 49) || (Nat.ble 53 o && Nat.ble o 55) || (Nat.ble 59 o && Nat.ble o 67) || (Nat.ble 69 o && Nat.ble o 71) || ((Nat.beq o 80 || Nat.beq o 97 || Nat.beq o 114) && (Nat.beq k 25 || Nat.beq k 26))
theorem set_agr {M M' : Mem} {o : Nat} (h0 : M' o = M o) (h1 : M' (o + 1) = M (o + 1)) (h2 : M' (o + 2) = M (o + 2)) (h : SetOk M o ∧ (o = 59 ∨ M o 3 = -1)) : SetOk M' o ∧ (o = 59 ∨ M' o 3 = -1) := by
  unfold SetOk
  rw [h0, h1, h2]
  exact h
theorem sc_agr {M M' : Mem} (h : Agr rSc M' M) (hc : IvSc M) : IvSc M' := by
  refine ⟨fun o ho => ?_, fun o ho => ?_⟩
  · have h2 := hc.1 o ho
    rcases ho with rfl | rfl | rfl | rfl | rfl | rfl | rfl | rfl | rfl | rfl <;> exact set_agr (funext fun k => h _ k rfl) (funext fun k => h _ k rfl) (funext fun k => h _ k rfl) h2
  · have h2 := hc.2 o ho
    rcases ho with rfl | rfl | rfl <;> exact ⟨(h _ _ rfl).trans h2.1, (h _ _ rfl).trans h2.2⟩
