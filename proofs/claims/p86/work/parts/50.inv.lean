/-! ===== THE RELATION OF THE TWO MEMORIES =====
Class: Things 6 (numbers 7 forms 8 kinds 9 lengths 10 words 11 starts 12 ages 13 old 14 finalized 15 interned 16 queued 17 data 18 order 19); Roots 21 (slots 22 widths 23 globals 24), queue 25/26, last row 27/28; Marking 31 (picture 32, toKeep 33, madeMeanwhile 36); Collector 39; Image 51/52.
Reference: 72 (kinds 73-76, image 77); its memory 80 (number 81 form 82 what 83 at 84 age 85 flags 86 cells 87 slots 88 held 89 queue 90 last 91 seen 92); the PICTURE 97. -/
/-- the cells of a memory h of the reference: links, cells, cells that hold numbers of objects, words of the object at p -/
def lnkR (M : Mem) (h p : Nat) : Int := if M (h + 2) p = 0 then M 74 (M (h + 3) p).toNat else if M (h + 2) p = 1 then M (h + 3) p else 0
def sizR (M : Mem) (h p : Nat) : Int := if M (h + 2) p = 0 then M 74 (M (h + 3) p).toNat + M 75 (M (h + 3) p).toNat else if M (h + 2) p = 6 then 2 * M (h + 3) p else M (h + 3) p
def holR (M : Mem) (h p : Nat) : Int := if M (h + 2) p = 0 then M 74 (M (h + 3) p).toNat else if M (h + 2) p = 2 then 0 else sizR M h p
def wrdR (M : Mem) (h p : Nat) : Int := 2 + (if M (h + 2) p = 2 then (M (h + 3) p + 3) / 4 else sizR M h p)
/-- where the object at p begins -/
def atR (M : Mem) (h : Nat) : Nat → Int
  | 0 => 0
  | p + 1 => atR M h p + sizR M h p
/-- all words of the objects below p that are, or are not, OLD -/
def wsR (M : Mem) (isOld : Bool) : Nat → Int
  | 0 => 0
  | p + 1 => wsR M isOld p + (if (M 14 (M 19 p).toNat = 1) = (isOld = true) then wrdR M 80 p else 0)
/-- the class's cell c is the reference's number n -/
def Rf (M : Mem) (c n : Int) : Prop := (c = -1 ∧ n = -1) ∨ ∃ p : Nat, (p : Int) < M 80 0 ∧ c = M 19 p ∧ n = M 81 p
def IvFr (M : Mem) : Prop := (1 ≤ M 80 6 ∧ M 80 6 ≤ 8) ∧ M 21 5 = M 80 6 ∧
  (∀ f : Nat, (f : Int) < M 80 6 → M 23 f = M 88 f ∧ 1 ≤ M 88 f ∧ M 88 f ≤ 8) ∧
  (∀ f s : Nat, f < 8 → s < 8 → if (f : Int) < M 80 6 ∧ (s : Int) < M 88 f then Rf M (M 22 (8 * f + s)) (M 89 (8 * f + s)) else M 89 (8 * f + s) = -1) ∧
  (∀ g : Nat, g < 8 → Rf M (M 24 g) (M 89 (64 + g)))
def IvLi (M : Mem) : Prop := (M 25 1 = M 80 7 ∧ 0 ≤ M 80 7 ∧ M 80 7 ≤ 208 ∧ ∀ k : Nat, (k : Int) < M 80 7 → M 26 k ≠ -1 ∧ Rf M (M 26 k) (M 90 k)) ∧
  (M 27 1 = M 80 8 ∧ 0 ≤ M 80 8 ∧ M 80 8 ≤ 208 ∧ ∀ k : Nat, (k : Int) < M 80 8 → M 28 k ≠ -1 ∧ Rf M (M 28 k) (M 91 k))
def IvKd (M : Mem) : Prop := M 1 4 = M 72 1 ∧ (0 ≤ M 72 1 ∧ M 72 1 ≤ 12) ∧
  ∀ k : Nat, (k : Int) < M 72 1 → (M 2 k = M 73 k ∧ M 3 k = M 74 k ∧ M 4 k = M 75 k ∧ M 5 k = M 76 k) ∧ (-1 ≤ M 73 k ∧ M 73 k < k) ∧ (0 ≤ M 74 k ∧ M 74 k ≤ 8) ∧ (0 ≤ M 75 k ∧ M 75 k ≤ 8) ∧ (M 76 k = 0 ∨ M 76 k = 1)
/-- the object at p, whose cell is c -/
def IvO1 (M : Mem) (p c : Nat) : Prop := M 7 c = M 81 p ∧ M 8 c = M 82 p ∧
  (M 82 p = 0 → (M 9 c = M 83 p ∧ M 10 c = M 74 (M 83 p).toNat) ∧ 0 ≤ M 83 p ∧ M 83 p < M 72 1) ∧
  (M 82 p ≠ 0 → M 9 c = -1 ∧ M 10 c = M 83 p) ∧ (0 ≤ M 82 p ∧ M 82 p ≤ 6) ∧
  (M 82 p = 1 → 0 ≤ M 83 p ∧ M 83 p ≤ 40) ∧ (M 82 p = 2 → 0 ≤ M 83 p ∧ M 83 p ≤ 120) ∧ (3 ≤ M 82 p → M 82 p ≤ 5 → M 83 p = 1) ∧ (M 82 p = 6 → 1 ≤ M 83 p ∧ M 83 p ≤ 16) ∧
  M 11 c = wrdR M 80 p ∧ M 12 c = M 84 p ∧ M 84 p = atR M 80 p ∧ M 13 c = M 85 p ∧ (0 ≤ M 85 p ∧ M 85 p ≤ 4) ∧
  (M 14 c = 0 ∨ M 14 c = 1) ∧ (M 15 c = 0 ∨ M 15 c = 1) ∧ (M 16 c = 0 ∨ M 16 c = 1) ∧ (3 ≤ M 82 p → M 82 p ≤ 5 → M 17 c = 0 ∨ M 17 c = 1) ∧ (M 16 c = 1 → M 82 p = 2) ∧ (M 15 c = 1 → M 82 p = 0) ∧
  M 86 p = M 14 c + 2 * M 15 c + 4 * M 16 c + 8 * (if 3 ≤ M 82 p ∧ M 82 p ≤ 5 then M 17 c else 0) + 16 * (if M 82 p = 0 then M 76 (M 83 p).toNat else 0) ∧
  (∀ k : Nat, (k : Int) < holR M 80 p → Rf M (M 18 ((M 84 p).toNat + k)) (M 87 ((M 84 p).toNat + k))) ∧
  (∀ k : Nat, holR M 80 p ≤ k → (k : Int) < sizR M 80 p → M 18 ((M 84 p).toNat + k) = M 87 ((M 84 p).toNat + k) ∧ (M 82 p = 2 → 0 ≤ M 87 ((M 84 p).toNat + k) ∧ M 87 ((M 84 p).toNat + k) ≤ 255))
def IvOb (i : Nat) (M : Mem) : Prop := (M 6 15 = M 80 0 ∧ 0 ≤ M 80 0 ∧ M 80 0 ≤ 208) ∧ (M 6 16 = M 80 1 ∧ M 80 1 = atR M 80 (M 80 0).toNat) ∧ (M 6 17 = M 80 2 ∧ 0 ≤ M 80 2 ∧ M 80 2 ≤ 300 * i) ∧
  (∀ p : Nat, p < 208 → 0 ≤ M 19 p ∧ M 19 p < 208) ∧ (∀ p q : Nat, p < 208 → q < 208 → M 19 p = M 19 q → p = q) ∧
  (∀ p : Nat, (p : Int) < M 80 0 → IvO1 M p (M 19 p).toNat) ∧
  (∀ p q : Nat, p < q → (q : Int) < M 80 0 → M 81 p < M 81 q) ∧ (∀ p : Nat, (p : Int) < M 80 0 → 0 ≤ M 81 p ∧ M 81 p < M 80 2) ∧
  (M 6 18 = wsR M false (M 80 0).toNat ∧ M 6 18 ≤ 96) ∧ (M 6 19 = wsR M true (M 80 0).toNat ∧ M 6 19 ≤ 320)
def IvIm (M : Mem) : Prop := M 51 5 = M 72 9 ∧ (0 ≤ M 72 9 ∧ M 72 9 ≤ 400) ∧ ∀ k : Nat, (k : Int) < M 72 9 → M 52 k = M 77 k
def IvCo (i : Nat) (M : Mem) : Prop := (M 39 6 = M 80 5 ∧ 1 ≤ M 80 5 ∧ M 80 5 ≤ 4) ∧ (M 39 7 = M 80 3 ∧ 0 ≤ M 80 3 ∧ M 80 3 ≤ 100 * i) ∧ (M 39 8 = M 80 4 ∧ 0 ≤ M 80 4 ∧ M 80 4 ≤ 100 * i)
/-- a set of cells as it stands between calls -/
def SetOk (M : Mem) (o : Nat) : Prop := (0 ≤ M o 2 ∧ M o 2 ≤ 208) ∧ (∀ k : Nat, (k : Int) < M o 2 → 0 ≤ M (o + 2) k ∧ M (o + 2) k < 208) ∧
  (∀ j k : Nat, j < k → (k : Int) < M o 2 → M (o + 2) j ≠ M (o + 2) k) ∧ (∀ c : Nat, c < 208 → (M (o + 1) c = 0 ∨ M (o + 1) c = 1)) ∧ (∀ c : Nat, c < 208 → (M (o + 1) c = 1 ↔ ∃ k : Nat, (k : Int) < M o 2 ∧ M (o + 2) k = c))
/-- in the memory h the cell i of the object at p refers to the object at q -/
def Ed (M : Mem) (h p i q : Nat) : Prop := (q : Int) < M h 0 ∧ M (h + 1) q = M (h + 7) ((M (h + 4) p).toNat + i)
/-- how many cells hold on to what they refer to -/
def cntR (M : Mem) (h : Nat) (pr : Int) (p : Nat) : Int := if M (h + 2) p = 4 ∧ pr = 0 then 1 else lnkR M h p
/-- a set of places is closed, if b is never reached -/
def Cls (M : Mem) (h : Nat) (pr b : Int) (T : Nat → Prop) : Prop :=
  (∀ p i q : Nat, (p : Int) < M h 0 → T p → (i : Int) < cntR M h pr p → Ed M h p i q → (q : Int) ≠ b → T q) ∧
  (∀ p i k q : Nat, (p : Int) < M h 0 → T p → M (h + 2) p = 6 → (i : Int) < M (h + 3) p → Ed M h p (2 * i) k → T k → Ed M h p (2 * i + 1) q → (q : Int) ≠ b → T q)
def Cl (M : Mem) (h : Nat) (pr b : Int) (S : Nat → Prop) (p : Nat) : Prop := ∀ T : Nat → Prop, Cls M h pr b T → (∀ q, S q → T q) → T p
/-- a root of the memory h holds the object at q -/
def Hrt (M : Mem) (h q : Nat) : Prop := (q : Int) < M h 0 ∧ ((∃ k : Nat, k < 72 ∧ M (h + 9) k = M (h + 1) q) ∨ (∃ k : Nat, (k : Int) < M h 7 ∧ M (h + 10) k = M (h + 1) q) ∨ (∃ k : Nat, (k : Int) < M h 8 ∧ M (h + 11) k = M (h + 1) q))
/-- of the PICTURE: those TO KEEP; of the memory: those, and those made since -/
def Kp (M : Mem) (p : Nat) : Prop := Cl M 97 0 (-1) (fun q => Hrt M 97 q ∨ ((q : Int) < M 97 0 ∧ M 109 q = 1)) p
def Gd (M : Mem) (p : Nat) : Prop := M 97 0 ≤ p ∨ Kp M p
/-- the PICTURE stands at the first places of the memory -/
def MkPi (M : Mem) : Prop := (0 ≤ M 97 0 ∧ M 97 0 ≤ M 80 0) ∧ (0 ≤ M 97 2 ∧ M 97 2 ≤ M 80 2) ∧ (0 ≤ M 97 7 ∧ M 97 7 ≤ 208) ∧ (0 ≤ M 97 8 ∧ M 97 8 ≤ 208) ∧
  (∀ p : Nat, (p : Int) < M 97 0 → M 98 p = M 81 p ∧ M 99 p = M 82 p ∧ M 100 p = M 83 p ∧ M 101 p = M 84 p) ∧
  (∀ p : Nat, (p : Int) < M 97 0 → M 81 p < M 97 2) ∧ (∀ p : Nat, M 97 0 ≤ p → (p : Int) < M 80 0 → M 97 2 ≤ M 81 p) ∧
  (∀ p k : Nat, (p : Int) < M 97 0 → (k : Int) < holR M 80 p → (M 32 ((M 84 p).toNat + k) = -1 ∧ M 104 ((M 84 p).toNat + k) = -1) ∨ ∃ q : Nat, (q : Int) < M 97 0 ∧ M 32 ((M 84 p).toNat + k) = M 19 q ∧ M 104 ((M 84 p).toNat + k) = M 81 q)
/-- the sets of a marking -/
def MkSe (M : Mem) : Prop := (∀ c : Nat, c < 208 → (M 34 c = 1 ↔ ∃ p : Nat, (p : Int) < M 97 0 ∧ M 19 p = c ∧ Kp M p)) ∧ (∀ c : Nat, c < 208 → (M 37 c = 1 ↔ ∃ p : Nat, M 97 0 ≤ p ∧ (p : Int) < M 80 0 ∧ M 19 p = c)) ∧ (M 31 7 = M 72 11 ∧ 0 ≤ M 72 11 ∧ M 72 11 ≤ M 33 2)
def MkRt (M : Mem) : Prop := ∀ q : Nat, Hrt M 80 q → Gd M q
/-- what is to be kept refers to such alone; what isn't stands as it stood -/
def MkSa (M : Mem) : Prop :=
  (∀ p i q : Nat, (p : Int) < M 80 0 → Gd M p → (i : Int) < cntR M 80 0 p → Ed M 80 p i q → Gd M q) ∧
  (∀ p i k : Nat, (p : Int) < M 80 0 → Gd M p → M 82 p = 6 → (i : Int) < M 83 p → Ed M 80 p (2 * i) k → (Gd M k ∧ ∀ q : Nat, Ed M 80 p (2 * i + 1) q → Gd M q) ∨ ((p : Int) < M 97 0 ∧ M 87 ((M 84 p).toNat + 2 * i) = M 104 ((M 84 p).toNat + 2 * i) ∧ M 87 ((M 84 p).toNat + (2 * i + 1)) = M 104 ((M 84 p).toNat + (2 * i + 1)))) ∧
  (∀ p k : Nat, (p : Int) < M 97 0 → ¬ Kp M p → (k : Int) < holR M 80 p → M 87 ((M 84 p).toNat + k) = M 104 ((M 84 p).toNat + k))
/-- the QUEUE has references that lost what they had, the LAST ROW finalized ones, each once -/
def IvQu (M : Mem) : Prop := (∀ j k : Nat, j < k → (k : Int) < M 80 7 → M 90 j ≠ M 90 k) ∧ (∀ k : Nat, (k : Int) < M 80 7 → ∃ p : Nat, (p : Int) < M 80 0 ∧ M 81 p = M 90 k ∧ (3 ≤ M 82 p ∧ M 82 p ≤ 5) ∧ M 87 (M 84 p).toNat = -1) ∧
  (∀ j k : Nat, j < k → (k : Int) < M 80 8 → M 91 j ≠ M 91 k) ∧ (∀ k : Nat, (k : Int) < M 80 8 → ∃ p : Nat, (p : Int) < M 80 0 ∧ M 81 p = M 91 k ∧ M 15 (M 19 p).toNat = 1)
/-- YOUNG ones are young; an entry without a key has no value -/
def IvAg (M : Mem) : Prop := (∀ p : Nat, (p : Int) < M 80 0 → M 14 (M 19 p).toNat = 0 → M 85 p ≤ 3) ∧ (∀ p k : Nat, (p : Int) < M 80 0 → M 82 p = 6 → (k : Int) < M 83 p → M 87 ((M 84 p).toNat + 2 * k) = -1 → M 87 ((M 84 p).toNat + (2 * k + 1)) = -1) ∧ (∀ p : Nat, (p : Int) < M 80 0 → (M 14 (M 19 p).toNat = 0 → (M 82 p = 1 → M 83 p ≤ 30) ∧ (M 82 p = 6 → M 83 p ≤ 15)) ∧ (M 15 (M 19 p).toNat = 1 → M 76 (M 83 p).toNat = 1))
def IvMk (M : Mem) : Prop := (M 31 6 = M 72 10 ∧ (M 72 10 = 0 ∨ M 72 10 = 1)) ∧ IvQu M ∧ IvAg M ∧ (M 72 10 = 1 → MkPi M ∧ MkSe M ∧ MkRt M ∧ MkSa M)
/-- between calls: sets are sets, nothing is barred, nothing waits -/
def IvSc (M : Mem) : Prop := (∀ o, isCS o → SetOk M o ∧ (o = 59 ∨ M o 3 = -1)) ∧ (∀ o, isHp o → M o 25 = 0 ∧ M o 26 = -1)
def Core (i : Nat) (M : Mem) : Prop := IvFr M ∧ IvLi M ∧ IvKd M ∧ IvOb i M ∧ IvIm M ∧ IvCo i M ∧ IvMk M
def Inv (i : Nat) (M : Mem) : Prop := Core i M ∧ IvSc M
theorem inv_keep : ∀ i M, Inv i M → Inv (i + 1) M := by
  intro i M ⟨⟨h1, h2, h3, h4, h5, h6, h7⟩, h8⟩
  obtain ⟨a1, a2, a3, a4⟩ := h4
  obtain ⟨b1, b2, b3⟩ := h6
  exact ⟨⟨h1, h2, h3, ⟨a1, a2, ⟨a3.1, a3.2.1, by push_cast; omega⟩, a4⟩, h5, ⟨b1, ⟨b2.1, b2.2.1, by push_cast; omega⟩, ⟨b3.1, b3.2.1, by push_cast; omega⟩⟩, h7⟩, h8⟩
theorem Inv.fr {i : Nat} {M : Mem} (h : Inv i M) : IvFr M := h.1.1
theorem Inv.li {i : Nat} {M : Mem} (h : Inv i M) : IvLi M := h.1.2.1
theorem Inv.kd {i : Nat} {M : Mem} (h : Inv i M) : IvKd M := h.1.2.2.1
theorem Inv.ob {i : Nat} {M : Mem} (h : Inv i M) : IvOb i M := h.1.2.2.2.1
theorem Inv.im {i : Nat} {M : Mem} (h : Inv i M) : IvIm M := h.1.2.2.2.2.1
theorem Inv.co {i : Nat} {M : Mem} (h : Inv i M) : IvCo i M := h.1.2.2.2.2.2.1
theorem Inv.mk {i : Nat} {M : Mem} (h : Inv i M) : IvMk M := h.1.2.2.2.2.2.2
theorem Inv.sc {i : Nat} {M : Mem} (h : Inv i M) : IvSc M := h.2
/-! ===== what the relation speaks of: all but scratch ===== -/
def relO (o : Nat) : Bool := Nat.ble o 19 || (Nat.ble 21 o && Nat.ble o 28) || (Nat.ble 31 o && Nat.ble o 39) || Nat.beq o 51 || Nat.beq o 52 || (Nat.ble 73 o && Nat.ble o 77) || (Nat.ble 81 o && Nat.ble o 91) || (Nat.ble 98 o && Nat.ble o 109)
def rel (o k : Nat) : Bool := relO o || (Nat.beq o 72 && !Nat.beq k 0) || ((Nat.beq o 80 || Nat.beq o 97) && !(Nat.beq k 25 || Nat.beq k 26))
def mask (M : Mem) : Mem := fun o k => if rel o k = true then M o k else 0
theorem mask_eq {M M' : Mem} (h : ∀ o k, rel o k = true → M' o k = M o k) : mask M' = mask M := by
  funext o k
  unfold mask
  split
  · rename_i h1; exact h o k h1
  · rfl
theorem atR_mask {M : Mem} : atR (mask M) 80 = atR M 80 := by
  funext p
  induction p with
  | zero => rfl
  | succ p ih => show atR (mask M) 80 p + sizR (mask M) 80 p = atR M 80 p + sizR M 80 p; rw [ih]; rfl
theorem wsR_mask {M : Mem} {b : Bool} : wsR (mask M) b = wsR M b := by
  funext p
  induction p with
  | zero => rfl
  | succ p ih => show wsR (mask M) b p + _ = wsR M b p + _; rw [ih]; rfl
theorem core_mask {i : Nat} {M : Mem} : Core i (mask M) ↔ Core i M := by
  unfold Core IvOb IvO1
  simp only [atR_mask, wsR_mask]
  exact Iff.rfl
theorem core_same {i : Nat} {M M' : Mem} (h : ∀ o k, rel o k = true → M' o k = M o k) (hc : Core i M) : Core i M' := core_mask.mp (by rw [mask_eq h]; exact core_mask.mpr hc)
theorem sc_same {M M' : Mem} (h : ∀ o k, 29 ≤ o → o ≠ 72 → M' o k = M o k) (hc : IvSc M) : IvSc M' := by
  refine ⟨fun o ho => ?_, fun o ho => ?_⟩
  · have h2 := hc.1 o ho
    have ho2 : 29 ≤ o ∧ o ≤ 69 := by rcases ho with h | h | h | h | h | h | h | h | h | h <;> omega
    have e0 : M' o = M o := funext fun k => h o k (by omega) (by omega)
    have e1 : M' (o + 1) = M (o + 1) := funext fun k => h (o + 1) k (by omega) (by omega)
    have e2 : M' (o + 2) = M (o + 2) := funext fun k => h (o + 2) k (by omega) (by omega)
    unfold SetOk
    rw [e0, e1, e2]
    exact h2
  · have h2 := hc.2 o ho
    have ho2 : 80 ≤ o := by rcases ho with h | h | h <;> omega
    rw [h o 25 (by omega) (by omega), h o 26 (by omega) (by omega)]
    exact h2
theorem inv_thr0 {i : Nat} {M : Mem} {v : Int} (h : Inv i M) : Inv i (up M 72 0 v) := by
  refine ⟨core_same (fun o k hr => ?_) h.1, sc_same (fun o k _ ho => ?_) h.2⟩
  · unfold up
    rw [if_neg]
    rintro ⟨rfl, rfl⟩
    exact absurd hr (by decide)
  · unfold up
    rw [if_neg (fun z => ho z.1)]
theorem inv_thr {i : Nat} {M : Mem} {v : Int} (h : Inv i M) : Inv (i + 1) (up M 72 0 v) := inv_keep i _ (inv_thr0 h)
