/-! ===== what lies behind the class's objects is no object of the machine: it may be exchanged ===== -/
def Eq72 (M' M : Mem) : Prop := ∀ o, o < 72 → ∀ k, M' o k = M o k
theorem wl_eq72 {B : WB} {M M' : Mem} (h : Eq72 M' M) : wl B M' = wl B M := by
  unfold wl
  exact List.map_congr_left (fun o ho => by rw [ent_cong (h o (List.mem_range.mp ho))])
theorem mok_eq72 {M M' : Mem} (h : Eq72 M' M) (hM : MOK M) : MOK M' := fun o k ho => by rw [h o ho k]; exact hM o k ho
theorem V_swap {G : GT} {md : Md} {k n : Nat} {X : va_W} {M M' : Mem} {pc : Nat} {lv : List (Nat × Value)} {st : List Value} (h : Eq72 M' M) (v : V G md k n X M' pc lv st) : V G md k n X M pc lv st := by
  obtain ⟨p, l, e, R, s, m, args, below, meth, c, B, A, Z⟩ := G
  intro hM
  have v := v (mok_eq72 h hM)
  rw [wl_eq72 h] at v
  exact v
theorem PcO_eq72 {B : WB} {X : va_W} {M M' : Mem} {sz : Nat} {av : List Value} (h : Eq72 M' M) : PcO B X M' sz av = PcO B X M sz av := by
  unfold PcO Wd
  rw [wl_eq72 h]
theorem OkU_swap {B : WB} {l : Launch} {md : Md} {hh : List (Nat × Nat × Nat × Nat)} {kc nc : Nat} {av : List Value} {S : Sh} {D M M' : Mem} {O : OU} (h : Eq72 M' M) (v : OkU B l md hh kc nc av S D M' O) : OkU B l md hh kc nc av S D M O := by
  intro hM hS sz
  have v := v (mok_eq72 h hM) hS sz
  rw [PcO_eq72 h] at v
  exact v
theorem Ok_swap {B : WB} {l : Launch} {md : Md} {k n : Nat} {av : List Value} {X : va_W} {M M' : Mem} {O : Out → Mem → Prop} (h : Eq72 M' M) (v : Ok B l md k n av X M' O) : Ok B l md k n av X M O := by
  intro hM sz
  have v := v (mok_eq72 h hM) sz
  rw [PcO_eq72 h] at v
  exact v
/-- the class's part of M with the ghost of N -/
def gho (M N : Mem) : Mem := fun o k => if o < 72 then M o k else N o k
theorem gho_eq (M N : Mem) : Eq72 (gho M N) M := fun o ho k => if_pos ho
