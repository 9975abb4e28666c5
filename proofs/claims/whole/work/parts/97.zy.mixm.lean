/-! ===== the digest: the reference's side ===== -/
def ArF (f : Nat → Int32) (L : List Int) : Prop := ∀ (j : Nat) (v : Int), L[j]? = some v → f j = I v
theorem arF_0 {f : Nat → Int32} : ArF f [] := fun j v h => by simp at h
theorem arF_s {f g : Nat → Int32} {L : List Int} {n : Nat} {v : Int} (h : ArF f L) (hn : L.length = n) (e : g = upd f n (I v)) : ArF g (L ++ [v]) := by
  intro j w hw
  subst e
  by_cases hj : j = n
  · subst hj
    rw [List.getElem?_append_right (by omega), hn, Nat.sub_self] at hw
    cases hw
    unfold upd
    exact if_pos rfl
  · have hlt : j < n := by
      have := (List.getElem?_eq_some_iff.mp hw).1
      rw [List.length_append] at this
      have h1 : [v].length = 1 := rfl
      omega
    rw [List.getElem?_append_left (by omega)] at hw
    have k := h j w hw
    unfold upd
    rw [if_neg hj]
    exact k
theorem sp01I {P : Int → Prop} {v : Int} (hv : v = 0 ∨ v = 1) (h : P v) : (v = 0 → P 0) ∧ (v ≠ 0 → P 1) := by
  rcases hv with rfl | rfl
  · exact ⟨fun _ => h, fun k => absurd rfl k⟩
  · exact ⟨fun k => absurd k (by decide), fun _ => h⟩
theorem i64_pred : ∀ n : Nat, n < 220 → (I ((n : Int) - 1 + 1)).toInt64 = (I ((n : Int) - 1)).toInt64 + 1 := by decide +kernel
theorem mx_pred {s : Int64} {d : Int} (h : -1 ≤ d ∧ d ≤ 210) : (s * (31 : Int64)) + (I (d + 1)).toInt64 - (1 : Int64) = mx1 s d := by
  have k := i64_pred (d + 1).toNat (by omega)
  rw [show (((d + 1).toNat : Nat) : Int) - 1 = d by omega] at k
  rw [k, ← Int64.add_assoc, Int64.add_sub_cancel]
  rfl
section MixM
variable {G : GT} {B : WB} {l : Launch} {k n : Nat} {X : va_W} {M M' N : Mem} {Q : Int → Mem → Prop} {QL : Int64 → Mem → Prop} {E : String → Mem → Prop} {i p : Nat} {a : Int} {s y : Int64} {L : List Int} {kc nc q : Nat} {f : Nat → Int32} {x4 pl : Int}
theorem ms_arr226 (h : Ct G md_X13_digest X (oL QL E) B l k n) (hb : kc ≤ k ∧ nc ≤ n) (hf : ArF f L) (hL : L.length = 17) (nx : L_X13_digest_259 G X kc nc (mxL s L) 0 M) : L_X13_digest_226 G X kc nc q f s 17 0 M := by
  have loop : ∀ (r x : Nat) (y : Int64), x + r = 17 → mxL y (L.drop x) = mxL s L → L_X13_digest_226 G X kc nc q f y 17 (x : Int) M := by
    intro r
    induction r with
    | zero =>
      intro x y hx hy
      rw [List.drop_eq_nil_of_le (by omega)] at hy
      refine go_X13_digest_226 h hb ⟨⟨by omega, by omega⟩, ⟨by decide, by decide⟩, fun _ => ?_, fun hlt => absurd hlt (by omega)⟩
      rw [show y = mxL s L from hy]
      exact nx
    | succ r ih =>
      intro x y hx hy
      have hl : x < L.length := by omega
      have e := hf x L[x] (List.getElem?_eq_getElem hl)
      rw [List.drop_eq_getElem_cons hl] at hy
      have t := ih (x + 1) (mx1 y L[x]) (by omega) hy
      refine go_X13_digest_226 h hb ⟨⟨by omega, by omega⟩, ⟨by decide, by decide⟩, fun hge => absurd hge (by omega), fun _ => ⟨⟨by omega, by omega⟩, ?_⟩⟩
      show L_X13_digest_226 G X kc nc q f ((y * (31 : Int64)) + (f x).toInt64) 17 ((x : Int) + 1) M
      rw [e]
      exact t
  exact loop 17 0 s rfl rfl
theorem ms_arr446 (h : Ct G md_X13_digest X (oL QL E) B l k n) (hb : kc ≤ k ∧ nc ≤ n) (hf : ArF f L) (hL : L.length = 11) (nx : L_X13_digest_259 G X kc nc (mxL s L) (x4 + 1) M) : L_X13_digest_446 G X kc nc q f s x4 11 0 M := by
  have loop : ∀ (r x : Nat) (y : Int64), x + r = 11 → mxL y (L.drop x) = mxL s L → L_X13_digest_446 G X kc nc q f y x4 11 (x : Int) M := by
    intro r
    induction r with
    | zero =>
      intro x y hx hy
      rw [List.drop_eq_nil_of_le (by omega)] at hy
      refine go_X13_digest_446 h hb ⟨⟨by omega, by omega⟩, ⟨by decide, by decide⟩, fun _ => ?_, fun hlt => absurd hlt (by omega)⟩
      rw [show y = mxL s L from hy]
      exact nx
    | succ r ih =>
      intro x y hx hy
      have hl : x < L.length := by omega
      have e := hf x L[x] (List.getElem?_eq_getElem hl)
      rw [List.drop_eq_getElem_cons hl] at hy
      have t := ih (x + 1) (mx1 y L[x]) (by omega) hy
      refine go_X13_digest_446 h hb ⟨⟨by omega, by omega⟩, ⟨by decide, by decide⟩, fun hge => absurd hge (by omega), fun _ => ⟨⟨by omega, by omega⟩, ?_⟩⟩
      show L_X13_digest_446 G X kc nc q f ((y * (31 : Int64)) + (f x).toInt64) x4 11 ((x : Int) + 1) M
      rw [e]
      exact t
  exact loop 11 0 s rfl rfl
/-- one slot of the reference mixed -/
theorem ms_slotV {v0 v1 v2 v3 v4 v5 v6 v7 v8 v9 v10 : Int} (h : Ct G md_X13_digest X (oL QL E) B l k n) (hb : kc + 1 ≤ k ∧ nc + 11 ≤ n) (hI : Inv i M) (hg : 0 ≤ a ∧ a < wd M) (h6 : v6 = 0 ∨ v6 = 1) (h7 : v7 = 0 ∨ v7 = 1) (h8 : v8 = 0 ∨ v8 = 1) (h9 : v9 = 0 ∨ v9 = 1)
    (cP : ∀ {B l X} {Q : Int → Mem → Prop}, l.stackTraces = false → Q pl M → OkI B l md_X13_placeOf 0 0 [.ref (ad B 72), .int (I a)] X M Q NoX)
    (c0 : ∀ {B l X} {Q : Int → Mem → Prop}, l.stackTraces = false → Q v0 M → OkI B l md_X13_inSlot 0 0 [.ref (ad B 72), .int (I a)] X M Q NoX)
    (c1 : ∀ {B l X} {Q : Int → Mem → Prop}, l.stackTraces = false → Q v1 M → OkI B l md_X13_formIn 0 0 [.ref (ad B 72), .int (I a)] X M Q NoX)
    (c2 : ∀ {B l X} {Q : Int → Mem → Prop}, l.stackTraces = false → Q v2 M → OkI B l md_X13_kindIn 0 0 [.ref (ad B 72), .int (I pl)] X M Q NoX)
    (c3 : ∀ {B l X} {Q : Int → Mem → Prop}, l.stackTraces = false → Q v3 M → OkI B l md_X13_lengthIn 0 0 [.ref (ad B 72), .int (I pl)] X M Q NoX)
    (c4 : ∀ {B l X} {Q : Int → Mem → Prop}, l.stackTraces = false → Q v4 M → OkI B l md_X13_wordsIn 0 0 [.ref (ad B 72), .int (I pl)] X M Q NoX)
    (c5 : ∀ {B l X} {Q : Int → Mem → Prop}, l.stackTraces = false → Q v5 M → OkI B l md_X13_ageIn 0 0 [.ref (ad B 72), .int (I pl)] X M Q NoX)
    (c6 : ∀ {B l X} {Q : Int → Mem → Prop}, l.stackTraces = false → Q v6 M → OkI B l md_X13_isSo 0 0 [.ref (ad B 72), .int (I a), .int (I (1 : Int))] X M Q NoX)
    (c7 : ∀ {B l X} {Q : Int → Mem → Prop}, l.stackTraces = false → Q v7 M → OkI B l md_X13_isSo 0 0 [.ref (ad B 72), .int (I a), .int (I (2 : Int))] X M Q NoX)
    (c8 : ∀ {B l X} {Q : Int → Mem → Prop}, l.stackTraces = false → Q v8 M → OkI B l md_X13_isSo 0 0 [.ref (ad B 72), .int (I a), .int (I (4 : Int))] X M Q NoX)
    (c9 : ∀ {B l X} {Q : Int → Mem → Prop}, l.stackTraces = false → Q v9 M → OkI B l md_X13_isClearedIn 0 0 [.ref (ad B 72), .int (I pl)] X M Q NoX)
    (c10 : ∀ {B l X} {Q : Int → Mem → Prop}, l.stackTraces = false → Q v10 M → OkI B l md_X13_entriesIn 0 0 [.ref (ad B 72), .int (I pl)] X M Q NoX)
    (nx : L_X13_digest_259 G X (kc + 1) (nc + 11) (mxL y [v0, v1, v2, v3, v4, v5, v6, v7, v8, v9, v10]) (a + 1) M) : L_X13_digest_259 G X kc nc y a M := by
  have fl := Ct_fl h
  have hf := hI.fr.fs
  have hw := hf.wd
  have h1 := hf.1
  have m421 : ∀ q f, ArF f [v0, v1, v2, v3, v4, v5, v6, v7, v8] → L_X13_digest_421 G X (kc + 1) (nc + 11) q f y a pl v9 9 M := fun q f A => go_X13_digest_421 h hb ⟨⟨by decide, by decide⟩, fun f1 e1 => c10 fl (fun _ f2 e2 => ms_arr446 h hb (arF_s (arF_s A rfl e1) rfl e2) rfl nx)⟩
  have m403 : ∀ q f, ArF f [v0, v1, v2, v3, v4, v5, v6, v7] → L_X13_digest_403 G X (kc + 1) (nc + 11) q f y a pl v8 8 M := fun q f A => go_X13_digest_403 h hb ⟨⟨by decide, by decide⟩, fun f1 e1 => c9 fl (fun z => ⟨z, sp01I (P := fun t => L_X13_digest_421 G X (kc + 1) (nc + 11) q f1 y a pl t 9 M) h9 (m421 q f1 (arF_s A rfl e1))⟩)⟩
  have m384 : ∀ q f, ArF f [v0, v1, v2, v3, v4, v5, v6] → L_X13_digest_384 G X (kc + 1) (nc + 11) q f y a pl v7 7 M := fun q f A => go_X13_digest_384 h hb ⟨⟨by decide, by decide⟩, fun f1 e1 => c8 fl (fun z => ⟨z, sp01I (P := fun t => L_X13_digest_403 G X (kc + 1) (nc + 11) q f1 y a pl t 8 M) h8 (m403 q f1 (arF_s A rfl e1))⟩)⟩
  have m365 : ∀ q f, ArF f [v0, v1, v2, v3, v4, v5] → L_X13_digest_365 G X (kc + 1) (nc + 11) q f y a pl v6 6 M := fun q f A => go_X13_digest_365 h hb ⟨⟨by decide, by decide⟩, fun f1 e1 => c7 fl (fun z => ⟨z, sp01I (P := fun t => L_X13_digest_384 G X (kc + 1) (nc + 11) q f1 y a pl t 7 M) h7 (m384 q f1 (arF_s A rfl e1))⟩)⟩
  refine go_X13_digest_259 h ⟨by omega, by omega⟩ (fun z0 => ⟨⟨by omega, by omega⟩, fun zw => ⟨⟨by omega, by omega⟩, zw, fun hge => absurd (show wd M ≤ a from hge) (by omega), fun _ => cP fl (fun _ => ⟨hb, fun q g e => ?_⟩)⟩⟩)
  exact c0 fl (fun _ f1 e1 => c1 fl (fun _ f2 e2 => c2 fl (fun _ f3 e3 => c3 fl (fun _ f4 e4 => c4 fl (fun _ f5 e5 => c5 fl (fun _ f6 e6 => c6 fl (fun z => ⟨z, sp01I (P := fun t => L_X13_digest_365 G X (kc + 1) (nc + 11) q f6 y a pl t 6 M) h6 (m365 q f6 (arF_s (arF_s (arF_s (arF_s (arF_s (arF_s arF_0 rfl e1) rfl e2) rfl e3) rfl e4) rfl e5) rfl e6))⟩)))))))
theorem ms_soP (hl : l.stackTraces = false) (hI : Inv i M) (hg : 0 ≤ a ∧ a < 8) (hp : (p : Int) < M 80 0) (en : M 89 (sx M a) = M 81 p) {x : Int} (hq : Q (if band (M 86 p) x = 0 then 0 else 1) M) : OkI B l md_X13_isSo 0 0 [.ref (ad B 72), .int (I a), .int (I x)] X M Q NoX := by
  have ho := hI.ob
  have hn := ho.1
  have un : ∀ q : Nat, (q : Int) < M 80 0 → M 19 p = M 19 q → q = p := fun q hq e => (ho.2.2.2.2.1 p q (by omega) (by omega) e).symm
  refine ms_isSo (i := i) (c := M 19 p) hl hI.fr.fs ho hg (Or.inr ⟨p, by omega, rfl, en⟩) (fun e => absurd e (by have := ho.2.2.2.1 p (by omega); omega)) (fun q hq9 e e0 => ?_) (fun q hq9 e e0 => ?_)
  · rw [un q hq9 e] at e0
    rwa [if_pos e0] at hq
  · rw [un q hq9 e] at e0
    rwa [if_neg e0] at hq
theorem ms_soN (hl : l.stackTraces = false) (hI : Inv i M) (hg : 0 ≤ a ∧ a < 8) (en : M 89 (sx M a) = -1) {x : Int} (hq : Q 0 M) : OkI B l md_X13_isSo 0 0 [.ref (ad B 72), .int (I a), .int (I x)] X M Q NoX := by
  have ho := hI.ob
  have hn := ho.1
  have no : ∀ {P : Prop} (q : Nat), (q : Int) < M 80 0 → (-1 : Int) = M 19 q → P := fun q hq e => absurd e (by have := ho.2.2.2.1 q (by omega); omega)
  exact ms_isSo (i := i) (c := -1) hl hI.fr.fs ho hg (Or.inl ⟨rfl, en⟩) (fun _ => hq) (fun q hq e _ => no q hq e) (fun q hq e _ => no q hq e)
theorem ms_frmP (hl : l.stackTraces = false) (hI : Inv i M) (hg : 0 ≤ a ∧ a < 8) (hp : (p : Int) < M 80 0) (en : M 89 (sx M a) = M 81 p) (hq : Q (M 82 p) M) : OkI B l md_X13_formIn 0 0 [.ref (ad B 72), .int (I a)] X M Q NoX := by
  have ho := hI.ob
  have hn := ho.1
  refine ms_formIn (i := i) (c := M 19 p) hl hI.fr.fs ho hg (Or.inr ⟨p, by omega, rfl, en⟩) (fun e => absurd e (by have := ho.2.2.2.1 p (by omega); omega)) (fun q hq' e => ?_)
  rw [(ho.2.2.2.2.1 p q (by omega) (by omega) e).symm]
  exact hq
theorem ms_frmN (hl : l.stackTraces = false) (hI : Inv i M) (hg : 0 ≤ a ∧ a < 8) (en : M 89 (sx M a) = -1) (hq : Q (-1) M) : OkI B l md_X13_formIn 0 0 [.ref (ad B 72), .int (I a)] X M Q NoX := by
  have ho := hI.ob
  have hn := ho.1
  exact ms_formIn (i := i) (c := -1) hl hI.fr.fs ho hg (Or.inl ⟨rfl, en⟩) (fun _ => hq) (fun q hq e => absurd e (by have := ho.2.2.2.1 q (by omega); omega))
theorem ms_slot (h : Ct G md_X13_digest X (oL QL E) B l k n) (hb : kc + 1 ≤ k ∧ nc + 11 ≤ n) (hI : Inv i M) (hg : 0 ≤ a ∧ a < wd M) (nx : L_X13_digest_259 G X (kc + 1) (nc + 11) (mxL y (sv M a.toNat)) (a + 1) M) : L_X13_digest_259 G X kc nc y a M := by
  have ho := hI.ob
  have hn := ho.1
  have hf := hI.fr.fs
  have hw := hf.wd
  have h8 : 0 ≤ a ∧ a < 8 := by omega
  have N1 := ob_num ho
  have esx : sx M (a.toNat : Int) = sx M a := by rw [show ((a.toNat : Nat) : Int) = a by omega]
  rcases fr_slot hI.fr hg with ⟨e1, e2⟩ | ⟨p, hp, ec, en⟩
  · rw [sv_n hI (by rw [esx]; exact e2)] at nx
    exact ms_slotV (pl := -1) h hb hI hg (Or.inl rfl) (Or.inl rfl) (Or.inl rfl) (Or.inl rfl) (fun f k => ms_placeN f hf N1 h8 e2 k) (fun f k => ms_inSlot f hf h8 (by rw [e2]; exact k)) (fun f k => ms_frmN f hI h8 e2 k) (fun f k => ms_kindInN f k) (fun f k => ms_lengthInN f k) (fun f k => ms_wordsInN f k) (fun f k => ms_ageInN f k) (fun f k => ms_soN f hI h8 e2 k) (fun f k => ms_soN f hI h8 e2 k) (fun f k => ms_soN f hI h8 e2 k) (fun f k => ms_isClearedInN f k) (fun f k => ms_entriesInN f k) nx
  · rw [sv_p hI hp (by rw [esx]; exact en.symm)] at nx
    have hp8 : p < 208 := by omega
    exact ms_slotV (pl := (p : Int)) h hb hI hg one_if one_if one_if one_fi (fun f k => ms_placeP f hf N1 h8 hp en.symm k) (fun f k => ms_inSlot f hf h8 (by rw [en]; exact k)) (fun f k => ms_frmP f hI h8 hp en k) (fun f k => ms_kindIn f p hp8 k) (fun f k => ms_lengthIn f p hp8 (kd_ok hI hp) k) (fun f k => ms_wordsIn f p hp8 (ob_what hI hp) k) (fun f k => ms_ageIn f p hp8 k) (fun f k => ms_soP f hI h8 hp en k) (fun f k => ms_soP f hI h8 hp en k) (fun f k => ms_soP f hI h8 hp en k) (fun f k => ms_isClearedIn f p hp8 (fun hh => (ob_ref hI hp hh).2) k) (fun f k => ms_entriesInP f (rep_ref (inv_rep hI)) hp k) nx
end MixM
