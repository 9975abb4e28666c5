section Circle2
variable {B : WB} {l : Launch} {X : va_W} {i : Nat} {M M' N : Mem} {qo : Nat} {Q : Int → Mem → Prop} {QV : Mem → Prop} {E : String → Mem → Prop} {x : Int}
theorem prL_fst : ∀ (L : List Nat), (prL L).map Prod.fst = L := by
  intro L
  induction L with
  | nil => rfl
  | cons a L ih =>
    show a :: (prL L).map Prod.fst = a :: L
    rw [ih]
theorem mem_ad1 {L : List (Nat × Int)} {d : Int} {r q : Nat} : q ∈ (ad1 L d r).map Prod.fst ↔ q ∈ L.map Prod.fst ∨ q = r := by
  unfold ad1
  split
  · rename_i h
    exact ⟨Or.inl, fun z => z.elim id (fun e => by rw [e]; exact h)⟩
  · rw [List.map_append, List.mem_append]
    constructor
    · rintro (z | z)
      · exact Or.inl z
      · exact Or.inr (List.mem_singleton.mp z)
    · rintro (z | z)
      · exact Or.inl z
      · exact Or.inr (List.mem_singleton.mpr z)
theorem mem_adA {d : Int} {q : Nat} : ∀ (a : List Nat) (L : List (Nat × Int)), q ∈ (adA d L a).map Prod.fst ↔ q ∈ L.map Prod.fst ∨ q ∈ a := by
  intro a
  induction a with
  | nil =>
    intro L
    exact ⟨Or.inl, fun z => z.elim id (fun h => absurd h (List.not_mem_nil))⟩
  | cons r a ih =>
    intro L
    show q ∈ (adA d (ad1 L d r) a).map Prod.fst ↔ _
    rw [ih, mem_ad1, List.mem_cons]
    constructor
    · rintro ((z | z) | z)
      · exact Or.inl z
      · exact Or.inr (Or.inl z)
      · exact Or.inr (Or.inr z)
    · rintro (z | z | z)
      · exact Or.inl (Or.inl z)
      · exact Or.inl (Or.inr z)
      · exact Or.inr z
theorem nd_adA {n d : Int} : ∀ (a : List Nat) (L : List (Nat × Int)), NdL n L → (∀ q, q ∈ a → (q : Int) < n) → (0 ≤ d ∧ d ≤ L.length) → NdL n (adA d L a) := by
  intro a
  induction a with
  | nil => intro L h _ _; exact h
  | cons r a ih =>
    intro L h ha hd
    have h1 := ad1_len (L := L) (d := d) (q := r)
    exact ih (ad1 L d r) (nd_ad1 h (ha r (List.mem_cons_self)) hd) (fun q hq => ha q (List.mem_cons_of_mem _ hq)) ⟨hd.1, by omega⟩
theorem mem_suc (R : RefO M 80) {p n q : Nat} : q ∈ sucL M 6 p n ↔ ∃ k : Nat, k < n ∧ Ed M 80 p k q := by
  unfold sucL
  rw [mem_col]
  constructor
  · rintro ⟨k, h1, h2⟩
    rw [fdL_6 R] at h2
    exact ⟨k, h1, (fd_some R.1).mp h2⟩
  · rintro ⟨k, h1, h2⟩
    exact ⟨k, h1, by rw [fdL_6 R]; exact (fd_some R.1).mpr h2⟩
theorem bfs_sound (R : RefO M 80) {T : Nat → Prop} (hT : ClL M T) : ∀ (f : Nat) (L : List (Nat × Int)) (t : Nat), (∀ q, q ∈ L.map Prod.fst → (q : Int) < M 80 0 ∧ T q) → ∀ q, q ∈ (bfs M 6 f L t).map Prod.fst → (q : Int) < M 80 0 ∧ T q := by
  intro f
  induction f with
  | zero => intro L t h; exact h
  | succ f ih =>
    intro L t h
    cases he : L[t]? with
    | none => rw [bfs_none he]; exact h
    | some e =>
      rw [bfs_some he]
      refine ih _ _ (fun q hq => ?_)
      rcases (mem_adA _ _).mp hq with z | z
      · exact h q z
      · obtain ⟨k, h1, h2⟩ := (mem_suc R).mp z
        have h3 := h e.1 (nd_mem.mpr ⟨t, e, he, rfl⟩)
        exact ⟨h2.1, hT e.1 k q h3.1 h3.2 (by omega) h2⟩
theorem bfs_all (R : RefO M 80) : ∀ (f t : Nat) (L : List (Nat × Int)), t + f = 209 → t ≤ L.length → NdL (M 80 0) L → (∀ (k : Nat) (e : Nat × Int), k < t → L[k]? = some e → ∀ q, q ∈ sucL M 6 e.1 (lnkR M 80 e.1).toNat → q ∈ L.map Prod.fst) → (∀ q, q ∈ L.map Prod.fst → q ∈ (bfs M 6 f L t).map Prod.fst) ∧ ∀ p q : Nat, p ∈ (bfs M 6 f L t).map Prod.fst → q ∈ sucL M 6 p (lnkR M 80 p).toNat → q ∈ (bfs M 6 f L t).map Prod.fst := by
  have hn := R.1.1
  intro f
  induction f with
  | zero =>
    intro t L ht hle hnd _
    have hL2 : NdL ((M 80 0).toNat : Int) L := by rw [show ((M 80 0).toNat : Int) = M 80 0 by omega]; exact hnd
    have := nd_len hL2
    omega
  | succ f ih =>
    intro t L ht hle hnd hdone
    by_cases hlt : t < L.length
    · have e1 : L[t]? = some L[t] := List.getElem?_eq_getElem hlt
      have hd := hnd.1 t _ e1
      have hsuc : ∀ q, q ∈ sucL M 6 L[t].1 (lnkR M 80 L[t].1).toNat → (q : Int) < M 80 0 := fun q hq => by
        obtain ⟨k, -, h2⟩ := (mem_suc R).mp hq
        exact h2.1
      have hnd2 := nd_adA (d := L[t].2 + 1) (sucL M 6 L[t].1 (lnkR M 80 L[t].1).toNat) L hnd hsuc ⟨by omega, by omega⟩
      have hlen := get_lt (adA_get (d := L[t].2 + 1) (sucL M 6 L[t].1 (lnkR M 80 L[t].1).toNat) L e1)
      have h3 := ih (t + 1) _ (by omega) (by omega) hnd2 (fun k e hk he q hq => ?_)
      · rw [bfs_some e1]
        exact ⟨fun q hq => h3.1 q ((mem_adA _ _).mpr (Or.inl hq)), h3.2⟩
      · by_cases hkt : k = t
        · subst hkt
          have he2 := adA_get (d := L[k].2 + 1) (sucL M 6 L[k].1 (lnkR M 80 L[k].1).toNat) L e1
          have hee : e = L[k] := Option.some.inj (he.symm.trans he2)
          rw [hee] at hq
          exact (mem_adA _ _).mpr (Or.inr hq)
        · have e3 : L[k]? = some (L[k]'(by omega)) := List.getElem?_eq_getElem (by omega)
          have he2 := adA_get (d := L[t].2 + 1) (sucL M 6 L[t].1 (lnkR M 80 L[t].1).toNat) L e3
          have hee : e = L[k]'(by omega) := Option.some.inj (he.symm.trans he2)
          rw [hee] at hq
          exact (mem_adA _ _).mpr (Or.inl (hdone k _ (by omega) e3 q hq))
    · have e1 : L[t]? = none := List.getElem?_eq_none (by omega)
      rw [bfs_none e1]
      refine ⟨fun q hq => hq, fun p q hp hq => ?_⟩
      obtain ⟨k, e, h1, h2⟩ := nd_mem.mp hp
      have := get_lt h1
      rw [← h2] at hq
      exact hdone k e (by omega) h1 q hq
/-- to whom the links of the object at p lead, each once -/
def lsU (M : Mem) (p : Nat) : Nat → List Nat
  | 0 => []
  | k + 1 => scO (-1) (lsU M p k) (fd M 80 (M 87 ((M 84 p).toNat + k)))
theorem mem_lsU (N : Num M 80) {p q : Nat} : ∀ n : Nat, q ∈ lsU M p n ↔ ∃ k : Nat, k < n ∧ Ed M 80 p k q := by
  intro n
  induction n with
  | zero => exact ⟨fun h => absurd h (List.not_mem_nil), fun ⟨k, h, _⟩ => absurd h (by omega)⟩
  | succ n ih =>
    have key : q ∈ lsU M p (n + 1) ↔ q ∈ lsU M p n ∨ fd M 80 (M 87 ((M 84 p).toNat + n)) = some q := by
      show q ∈ scO (-1) (lsU M p n) (fd M 80 (M 87 ((M 84 p).toNat + n))) ↔ _
      cases h : fd M 80 (M 87 ((M 84 p).toNat + n)) with
      | none => exact ⟨Or.inl, fun z => z.elim id (fun z => by cases z)⟩
      | some r =>
        show q ∈ sc1 (-1) (lsU M p n) r ↔ _
        rw [mem_sc1]
        constructor
        · rintro (z | ⟨z, -⟩)
          · exact Or.inl z
          · exact Or.inr (by rw [z])
        · rintro (z | z)
          · exact Or.inl z
          · exact Or.inr ⟨(Option.some.inj z).symm, by omega⟩
    rw [key, ih]
    constructor
    · rintro (⟨k, h1, h2⟩ | z)
      · exact ⟨k, by omega, h2⟩
      · exact ⟨n, by omega, (fd_some N).mp z⟩
    · rintro ⟨k, h1, h2⟩
      by_cases hk : k = n
      · subst hk
        exact Or.inr ((fd_some N).mpr h2)
      · exact Or.inl ⟨k, by omega, h2⟩
theorem nd_lsU (N : Num M 80) {p : Nat} : ∀ n : Nat, NdL (M 80 0) (prL (lsU M p n)) := by
  intro n
  induction n with
  | zero => exact ⟨fun k e h => absurd h (by show ([] : List (Nat × Int))[k]? ≠ some e; simp), fun j k e e' _ h => absurd h (by show ([] : List (Nat × Int))[j]? ≠ some e; simp)⟩
  | succ n ih =>
    show NdL (M 80 0) (prL (scO (-1) (lsU M p n) (fd M 80 (M 87 ((M 84 p).toNat + n)))))
    cases h : fd M 80 (M 87 ((M 84 p).toNat + n)) with
    | none => exact ih
    | some r =>
      have hr := (fd_some N).mp h
      show NdL (M 80 0) (prL (sc1 (-1) (lsU M p n) r))
      unfold sc1
      split
      · exact ih
      · rename_i hh
        have e : prL (lsU M p n ++ [r]) = ad1 (prL (lsU M p n)) 0 r := by
          unfold ad1
          rw [if_neg (by rw [prL_fst]; exact fun z => hh (Or.inl z))]
          unfold prL
          rw [List.map_append]
          rfl
        rw [e]
        exact nd_ad1 ih hr.1 ⟨Int.le_refl 0, by omega⟩
theorem bfs_ci (R : RefO M 80) {p : Nat} (hp : (p : Int) < M 80 0) : p ∈ (bfs M 6 209 (prL (lsU M p (lnkR M 80 p).toNat)) 0).map Prod.fst ↔ Ci M p p := by
  have hl := ref_lnk (R.2 p hp)
  constructor
  · intro h T hT hs
    refine (bfs_sound R hT 209 _ 0 (fun q hq => ?_) p h).2
    rw [prL_fst] at hq
    obtain ⟨k, h1, h2⟩ := (mem_lsU R.1 _).mp hq
    exact ⟨h2.1, hs k q (by omega) h2⟩
  · intro h
    have hb := bfs_all R 209 0 (prL (lsU M p (lnkR M 80 p).toNat)) (by omega) (Nat.zero_le _) (nd_lsU R.1 _) (fun k e hk => absurd hk (by omega))
    refine h (fun q => q ∈ (bfs M 6 209 (prL (lsU M p (lnkR M 80 p).toNat)) 0).map Prod.fst) (fun a k q ha hT hk he => ?_) (fun k q hk he => ?_)
    · exact hb.2 a q hT ((mem_suc R).mpr ⟨k, by omega, he⟩)
    · refine hb.1 q ?_
      rw [prL_fst]
      exact (mem_lsU R.1 _).mpr ⟨k, by omega, he⟩
theorem cs_leads (hl : l.stackTraces = false) (hI : Inv i M) {p : Nat} (hp : (p : Int) < M 80 0) (hq1 : ∀ M', Inv i M' → Agr rel M' M → M' 72 0 = M 72 0 → Ci M p p → Q 1 M') (hq0 : ∀ M', Inv i M' → Agr rel M' M → M' 72 0 = M 72 0 → ¬ Ci M p p → Q 0 M') : OkI B l md_X9_leadsBackTo 0 0 [.ref (ad B 58), .int (I (M 19 p))] X M Q NoX := by
  have h62 : isSc 62 := Or.inr (Or.inr (Or.inr (Or.inr (Or.inr (Or.inl rfl)))))
  have c62 := sc_cs h62
  have hS := (hI.sc.1 62 c62).1
  have hbar : M 62 3 = -1 := (hI.sc.1 62 c62).2.resolve_left (by decide)
  have R := inv_rep hI
  have RO := rep_ref R
  have hn := R.1
  have hk := ref_lnk (RO.2 p hp)
  have hs := ref_siz (RO.2 p hp)
  have hat := cel_le hI hp
  have hct := R.2.1 p (by omega)
  have e12 : M 12 (M 19 p).toNat = M 84 p := (at_in hI hp).2.2.2
  refine ok_X9_leadsBackTo hl (fun G hG => go_X9_leadsBackTo_0 hG (cs_makeEmpty c62 (Ct_fl hG) hS (fun M1 s1 f1 z1 n1 => ?_)))
  have b1 : M1 62 3 = -1 := f1.barred.trans hbar
  have loop : ∀ (r k : Nat) (M2 : Mem), (k : Int) + r = lnkR M 80 p → Gw 62 M2 M1 → Lst M 62 (lsU M p k) M2 → L_X9_leadsBackTo_9 G X (M 19 p) (k : Int) M2 := by
    intro r
    induction r with
    | zero =>
      intro k M2 hkr g2 l2
      have f2 : Fo 62 M2 M := g2.2.1.trans f1
      have r2 := fo_rel h62 f2
      have I2 := inv_fo h62 hI f2 g2.1
      have l2' : Lst M2 62 (lsU M2 p (lnkR M2 80 p).toNat) M2 := by
        have elk : lnkR M2 80 p = lnkR M 80 p := by
          show (if M2 82 p = 0 then M2 74 (M2 83 p).toNat else if M2 82 p = 1 then M2 83 p else 0) = (if M 82 p = 0 then M 74 (M 83 p).toNat else if M 82 p = 1 then M 83 p else 0)
          rw [r2 82 p rfl, r2 83 p rfl, r2 74 _ rfl]
        have els : ∀ n, lsU M2 p n = lsU M p n := by
          intro n
          induction n with
          | zero => rfl
          | succ n ihn =>
            show scO (-1) (lsU M2 p n) (fd M2 80 (M2 87 ((M2 84 p).toNat + n))) = scO (-1) (lsU M p n) (fd M 80 (M 87 ((M 84 p).toNat + n)))
            rw [ihn, r2 84 p rfl, r2 87 _ rfl, fd_congr (r2 80 0 rfl) (fun k => r2 81 k rfl)]
        rw [elk, els, show (lnkR M 80 p).toNat = k by omega]
        exact ⟨l2.1, fun j q hj => by rw [r2 19 q rfl]; exact l2.2.1 j q hj, fun q hq => by rw [r2 80 0 rfl]; exact l2.2.2 q hq⟩
      have hp2 : (p : Int) < M2 80 0 := by rw [r2 80 0 rfl]; exact hp
      have R2 := inv_rep I2
      refine go_X9_leadsBackTo_9 hG (cs_fieldsOfV (N := M) (Ct_fl hG) (agc_rel r2) R hp (fun z => ⟨⟨by omega, by omega⟩, z, fun _ => cs_walk h62 (by decide) (Ct_fl hG) I2 ⟨by decide, by decide⟩ l2' (fun M3 w3 => ?_), fun hlt => absurd hlt (by omega)⟩))
      have I3 := inv_fw h62 I2 w3.2.1 w3.1
      have r3 := agr_tr (fw_agr h62 w3.2.1) r2
      have hm := wk_mem R2 w3 hp2
      rw [bfs_ci (rep_ref R2) hp2, ci_rel r2, r2 19 p rfl] at hm
      have e72 : M3 72 0 = M 72 0 := (w3.2.1 72 0 (by omega) (by decide) (by decide) (by decide)).trans (f2 72 0 (by omega) (by decide) (by decide))
      exact cs_contains c62 (Ct_fl hG) ⟨by omega, by omega⟩ w3.1 (fun hs2 z5 => ⟨Or.inr rfl, hq1 M3 I3 r3 e72 (hm.mp hs2)⟩) (fun hs2 z5 => ⟨Or.inl rfl, hq0 M3 I3 r3 e72 (fun h => hs2 (hm.mpr h))⟩)
    | succ r ih =>
      intro k M2 hkr g2 l2
      have f2 : Fo 62 M2 M := g2.2.1.trans f1
      have r2 := fo_rel h62 f2
      have e12' : M2 12 (M 19 p).toNat = M 84 p := (r2 12 _ rfl).trans e12
      have e18 : ∀ j, M2 18 j = M 18 j := fun j => r2 18 j rfl
      refine go_X9_leadsBackTo_9 hG (cs_fieldsOfV (N := M) (Ct_fl hG) (agc_rel r2) R hp (fun z => ⟨⟨by omega, by omega⟩, z, fun hle => absurd hle (by omega), fun _ => ⟨hct, fun z2 => ?_⟩⟩))
      rw [e12', show (M 84 p + (k : Int)).toNat = (M 84 p).toNat + k by omega, e18]
      refine ⟨⟨by omega, by omega⟩, fun z3 => ?_⟩
      have hr : (M 18 ((M 84 p).toNat + k) = -1 ∧ fd M 80 (M 87 ((M 84 p).toNat + k)) = none) ∨ ∃ q : Nat, (q : Int) < M 80 0 ∧ M 18 ((M 84 p).toNat + k) = M 19 q ∧ fd M 80 (M 87 ((M 84 p).toNat + k)) = some q := by
        rcases rg_pl R hp (k := k) (by omega) with ⟨g1, g3⟩ | ⟨q, g0, g1, g3⟩
        · exact Or.inl ⟨g1, (fd_none RO.1).mpr (fun q hq' he => g3 q ⟨hq', he⟩)⟩
        · exact Or.inr ⟨q, g0, g1, (fd_some RO.1).mpr g3⟩
      have hst : ∀ M3, ((M 18 ((M 84 p).toNat + k) < 0 ∨ 208 ≤ M 18 ((M 84 p).toNat + k) ∨ Sm M2 62 (M 18 ((M 84 p).toNat + k)) ∨ M 18 ((M 84 p).toNat + k) = M2 62 3) ∧ M3 = M2) ∨ (0 ≤ M 18 ((M 84 p).toNat + k) ∧ M 18 ((M 84 p).toNat + k) < 208 ∧ ¬ Sm M2 62 (M 18 ((M 84 p).toNat + k)) ∧ M 18 ((M 84 p).toNat + k) ≠ M2 62 3 ∧ M3 = incM M2 62 (M 18 ((M 84 p).toNat + k))) → L_X9_leadsBackTo_9 G X (M 19 p) ((k + 1 : Nat) : Int) M3 := by
        intro M3 h2
        have h9 := ls_step (N := M) (M := M1) (o := 62) (b := -1) hI.ob (Or.inl ⟨b1, rfl⟩) g2 l2 hr h2
        exact ih (k + 1) M3 (by omega) h9.1 h9.2
      exact cs_include c62 (Ct_fl hG) z3 g2.1 (fun h => hst M2 (Or.inl ⟨h, rfl⟩)) (fun a1 a2 a3 a4 => hst _ (Or.inr ⟨a1, a2, a3, a4, rfl⟩))
  refine loop (lnkR M 80 p).toNat 0 M1 (by omega) ⟨s1, fun _ _ _ _ _ => rfl, Int.le_refl _, fun _ _ => rfl⟩ ⟨?_, fun k q hk => absurd hk (by show ([] : List Nat)[k]? ≠ some q; simp), fun q hq => absurd hq (List.not_mem_nil)⟩
  show ((([] : List Nat).length : Nat) : Int) = M1 62 2
  rw [z1]
  rfl
end Circle2
