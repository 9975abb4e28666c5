/-! ===== what a collection does to what is reached, to OLD ones, to the rows ===== -/
section Colm
variable {i j p q n k t x : Nat} {N B V : Mem} {S K P P' : Nat → Prop} {y : Prop} {w : Int}
theorem lo_keep (hI : Inv i N) (off : N 72 10 = 0) (hp : (p : Int) < N 80 0) {o t : Nat} (ho : o = 18 ∨ o = 87) (ht : (t : Int) < sizR N 80 p) (hl : 3 ≤ N 82 p ∧ N 82 p ≤ 5 → ∃ q, Ed N 80 p 0 q ∧ (if N 82 p = 5 then K q else S q)) (hd : N 82 p = 6 → ∀ e : Nat, (t = 2 * e ∨ t = 2 * e + 1) → ∃ q, Ed N 80 p (2 * e) q ∧ K q) : loN N S K o ((N 84 p).toNat + t) = N o ((N 84 p).toNat + t) := by
  have hF := inv_finN (S := S) hI off (N 80 0).toNat (by have := hI.ob.1; omega)
  have e : ∀ a b : Nat, a ≠ 15 → a ≠ 27 → a ≠ 28 → a ≠ 86 → a ≠ 91 → a ≠ 80 → finN N S (N 80 0).toNat a b = N a b := fun a b h1 h2 h3 h4 h5 h6 => finN_x h1 h2 h3 h4 h5 h6 _
  have e0 : finN N S (N 80 0).toNat 80 0 = N 80 0 := finN_k (by decide) (by decide) (by decide) (by decide) (by decide) (by decide) _
  have e82 : finN N S (N 80 0).toNat 82 p = N 82 p := e 82 p (by decide) (by decide) (by decide) (by decide) (by decide) (by decide)
  have e83 : finN N S (N 80 0).toNat 83 p = N 83 p := e 83 p (by decide) (by decide) (by decide) (by decide) (by decide) (by decide)
  have e84 : finN N S (N 80 0).toNat 84 p = N 84 p := e 84 p (by decide) (by decide) (by decide) (by decide) (by decide) (by decide)
  have eo : ∀ b, finN N S (N 80 0).toNat o b = N o b := fun b => e o b (by omega) (by omega) (by omega) (by omega) (by omega) (by omega)
  have es : sizR (finN N S (N 80 0).toNat) 80 p = sizR N 80 p := by
    show (if finN N S (N 80 0).toNat 82 p = 0 then finN N S (N 80 0).toNat 74 (finN N S (N 80 0).toNat 83 p).toNat + finN N S (N 80 0).toNat 75 (finN N S (N 80 0).toNat 83 p).toNat else if finN N S (N 80 0).toNat 82 p = 6 then 2 * finN N S (N 80 0).toNat 83 p else finN N S (N 80 0).toNat 83 p) = _
    rw [e82, e83, e 74 _ (by decide) (by decide) (by decide) (by decide) (by decide) (by decide), e 75 _ (by decide) (by decide) (by decide) (by decide) (by decide) (by decide)]
    rfl
  have hp' : (p : Int) < finN N S (N 80 0).toNat 80 0 := by rw [e0]; exact hp
  have ht' : (t : Int) < sizR (finN N S (N 80 0).toNat) 80 p := by rw [es]; exact ht
  unfold loN
  rw [drp_f _ (fun p' _ _ hD => ?_)]
  · have h := losN_on (S := S) (K := K) hF ho (n := (N 80 0).toNat) hp' ht' (fun p' _ hL e9 => by
      subst e9
      obtain ⟨-, -, h3, -, h5⟩ := hL
      rw [e82] at h3 h5
      obtain ⟨q, g1, g2⟩ := hl h3
      exact h5 q (ed_fin.mpr g1) g2)
    rw [e84, eo] at h
    exact h
  · rw [← e84] at hD
    have e9 := drp_own hF hp' ht' hD
    subst e9
    obtain ⟨-, h6, -, e, -, hj, hno⟩ := hD
    rw [e82] at h6
    obtain ⟨q, g1, g2⟩ := hd h6 e (by omega)
    exact hno q (ed_fin.mpr g1) g2
theorem col_cell (hI : Inv i N) (off : N 72 10 = 0) (hC : ClsK N S K) (hK : K p) {o t : Nat} (ho : o = 18 ∨ o = 87) (ht : (t : Int) < sizR N 80 p) : colN N S K y o ((colN N S K y 84 (kc K p)).toNat + t) = loN N S K o ((N 84 p).toNat + t) := by
  obtain ⟨c1, c2, c3, c4, c5, c6⟩ := hC
  have hL := inv_loN (S := S) (K := K) hI off
  have l : ∀ a b : Nat, a ≠ 15 → a ≠ 27 → a ≠ 28 → a ≠ 86 → a ≠ 91 → ¬ (a = 80 ∧ (b = 7 ∨ b = 8)) → a ≠ 18 → a ≠ 87 → a ≠ 25 → a ≠ 26 → a ≠ 90 → loN N S K a b = N a b := fun a b h1 h2 h3 h4 h5 h6 h7 h8 h9 h10 h11 => lo_k h1 (fun z => h2 z.1) h3 h4 h5 h6 h7 h8 (fun z => h9 z.1) h10 h11
  have l0 : loN N S K 80 0 = N 80 0 := l 80 0 (by decide) (by decide) (by decide) (by decide) (by decide) (by decide) (by decide) (by decide) (by decide) (by decide) (by decide)
  have l8 : ∀ a b, (a = 81 ∨ a = 82 ∨ a = 83 ∨ a = 84) → loN N S K a b = N a b := fun a b h => l a b (by omega) (by omega) (by omega) (by omega) (by omega) (by omega) (by omega) (by omega) (by omega) (by omega) (by omega)
  have l7 : ∀ a b, (a = 74 ∨ a = 75) → loN N S K a b = N a b := fun a b h => l a b (by omega) (by omega) (by omega) (by omega) (by omega) (by omega) (by omega) (by omega) (by omega) (by omega) (by omega)
  have hsz : sizR (loN N S K) 80 p = sizR N 80 p := by
    show (if loN N S K 82 p = 0 then loN N S K 74 (loN N S K 83 p).toNat + loN N S K 75 (loN N S K 83 p).toNat else if loN N S K 82 p = 6 then 2 * loN N S K 83 p else loN N S K 83 p) = _
    rw [l8 82 p (by omega), l8 83 p (by omega), l7 74 _ (by omega), l7 75 _ (by omega)]
    rfl
  have hp := c3 p hK
  have hp' : (p : Int) < loN N S K 80 0 := by rw [l0]; exact hp
  obtain ⟨a1, a2, a3, a4⟩ := cmp_pl (N := loN N S K) hK hp'
  have ck : ∀ a b : Nat, a = 18 ∨ a = 84 ∨ a = 87 → colN N S K y a b = cmpN (loN N S K) K a b := fun a b h => colN_k (by omega) (by omega) (by omega) (by omega) (by omega) (by omega) (by omega)
  rw [ck 84 _ (by omega), a4, ck o _ (by omega), cmp_cell hL hK hp' ho (by rw [hsz]; exact ht), l8 84 p (by omega)]
/- the rows -/
theorem los_keep (h0 : 0 ≤ N 80 7) : ∀ n : Nat, (k : Int) < N 80 7 → losN N S K n 90 k = N 90 k := by
  intro n
  induction n with
  | zero => intro _; rfl
  | succ n ih =>
    intro hk
    have hr := (los_row (S := S) (K := K) h0 n).1
    show cnd (Los N S K n) (los1 (losN N S K n) n) (losN N S K n) 90 k = N 90 k
    by_cases hL : Los N S K n
    · rw [cnd_t hL]
      rcases los1_90 (N := losN N S K n) (p := n) (k := k) with h | ⟨h, -⟩
      · rw [h]; exact ih hk
      · omega
    · rw [cnd_f hL]
      exact ih hk
theorem fin_keep : ∀ n : Nat, 0 ≤ N 80 8 → N 80 8 ≤ finN N S n 80 8 ∧ ((k : Int) < N 80 8 → finN N S n 91 k = N 91 k) ∧ ((∃ p, p < n ∧ Late N S p) → N 80 8 + 1 ≤ finN N S n 80 8) := by
  intro n
  induction n with
  | zero => intro _; exact ⟨Int.le_refl _, fun _ => rfl, fun ⟨p, h, _⟩ => by omega⟩
  | succ n ih =>
    intro h0
    obtain ⟨h1, h2, h3⟩ := ih h0
    show N 80 8 ≤ cnd (Late N S n) (fin1 (finN N S n) n) (finN N S n) 80 8 ∧ ((k : Int) < N 80 8 → cnd (Late N S n) (fin1 (finN N S n) n) (finN N S n) 91 k = N 91 k) ∧ ((∃ p, p < n + 1 ∧ Late N S p) → N 80 8 + 1 ≤ cnd (Late N S n) (fin1 (finN N S n) n) (finN N S n) 80 8)
    by_cases hL : Late N S n
    · rw [cnd_t hL, fin1_808]
      refine ⟨by omega, fun hk => ?_, fun _ => by omega⟩
      rw [fin1_91, if_neg (by omega)]
      exact h2 hk
    · rw [cnd_f hL]
      refine ⟨h1, h2, fun ⟨p, g1, g2⟩ => h3 ⟨p, ?_, g2⟩⟩
      have : p ≠ n := fun z => hL (z ▸ g2)
      omega
theorem col_rows (h7 : 0 ≤ N 80 7) (h8 : 0 ≤ N 80 8) : (∀ k : Nat, (k : Int) < N 80 7 → colN N S K y 90 k = N 90 k) ∧ (∀ k : Nat, (k : Int) < N 80 8 → colN N S K y 91 k = N 91 k) ∧ N 80 7 ≤ colN N S K y 80 7 ∧ N 80 8 ≤ colN N S K y 80 8 ∧ ((∃ p, Late N S p) → N 80 8 + 1 ≤ colN N S K y 80 8) := by
  have e7 : finN N S (N 80 0).toNat 80 7 = N 80 7 := finN_k (by decide) (by decide) (by decide) (by decide) (by decide) (by decide) _
  have ek : ∀ a b : Nat, a = 90 ∨ a = 91 ∨ (a = 80 ∧ (b = 7 ∨ b = 8)) → colN N S K y a b = losN (finN N S (N 80 0).toNat) S K (N 80 0).toNat a b := fun a b h => by
    rw [colN_k (by omega) (by omega) (by omega) (by omega) (by omega) (by omega) (by omega), cmp_o (by omega) (by omega) (by omega) (by omega) (by omega) (by omega)]
    unfold loN
    exact drp_x (by omega) (by omega) _
  have e8 : colN N S K y 80 8 = finN N S (N 80 0).toNat 80 8 := by rw [ek 80 8 (by omega)]; exact losN_k (by decide) (by decide) (by decide) (by decide) (by decide) (by decide) _
  have f := fun k => fin_keep (N := N) (S := S) (k := k) (N 80 0).toNat h8
  refine ⟨fun k hk => ?_, fun k hk => ?_, ?_, ?_, fun ⟨p, hp⟩ => ?_⟩
  · rw [ek 90 k (by omega), los_keep (by omega) _ (by omega)]
    exact finN_x (by decide) (by decide) (by decide) (by decide) (by decide) (by decide) _
  · rw [ek 91 k (by omega), losN_x (by decide) (by decide) (by decide) (by decide) (by decide) (by decide)]
    exact (f k).2.1 hk
  · rw [ek 80 7 (by omega)]
    have := (los_row (N := finN N S (N 80 0).toNat) (S := S) (K := K) (by omega) (N 80 0).toNat).1
    omega
  · rw [e8]; exact (f 0).1
  · rw [e8]; exact (f 0).2.2 ⟨p, by have := hp.1; omega, hp⟩
/- what was reached stays so -/
theorem rch_col (hI : Inv i N) (off : N 72 10 = 0) (hC : ClsK N S K) (hS : ∀ p, Rch N (-1) p → S p) (hr : Rch N (-1) p) : Rch (colN N S K y) (-1) (kc K p) := by
  have E := emb_colN (y := y) hI off hC
  have hcc : ∀ {a t : Nat}, K a → (t : Int) < sizR N 80 a → colN N S K y 87 ((colN N S K y 84 (kc K a)).toNat + t) = loN N S K 87 ((N 84 a).toNat + t) := fun hK ht => col_cell hI off hC hK (Or.inr rfl) ht
  have hK : ∀ q, Rch N (-1) q → K q := fun q h => hC.2.1 q (rch_in h) (hS q h)
  have R := inv_rep hI
  obtain ⟨r1, r2, r3, r4, -⟩ := col_rows (N := N) (S := S) (K := K) (y := y) hI.li.1.2.1 hI.li.2.2.1
  generalize hV : colN N S K y = V at E hcc r1 r2 r3 r4 ⊢
  have ed : ∀ {a t q : Nat}, Rch N (-1) a → Rch N (-1) q → (t : Int) < sizR N 80 a → loN N S K 87 ((N 84 a).toNat + t) = N 87 ((N 84 a).toNat + t) → Ed N 80 a t q → Ed V 80 (kc K a) t (kc K q) := by
    intro a t q ha hq ht hk he
    have e2 : N 81 q = N 87 ((N 84 a).toNat + t) := he.2
    show ((kc K q : Nat) : Int) < V 80 0 ∧ V 81 (kc K q) = V 87 ((V 84 (kc K a)).toNat + t)
    refine ⟨(E.2.1 q (hK q hq)).1, ?_⟩
    rw [hcc (hK a ha) ht, hk, (E.2.1 q (hK q hq)).2.2.1]
    exact e2
  refine (hr (fun a => Rch N (-1) a ∧ Rch V (-1) (kc K a)) ⟨fun a j q ha ht hj he hb => ?_, fun a j k' q ha ht h6 hj he hk he2 hb => ?_⟩ (fun q hq => ?_)).2
  · have hrq : Rch N (-1) q := cl_cls.1 a j q ha ht.1 hj he hb
    have hK9 := hK a ht.1
    have e0 : cntR N 80 0 a = if N 82 a = 4 ∧ (0 : Int) = 0 then 1 else lnkR N 80 a := rfl
    have e1 : cntR V 80 0 (kc K a) = if V 82 (kc K a) = 4 ∧ (0 : Int) = 0 then 1 else lnkR V 80 (kc K a) := rfl
    have e82 := (E.2.1 a hK9).2.2.2.1
    have el := (emb_siz E hK9).2.1
    have eln : lnkR N 80 a = if N 82 a = 0 then N 74 (N 83 a).toNat else if N 82 a = 1 then N 83 a else 0 := rfl
    have c1 := rep_cnt R (pr := 0) ha
    have c2 := rep_siz R ha
    refine ⟨hrq, cl_cls.1 (kc K a) j (kc K q) (E.2.1 a hK9).1 ht.2 ?_ (ed ht.1 hrq (by omega) ?_ he) (by omega)⟩
    · rw [e1, e82, el, ← e0]
      exact hj
    · refine lo_keep hI off ha (Or.inr rfl) (by omega) (fun hf => ?_) (fun h6 => ?_)
      · by_cases h4 : N 82 a = 4
        · rw [e0, if_pos ⟨h4, rfl⟩] at hj
          have : j = 0 := by omega
          rw [this] at he
          exact ⟨q, he, by rw [if_neg (by omega)]; exact hS q hrq⟩
        · rw [e0, if_neg (fun z => h4 z.1), eln, if_neg (by omega), if_neg (by omega)] at hj
          omega
      · have := cnt_tab (N := N) (h := 80) (pr := 0) h6
        omega
  · have hrq : Rch N (-1) q := cl_cls.2 a j k' q ha ht.1 h6 hj he hk.1 he2 hb
    have hK9 := hK a ht.1
    have hts := (rep_tab R ha h6).2.1
    have e82 := (E.2.1 a hK9).2.2.2.1
    have e83 := (E.2.1 a hK9).2.2.2.2.1
    have keep : ∀ t : Nat, t = 2 * j ∨ t = 2 * j + 1 → loN N S K 87 ((N 84 a).toNat + t) = N 87 ((N 84 a).toNat + t) := fun t htt =>
      lo_keep hI off ha (Or.inr rfl) (by omega) (fun hf => by have h6 : N 82 a = 6 := h6; omega) (fun _ e hee => ⟨k', by rw [show e = j by omega]; exact he, hK k' hk.1⟩)
    refine ⟨hrq, cl_cls.2 (kc K a) j (kc K k') (kc K q) (E.2.1 a hK9).1 ht.2 ?_ ?_ (ed ht.1 hk.1 (by omega) (keep _ (Or.inl rfl)) he) hk.2 (ed ht.1 hrq (by omega) (keep _ (Or.inr rfl)) he2) (by omega)⟩
    · rw [show 80 + 2 = 82 from rfl, e82]
      exact h6
    · rw [show 80 + 3 = 83 from rfl, e83]
      exact hj
  · have hrq : Rch N (-1) q := cl_sub hq
    have hK9 := hK q hrq
    have e81 := (E.2.1 q hK9).2.2.1
    refine ⟨hrq, cl_sub ⟨⟨(E.2.1 q hK9).1, ?_⟩, by omega⟩⟩
    rcases hq.1.2 with ⟨k, h1, h2⟩ | ⟨k, h1, h2⟩ | ⟨k, h1, h2⟩
    · refine Or.inl ⟨k, h1, ?_⟩
      show V 89 k = V 81 (kc K q)
      rw [(E.2.2.2.2.1 k).2.2, e81]
      exact h2
    · have h1 : (k : Int) < N 80 7 := h1
      refine Or.inr (Or.inl ⟨k, by show (k : Int) < V 80 7; omega, ?_⟩)
      show V 90 k = V 81 (kc K q)
      rw [r1 k h1, e81]
      exact h2
    · have h1 : (k : Int) < N 80 8 := h1
      refine Or.inr (Or.inr ⟨k, by show (k : Int) < V 80 8; omega, ?_⟩)
      show V 91 k = V 81 (kc K q)
      rw [r2 k h1, e81]
      exact h2
/- OLD ones -/
theorem kc_old : ∀ n : Nat, (∀ p, p < n → P p → K p ∧ P' (kc K p)) → sumF (fun p => ind (P p)) n ≤ sumF (fun x => ind (P' x)) (kc K n) := by
  intro n
  induction n with
  | zero => intro _; exact Int.le_refl _
  | succ n ih =>
    intro h
    have h1 := ih (fun p hp => h p (by omega))
    have e : sumF (fun p => ind (P p)) (n + 1) = sumF (fun p => ind (P p)) n + ind (P n) := rfl
    by_cases hK : K n
    · rw [kc_t hK]
      have e2 : sumF (fun x => ind (P' x)) (kc K n + 1) = sumF (fun x => ind (P' x)) (kc K n) + ind (P' (kc K n)) := rfl
      have h2 : ind (P n) ≤ ind (P' (kc K n)) := by
        by_cases hp : P n
        · rw [ind_pos hp, ind_pos (h n (by omega) hp).2]; exact Int.le_refl _
        · rw [ind_neg hp]; have := ind_01 (P := P' (kc K n)); omega
      omega
    · rw [kc_f hK]
      have h2 : ¬ P n := fun z => hK (h n (by omega) z).1
      rw [e, ind_neg h2]
      omega
theorem yng_old (hI : Inv i N) : ∀ n : Nat, (n : Int) ≤ N 80 0 → (n : Int) - yngS N n = sumF (fun p => ind (N 14 (N 19 p).toNat = 1)) n := by
  intro n
  induction n with
  | zero => intro _; rfl
  | succ n ih =>
    intro hn
    have h14 := (hI.ob.2.2.2.2.2.1 n (by omega)).2.2.2.2.2.2.2.2.2.2.2.2.2.2.1
    have h1 := ih (by omega)
    have e1 : yngS N (n + 1) = yngS N n + (if N 14 (N 19 n).toNat = 0 then 1 else 0) := rfl
    have e2 : sumF (fun p => ind (N 14 (N 19 p).toNat = 1)) (n + 1) = sumF (fun p => ind (N 14 (N 19 p).toNat = 1)) n + ind (N 14 (N 19 n).toNat = 1) := rfl
    rw [e1, e2]
    rcases h14 with h | h
    · rw [if_pos h, ind_neg (by omega)]
      omega
    · rw [if_neg (by omega), ind_pos h]
      omega
theorem gro_14 {c : Nat} (h : B 14 c = 1) : ∀ m : Nat, groN B m 14 c = 1 := by
  intro m
  induction m with
  | zero => exact h
  | succ m ih =>
    show gro1 (groN B m) m 14 c = 1
    unfold gro1
    split
    · split
      · rw [old1_14]
        split
        · rfl
        · rw [age1_k (by decide) (by decide)]
          exact ih
      · rw [age1_k (by decide) (by decide)]
        exact ih
    · exact ih
theorem ris_sp : ∀ m : Nat, (∀ x, x < m → 0 ≤ B 11 (B 19 x).toNat) → B 6 19 ≤ risN B m 6 19 ∧ ∀ x, x < m → risN B m 14 (B 19 x).toNat = 0 → 320 < risN B m 6 19 + B 11 (B 19 x).toNat := by
  intro m
  induction m with
  | zero => intro _; exact ⟨Int.le_refl _, fun x h => by omega⟩
  | succ m ih =>
    intro h
    obtain ⟨h1, h2⟩ := ih (fun x hx => h x (by omega))
    have hm := h m (by omega)
    have e19 : risN B m 19 m = B 19 m := risN_k (by omega) (by omega) (by omega) m
    have e11 : ∀ c, risN B m 11 c = B 11 c := fun c => risN_k (by omega) (by omega) (by omega) m
    show B 6 19 ≤ ris1 (risN B m) m 6 19 ∧ ∀ x, x < m + 1 → ris1 (risN B m) m 14 (B 19 x).toNat = 0 → 320 < ris1 (risN B m) m 6 19 + B 11 (B 19 x).toNat
    unfold ris1
    by_cases hc : risN B m 14 (risN B m 19 m).toNat = 0 ∧ risN B m 6 19 + risN B m 11 (risN B m 19 m).toNat ≤ 320
    · rw [if_pos hc, old1_19, e19, e11]
      refine ⟨by omega, fun x hx hz => ?_⟩
      rw [old1_14, e19] at hz
      by_cases hxm : (B 19 x).toNat = (B 19 m).toNat
      · rw [if_pos hxm] at hz
        omega
      · rw [if_neg hxm] at hz
        have hxx : x ≠ m := fun z => hxm (by rw [z])
        have := h2 x (by omega) hz
        omega
    · rw [if_neg hc]
      refine ⟨h1, fun x hx hz => ?_⟩
      by_cases hxm : x = m
      · subst hxm
        rw [e19, e11] at hc
        omega
      · exact h2 x (by omega) hz
theorem col_kept (hI : Inv i N) (hC : ClsK N S K) (hK : K p) : colN N S K y 19 (kc K p) = N 19 p := by
  have hp := hC.2.2.1 p hK
  have l0 : loN N S K 80 0 = N 80 0 := lo_k (by decide) (by decide) (by decide) (by decide) (by decide) (by decide) (by decide) (by decide) (by decide) (by decide) (by decide)
  obtain ⟨a1, a2, a3, a4⟩ := cmp_pl (N := loN N S K) hK (by rw [l0]; exact hp)
  rw [colN_k (by omega) (by omega) (by omega) (by omega) (by omega) (by omega) (by omega), a2, lo_k (by omega) (by omega) (by omega) (by omega) (by omega) (by omega) (by omega) (by omega) (by omega) (by omega) (by omega)]
theorem cmp_14 (c : Nat) : cmpN (loN N S K) K 14 c = N 14 c := cmpL_k (by omega) (by omega) (by omega) (by omega) (by omega) (by omega) (by omega) (by omega) (by omega) (by omega) (by omega) (by omega) (by omega) (by omega)
theorem col_old (hI : Inv i N) (hC : ClsK N S K) (hy : y) (hO : ∀ p : Nat, (p : Int) < N 80 0 → N 14 (N 19 p).toNat = 1 → K p) (hV : Inv j (colN N S K y)) : N 80 0 - yngS N (N 80 0).toNat ≤ colN N S K y 80 0 - yngS (colN N S K y) (colN N S K y 80 0).toNat := by
  have hn := hI.ob.1
  have hn2 := hV.ob.1
  have e0 : colN N S K y 80 0 = (kc K (N 80 0).toNat : Int) := by rw [colN_k (by decide) (by decide) (by decide) (by decide) (by decide) (by decide) (by decide)]; exact cmp_80n
  have h1 := yng_old hI (N 80 0).toNat (by omega)
  have h2 := yng_old hV (colN N S K y 80 0).toNat (by omega)
  have h3 := kc_old (K := K) (P := fun p => N 14 (N 19 p).toNat = 1) (P' := fun x => colN N S K y 14 (colN N S K y 19 x).toNat = 1) (N 80 0).toNat (fun p hp ho => ?_)
  · have e9 : (colN N S K y 80 0).toNat = kc K (N 80 0).toNat := by rw [e0]; omega
    rw [e9] at h2 ⊢
    omega
  · have hK := hO p (by omega) ho
    refine ⟨hK, ?_⟩
    show colN N S K y 14 (colN N S K y 19 (kc K p)).toNat = 1
    rw [col_kept hI hC hK]
    unfold colN
    rw [cnd_t hy]
    unfold cntY
    rw [up_o (by decide), up_o (by decide)]
    exact gro_14 (by rw [cmp_14]; exact ho) _
theorem col_young (hI : Inv i N) (off : N 72 10 = 0) (hC : ClsK N S K) (hy : ¬ y) (hV : Inv j (colN N S K y)) (h : 0 < yngS (colN N S K y) (colN N S K y 80 0).toNat) : 288 < colN N S K y 6 19 := by
  have hB := inv_cmpL (S := S) (K := K) hI off hC
  have hn2 := hV.ob.1
  have e0 : colN N S K y 80 0 = (kc K (N 80 0).toNat : Int) := by rw [colN_k (by decide) (by decide) (by decide) (by decide) (by decide) (by decide) (by decide)]; exact cmp_80n
  have eB : cmpN (loN N S K) K 80 0 = (kc K (N 80 0).toNat : Int) := cmp_80n
  have hex : ∃ x : Nat, x < (colN N S K y 80 0).toNat ∧ colN N S K y 14 (colN N S K y 19 x).toNat = 0 := by
    refine Classical.byContradiction (fun hno => ?_)
    have : yngS (colN N S K y) (colN N S K y 80 0).toNat = sumF (fun _ => (0 : Int)) (colN N S K y 80 0).toNat := sum_congr _ (fun k hk => by
      show (if colN N S K y 14 (colN N S K y 19 k).toNat = 0 then (1 : Int) else 0) = 0
      exact if_neg (fun z => hno ⟨k, hk, z⟩))
    rw [sum_0] at this
    omega
  obtain ⟨x, hx, h14⟩ := hex
  have hw := wrd_32 hV (p := x) (by omega) h14
  have h11 := (hV.ob.2.2.2.2.2.1 x (by omega)).2.2.2.2.2.2.2.2.2.1
  have hs := ris_sp (B := cmpN (loN N S K) K) (kc K (N 80 0).toNat) (fun z hz => by
    have h9 := (hB.ob.2.2.2.2.2.1 z (by omega)).2.2.2.2.2.2.2.2.2.1
    have h8 := wrd_2 hB (p := z) (by omega)
    omega)
  have ec : ∀ a b : Nat, a ≠ 39 → a ≠ 80 → colN N S K y a b = risN (cmpN (loN N S K) K) (kc K (N 80 0).toNat) a b := fun a b h1 h2 => by
    unfold colN
    rw [cnd_f hy]
    unfold cntF
    rw [up_o h2, up_o h1]
  have e19 : ∀ b, colN N S K y 19 b = cmpN (loN N S K) K 19 b := fun b => colN_k (by omega) (by omega) (by omega) (by omega) (by omega) (by omega) (by omega)
  have e11 : ∀ b, colN N S K y 11 b = cmpN (loN N S K) K 11 b := fun b => colN_k (by omega) (by omega) (by omega) (by omega) (by omega) (by omega) (by omega)
  rw [ec 14 _ (by decide) (by decide), e19] at h14
  rw [e11, e19] at h11
  rw [ec 6 19 (by decide) (by decide)]
  have h9 := hs.2 x (by omega) h14
  rw [h11] at h9
  omega
theorem col_num (hI : Inv i N) (off : N 72 10 = 0) (hC : ClsK N S K) {v : Int} : PrN (colN N S K y) v → PrN N v := by
  rintro ⟨x, h1, h2⟩
  have E := emb_colN (y := y) hI off hC
  obtain ⟨p, h3, h4⟩ := E.2.2.1 x h1
  subst h4
  exact ⟨p, E.1 p h3, (E.2.1 p h3).2.2.1.symm.trans h2⟩
theorem col_cnt : (y → colN N S K y 80 3 = N 80 3 + 1 ∧ colN N S K y 80 4 = N 80 4) ∧ (¬ y → colN N S K y 80 3 = N 80 3 ∧ colN N S K y 80 4 = N 80 4 + 1) ∧ colN N S K y 80 2 = N 80 2 ∧ colN N S K y 80 0 = (kc K (N 80 0).toNat : Int) := by
  have e3 : cmpN (loN N S K) K 80 3 = N 80 3 := cmpL_k (by decide) (by decide) (by decide) (by decide) (by decide) (by decide) (by decide) (by decide) (by decide) (by decide) (by decide) (by decide) (by decide) (by decide)
  have e4 : cmpN (loN N S K) K 80 4 = N 80 4 := cmpL_k (by decide) (by decide) (by decide) (by decide) (by decide) (by decide) (by decide) (by decide) (by decide) (by decide) (by decide) (by decide) (by decide) (by decide)
  refine ⟨fun hy => ?_, fun hy => ?_, ?_, ?_⟩
  · unfold colN
    rw [cnd_t hy]
    have a3 : ∀ G : Mem, cntY G 80 3 = G 80 3 + 1 := fun G => up_s _ _ _ _
    have a4 : ∀ G : Mem, cntY G 80 4 = G 80 4 := fun G => by unfold cntY; rw [up_k (by decide), up_o (by decide)]
    rw [a3, a4, groN_k (by decide) (by decide) (by decide) (by decide) (by decide), groN_k (by decide) (by decide) (by decide) (by decide) (by decide), e3, e4]
    exact ⟨rfl, rfl⟩
  · unfold colN
    rw [cnd_f hy]
    have a3 : ∀ G : Mem, cntF G 80 4 = G 80 4 + 1 := fun G => up_s _ _ _ _
    have a4 : ∀ G : Mem, cntF G 80 3 = G 80 3 := fun G => by unfold cntF; rw [up_k (by decide), up_o (by decide)]
    rw [a3, a4, risN_k (by decide) (by decide) (by decide), risN_k (by decide) (by decide) (by decide), e3, e4]
    exact ⟨rfl, rfl⟩
  · rw [colN_k (by decide) (by decide) (by decide) (by decide) (by decide) (by decide) (by decide)]
    exact cmpL_k (by decide) (by decide) (by decide) (by decide) (by decide) (by decide) (by decide) (by decide) (by decide) (by decide) (by decide) (by decide) (by decide) (by decide)
  · rw [colN_k (by decide) (by decide) (by decide) (by decide) (by decide) (by decide) (by decide)]
    exact cmp_80n
/-- nothing was FINALIZED: all that are left are reached -/
theorem col_allR (hI : Inv i N) (off : N 72 10 = 0) (hC : ClsK N S K) (hS : ∀ p, S p ↔ Rch N (-1) p) (hKs : ∀ p, K p → S p) : ∀ x : Nat, (x : Int) < colN N S K y 80 0 → Rch (colN N S K y) (-1) x := by
  intro x hx
  have E := emb_colN (y := y) hI off hC
  obtain ⟨p, h3, h4⟩ := E.2.2.1 x hx
  subst h4
  exact rch_col hI off hC (fun p h => (hS p).mpr h) ((hS p).mp (hKs p h3))
end Colm
