/-! ===== what is FINALIZED, by hand ===== -/
section FinD
variable {B : WB} {l : Launch} {S : Sh} {D M N : Mem} {c : SC} {i k : Nat}
def fnD (D : Mem) (c : SC) (t : Nat) : Mem := up (up (up D t 13 1) (s_la c) (D (s_m c) 11).toNat (t : Int)) (s_m c) 11 (D (s_m c) 11 + 1)
theorem c_ne (hI : Inv i N) {p q : Nat} (hp : (p : Int) < N 80 0) (hq : (q : Int) < N 80 0) (h : p ≠ q) : (N 19 p).toNat ≠ (N 19 q).toNat := by
  have h208 := hI.ob.1.2.2
  have hc := hI.ob.2.2.2.1
  have hi := hI.ob.2.2.2.2.1
  intro e
  refine h (hi p q (by omega) (by omega) ?_)
  have := hc p (by omega)
  have := hc q (by omega)
  omega
theorem sr_fin1 (hI : Inv i N) (off : N 72 10 = 0) (hR : SR N S D c) (hk : (k : Int) < N 80 0) (h82 : N 82 k = 0) (h15 : N 15 (N 19 k).toNat = 0) (h76 : N 76 (N 83 k).toNat = 1) : SR (fin1 N k) S (fnD D c (tg c D k)) c := by
  have hL := hR.l
  have ht := hR.o.2.2 k hk
  have hne1 : tg c D k ≠ s_la c := lk_ne ht.1 hL.2.2.2.2.2.2.1.2 (by decide)
  have hne2 : tg c D k ≠ s_m c := lk_ne ht.1 hL.1 (by decide)
  have hne3 : s_la c ≠ s_m c := lk_ne hL.2.2.2.2.2.2.1.2 hL.1 (by decide)
  have ag : ∀ kk : Nat → Nat → Bool, kk 1 13 = false → (∀ j, kk 5 j = false) → kk 0 11 = false → AgD S D (fnD D c (tg c D k)) kk := fun kk h1 h2 h3 => agd_up hL.1 h3 (agd_up hL.2.2.2.2.2.2.1.2 (h2 _) (agd_up ht.1 h1 agd_rf))
  have un : ∀ a j, a ≠ tg c D k → a ≠ s_la c → a ≠ s_m c → fnD D c (tg c D k) a j = D a j := fun a j n1 n2 n3 => by
    unfold fnD
    rw [up_ad n3, up_ad n2, up_ad n1]
  have et : ∀ q, tg c (fnD D c (tg c D k)) q = tg c D q := fun q => tg_k hL (ag kA2 rfl (fun _ => rfl) rfl) (fun _ => rfl) q
  have e0 : fin1 N k 80 0 = N 80 0 := fin1_k (by omega) (by omega) (by omega) (by omega) (by omega) (by omega)
  have e81 : ∀ p, fin1 N k 81 p = N 81 p := fun p => fin1_k (by omega) (by omega) (by omega) (by omega) (by omega) (by omega)
  have e19 : ∀ p, fin1 N k 19 p = N 19 p := fun p => fin1_k (by omega) (by omega) (by omega) (by omega) (by omega) (by omega)
  have h808 : N 80 8 + 1 ≤ 208 := by
    have := (inv_fin1 hI off hk h82 h15 h76).li.2.2.2.1
    rw [fin1_808] at this
    exact this
  have h80 := hI.li.2.2.1
  have e11 : D (s_m c) 11 = N 80 8 := hR.q.2.1
  have nqt : ∀ p, NqT (fin1 N k) N p := fun p => ⟨⟨fin1_k (by omega) (by omega) (by omega) (by omega) (by omega) (by omega), fin1_k (by omega) (by omega) (by omega) (by omega) (by omega) (by omega), fin1_k (by omega) (by omega) (by omega) (by omega) (by omega) (by omega)⟩, ⟨by rw [e19]; exact fin1_k (by omega) (by omega) (by omega) (by omega) (by omega) (by omega), by rw [e19]; exact fin1_k (by omega) (by omega) (by omega) (by omega) (by omega) (by omega)⟩, fun o k2 h1 h2 => fin1_k (by omega) (by omega) (by omega) (by omega) (by omega) (by omega), fun j _ => fin1_k (by omega) (by omega) (by omega) (by omega) (by omega) (by omega)⟩
  refine ⟨srl_k Xs.rf (ag kL rfl (fun _ => rfl) rfl) hL, ?_, ⟨?_, ?_⟩, ?_, ⟨?_, ?_, fun p hp => ?_⟩, ?_, ?_, ?_, ?_⟩
  · exact srf_n e0 e81 (fin1_k (by omega) (by omega) (by omega) (by omega) (by omega) (by omega)) (fun p => fin1_k (by omega) (by omega) (by omega) (by omega) (by omega) (by omega)) (fun p => fin1_k (by omega) (by omega) (by omega) (by omega) (by omega) (by omega)) (srf_k hL Xs.rf (ag kF rfl (fun _ => rfl) rfl) hR.f)
  · obtain ⟨⟨q1, q2⟩, -⟩ := hR.q
    have e7 : fin1 N k 80 7 = N 80 7 := fin1_k (by omega) (by omega) (by omega) (by omega) (by omega) (by omega)
    rw [e7]
    have a9 := ag (fun r j => (Nat.beq r 0 && Nat.beq j 9) || Nat.beq r 4) rfl (fun _ => rfl) rfl
    refine ⟨by rw [a9 _ _ _ _ hL.1 9 rfl]; exact q1, fun j hj => ?_⟩
    rw [a9 _ _ _ _ hL.2.2.2.2.2.1.2 j rfl, show fin1 N k 90 j = N 90 j from fin1_k (by omega) (by omega) (by omega) (by omega) (by omega) (by omega)]
    exact nr_n e0 e81 (nr_d et (q2 j hj))
  · obtain ⟨-, q1, q2⟩ := hR.q
    refine ⟨?_, fun j hj => ?_⟩
    · rw [fin1_808]
      unfold fnD
      rw [up_s, q1]
    · rw [fin1_808] at hj
      have ev : fnD D c (tg c D k) (s_la c) j = if j = (N 80 8).toNat then ((tg c D k : Nat) : Int) else D (s_la c) j := by
        unfold fnD
        rw [up_ad hne3, e11]
        show (if s_la c = s_la c ∧ j = (N 80 8).toNat then ((tg c D k : Nat) : Int) else up D (tg c D k) 13 1 (s_la c) j) = _
        by_cases h : j = (N 80 8).toNat
        · rw [if_pos ⟨rfl, h⟩, if_pos h]
        · rw [if_neg (fun z => h z.2), if_neg h, up_ad (Ne.symm hne1)]
      rw [ev, fin1_91]
      by_cases h : j = (N 80 8).toNat
      · rw [if_pos h, if_pos h]
        exact Or.inr ⟨k, by rw [e0]; exact hk, by rw [et]; exact Int.toNat_natCast _, (e81 k).symm⟩
      · rw [if_neg h, if_neg h]
        exact nr_n e0 e81 (nr_d et (q2 j (by omega)))
  · exact srk_n (fin1_k (by omega) (by omega) (by omega) (by omega) (by omega) (by omega)) (fun o k2 h1 h2 => fin1_k (by omega) (by omega) (by omega) (by omega) (by omega) (by omega)) (srk_k hL Xs.rf (ag kK rfl (fun _ => rfl) rfl) hR.k)
  · rw [e0, ← hR.o.1]
    unfold fnD
    rw [up_k (by decide), up_ad (Ne.symm hne3), up_ad (Ne.symm hne2)]
  · rw [show fin1 N k 80 2 = N 80 2 from fin1_k (by omega) (by omega) (by omega) (by omega) (by omega) (by omega), ← hR.o.2.1]
    unfold fnD
    rw [up_k (by decide), up_ad (Ne.symm hne3), up_ad (Ne.symm hne2)]
  · rw [e0] at hp
    have htp := hR.o.2.2 p hp
    rw [et]
    have b1 := htp.2.2.1
    have row : ∀ a r o n, lk S a = some (r, o, n) → r ≠ 0 → r ≠ 1 → r ≠ 5 → ∀ j, fnD D c (tg c D k) a j = D a j := fun a r o n ha n0 n1 n5 j => un a j (lk_ne ha ht.1 n1) (lk_ne ha hL.2.2.2.2.2.2.1.2 n5) (lk_ne ha hL.1 n0)
    by_cases hpk : p = k
    · subst hpk
      have own : ∀ j, j ≠ 13 → fnD D c (tg c D p) (tg c D p) j = D (tg c D p) j := fun j hj => by
        unfold fnD
        rw [up_ad hne2, up_ad hne1, up_k hj]
      have o13 : fnD D c (tg c D p) (tg c D p) 13 = 1 := by
        unfold fnD
        rw [up_ad hne2, up_ad hne1, up_s]
      refine srt_mk (srts_d et (fun j _ hv => own j (fun z => by subst z; cases hv)) (row _ _ _ _ b1.1 (by decide) (by decide) (by decide)) (row _ _ _ _ b1.2.1 (by decide) (by decide) (by decide)) (row _ _ _ _ b1.2.2.1 (by decide) (by decide) (by decide)) (row _ _ _ _ b1.2.2.2 (by decide) (by decide) (by decide)) (srts_n hI hp e0 e81 (nqt p) (srt_s htp))) ?_ ?_ ?_
      · rw [own 10 (by decide), srt_10 htp]
        exact (fin1_k (by omega) (by omega) (by omega) (by omega) (by omega) (by omega)).symm
      · rw [own 11 (by decide), srt_11 htp, e19]
        exact (fin1_k (by omega) (by omega) (by omega) (by omega) (by omega) (by omega)).symm
      · rw [o13, e19, fin1_15, if_pos rfl]
    · have htn : tg c D p ≠ tg c D k := fun z => hpk (tg_inj (obI_of hI.ob) hR.o hp hk z)
      have e15 : fin1 N k 15 (fin1 N k 19 p).toNat = N 15 (N 19 p).toNat := by rw [e19, fin1_15, if_neg (c_ne hI hp hk hpk)]
      exact srt_d et (fun j _ => un _ j htn (lk_ne htp.1 hL.2.2.2.2.2.2.1.2 (by decide)) (lk_ne htp.1 hL.1 (by decide))) (row _ _ _ _ b1.1 (by decide) (by decide) (by decide)) (row _ _ _ _ b1.2.1 (by decide) (by decide) (by decide)) (row _ _ _ _ b1.2.2.1 (by decide) (by decide) (by decide)) (row _ _ _ _ b1.2.2.2 (by decide) (by decide) (by decide)) (srt_n hI hp e0 e81 (nqt p) (fin1_k (by omega) (by omega) (by omega) (by omega) (by omega) (by omega)) (by rw [e19]; exact fin1_k (by omega) (by omega) (by omega) (by omega) (by omega) (by omega)) e15 htp)
  · exact srb_n e0 (srb_k hL hR.o (ag kB rfl (fun _ => rfl) rfl) hR.b)
  · exact sri_n (fin1_k (by omega) (by omega) (by omega) (by omega) (by omega) (by omega)) (fun p => fin1_k (by omega) (by omega) (by omega) (by omega) (by omega) (by omega)) (sri_k hL Xs.rf (ag kIm rfl (fun _ => rfl) rfl) hR.i)
  · exact src_n (fin1_k (by omega) (by omega) (by omega) (by omega) (by omega) (by omega)) (fin1_k (by omega) (by omega) (by omega) (by omega) (by omega) (by omega)) (fin1_k (by omega) (by omega) (by omega) (by omega) (by omega) (by omega)) (src_k hL (ag kC rfl (fun _ => rfl) rfl) hR.c)
  · have eoff : fin1 N k 72 10 = 0 := (fin1_k (by omega) (by omega) (by omega) (by omega) (by omega) (by omega)).trans off
    refine srm_off eoff ?_
    have := (hR.m).1
    rw [off] at this
    rw [← this]
    unfold fnD
    rw [up_k (by decide), up_ad (Ne.symm hne3), up_ad (Ne.symm hne2)]
end FinD
