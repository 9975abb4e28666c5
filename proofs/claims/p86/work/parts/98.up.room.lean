/-! ===== room, by hand ===== -/
section RoomD
variable {B : WB} {l : Launch} {S : Sh} {D M N : Mem} {c : SC} {i j : Nat} {x : Int}
theorem fit_iff (hI : Inv i N) : FitN N x ↔ RoomN N x := by
  have wt : wsR N true (N 80 0).toNat = N 6 19 := hI.ob.2.2.2.2.2.2.2.2.2.1.symm
  have wf : wsR N false (N 80 0).toNat = N 6 18 := hI.ob.2.2.2.2.2.2.2.2.1.1.symm
  unfold FitN RoomN
  rw [wt, wf]
  by_cases h : x ≤ 32
  · rw [if_pos h]
    exact ⟨fun z => z.2 h, fun z => ⟨fun y => by omega, fun _ => z⟩⟩
  · rw [if_neg h]
    exact ⟨fun z => z.1 (by omega), fun z => ⟨fun _ => z, fun y => absurd y h⟩⟩
theorem w_fitsR (hl : l.stackTraces = false) (hI : Inv i N) (hR : SR N S D c) (hx : 0 ≤ x ∧ x ≤ 1000000) {Q : Int → Prop} (q1 : RoomN N x → Q 1) (q0 : ¬ RoomN N x → Q 0) : OkU B l md_X12_fits [] 0 0 [rv (s_m c), .int (I x)] S D M (uN kZ S D M Q) :=
  w_fits hl hR.l hR.o (wd_ok hI) (old_01 hI) hx (fun h => q1 ((fit_iff hI).mp h)) (fun h => q0 (fun z => h ((fit_iff hI).mpr z)))
theorem w_room (hl : l.stackTraces = false) (hI : RmI j 4 N) (hj : j ≤ 1000) (hR : SR N S D c) (hx : 0 ≤ x ∧ x ≤ 1000000) {Q : Int → Mem → Prop} (hq : ∀ D1, SR (rmN N x) S D1 c → Kpt N D c (rmN N x) D1 → (RoomN (rmN N x) x → Q 1 D1) ∧ (¬ RoomN (rmN N x) x → Q 0 D1)) : OkU B l md_X12_room [] 0 0 [rv (s_m c), .int (I x)] S D M (uD kZ S M Q) := by
  have hxR : inR x := ⟨by omega, by omega⟩
  obtain ⟨r0, o0⟩ := rm0_inv (x := x) hI (by decide)
  obtain ⟨r1, o1⟩ := rs_inv (w := 1) r0 (by decide) o0 (by decide)
  obtain ⟨r2, o2⟩ := rs_inv (w := 2) r1 (by decide) o1 (by decide)
  obtain ⟨r3, o3⟩ := rs_inv (w := 3) r2 (by decide) o2 (by decide)
  refine ok_X12_room hl (fun G hG hS => go_X12_room_0 hG (smC hR.l) ?_ hS)
  have last : ∀ D1, SR (rmN N x) S D1 c → Kpt N D c (rmN N x) D1 → OkU (gB G) (gl G) md_X12_fits [] 0 0 [rv (s_m c), .int (I x)] S D1 M (uN kZ S D1 M (fun (r50 : Int) => (r50 = 0 ∨ r50 = 1) → ((r50 = 0 ∨ r50 = 1) ∧ Q r50 D1))) := fun D1 h hk => w_fitsR (CtU_fl hG) r3.1 h hx (fun hr => fun z => ⟨z, (hq D1 h hk).1 hr⟩) (fun hr => fun z => ⟨z, (hq D1 h hk).2 hr⟩)
  have s3 : ∀ D1, SR (rmN N x) S D1 c → Kpt N D c (rmN N x) D1 → L_X12_room_23 G S D1 M (s_m c) x 3 := fun D1 h hk => go_X12_room_23 hG (smC h.l) ⟨⟨by decide, by decide⟩, ⟨by decide, by decide⟩, fun _ => last D1 h hk, fun z => absurd z (by decide)⟩
  have stp : ∀ (x2 : Int) (V : Mem) (c9 : Int), 0 ≤ x2 → x2 ≤ 2 → RmI j c9 V → 1 ≤ c9 → RmO V x → (RoomN V x → rmN N x = V) → (∀ D1, SR (rsN V x (x2 + 1)) S D1 c → Kpt N D c (rsN V x (x2 + 1)) D1 → L_X12_room_23 G S D1 M (s_m c) x (x2 + 1)) → ∀ D1, SR V S D1 c → Kpt N D c V D1 → L_X12_room_23 G S D1 M (s_m c) x x2 := by
    intro x2 V c9 h0 h2 hV hc hO hE nx D1 h hk
    refine go_X12_room_23 hG (smC h.l) ⟨⟨by omega, by omega⟩, ⟨by decide, by decide⟩, fun z => absurd z (by omega), fun _ => w_fitsR (CtU_fl hG) hV.1 h hx (fun hr => fun z1 => ⟨inR_b z1, fun _ => last D1 (by rw [hE hr]; exact h) (by rw [hE hr]; exact hk), n10⟩) (fun hr => fun z1 => ⟨inR_b z1, n00, fun _ => ?_⟩)⟩
    have ew : howW (x2 + 1) = x2 := by
      unfold howW
      rw [if_neg (by omega)]
      omega
    have off := hO.resolve_left hr
    have h9 := w_collect (B := gB G) (M := M) (w := x2 + 1) (CtU_fl hG) hV.1 ⟨⟨by omega, by omega⟩, fun e => by omega, fun _ => off⟩ (by omega) h hj (by have := hV.2.1; omega) (by have := hV.2.2; omega) (Q := fun (r38 : Int) D2 => inR r38 → L_X12_room_23 G S D2 M (s_m c) x (x2 + 1)) (fun D2 hD2 hk2 => fun _ => nx D2 (by rw [rs_f hr]; exact hD2) (by rw [rs_f hr]; exact kpt_tr hk hk2))
    rw [ew] at h9
    exact h9
  have s2 := stp 2 _ _ (by decide) (by decide) r2 (by decide) o2 (fun hr => rs_t hr) s3
  have s1 := stp 1 _ _ (by decide) (by decide) r1 (by decide) o1 (fun hr => by
    unfold rmN
    rw [rs_t (w := 2) hr]
    exact rs_t hr) s2
  have s0 := stp 0 _ _ (by decide) (by decide) r0 (by decide) o0 (fun hr => by
    unfold rmN
    rw [rs_t (w := 1) hr, rs_t (w := 2) hr]
    exact rs_t hr) s1
  refine w_fitsR (CtU_fl hG) hI.1 hR hx (fun hr => fun z1 => ⟨inR_b z1, n10, fun _ => ⟨Or.inr rfl, ?_⟩⟩) (fun hr => fun z1 => ⟨inR_b z1, fun _ => fun z2 => ⟨z2, fun h16 => s0 D ?_ ?_, fun h16 => ?_⟩, n00⟩)
  · have e : rmN N x = N := by
      have ez : rmZ N x = N := cnd_t (Or.inl hr)
      unfold rmN
      rw [ez, rs_t (w := 1) hr, rs_t (w := 2) hr]
      exact rs_t hr
    exact (hq D (by rw [e]; exact hR) (by rw [e]; exact kpt_rf)).1 (by rw [e]; exact hr)
  · have ez : rmZ N x = N := cnd_t (Or.inr (by rw [← hR.m.1, h16]; decide))
    rw [ez]
    exact hR
  · have ez : rmZ N x = N := cnd_t (Or.inr (by rw [← hR.m.1, h16]; decide))
    rw [ez]
    exact kpt_rf
  · have hon : N 72 10 = 1 := (hI.1.mk.1.2).resolve_left (fun z => h16 (hR.m.1.trans z))
    refine w_end (CtU_fl hG) hI.1 hR hon hj (by have := hI.2.1; omega) (by have := hI.2.2; omega) (fun D1 h hk => s0 D1 ?_ ?_)
    · have ez : rmZ N x = colW N 0 := cnd_f (fun z => z.elim hr (fun y => y hon))
      rw [ez]
      exact h
    · have ez : rmZ N x = colW N 0 := cnd_f (fun z => z.elim hr (fun y => y hon))
      rw [ez]
      exact hk
end RoomD
