/-! ===== a new memory of the law's own ===== -/
/-- the memory at the start -/
def StN (N : Mem) : Prop := (N 80 0 = 0 ∧ N 80 2 = 0 ∧ N 80 6 = 1 ∧ N 88 0 = 8 ∧ N 80 7 = 0 ∧ N 80 8 = 0) ∧ (N 72 1 = 0 ∧ N 72 9 = 0 ∧ N 72 10 = 0 ∧ N 97 0 = 0) ∧ (N 80 5 = 2 ∧ N 80 3 = 0 ∧ N 80 4 = 0) ∧ ∀ k : Nat, k < 72 → N 89 k = -1
theorem ne_lk {S : Sh} {a q : Nat} {x : Nat × Nat × Nat} (h : lk S a = some x) (h2 : lk S q = none) : a ≠ q := fun z => by rw [z, h2] at h; cases h
section NewSim
variable {B : WB} {l : Launch} {S : Sh} {D M N : Mem} {o : Nat}
theorem w_sim (hl : l.stackTraces = false) (ho : lk S o = some (0, 0, 21)) (hz : ∀ j, D o j = 0) (hN : StN N) {Q : Unit → Sh → Mem → Prop} (hq : ∀ S1 D1 c, s_m c = o → IsC S1 o 12 → (∀ s0, SR N S1 (up D1 o 20 s0) c) → Q () S1 D1) : OkU B l md_X12_init [] 8 804 [rv o] S D M (uS kV M Q) := by
  obtain ⟨⟨a1, a2, a3, a4, a5, a6⟩, ⟨b1, b2, b3, b4⟩, ⟨c1, c2, c3⟩, a89⟩ := hN
  refine ok_X12_init hl (fun G h hin hS => go_X12_init_0 h Xs.rf ⟨0, 0, 21, ho, rfl⟩ hin ?_ hS)
  refine ⟨by decide, fun q1 S1 D1 z1 qn1 eS1 e1 D2 e2 => ⟨by decide, fun q2 S2 D3 z2 qn2 eS2 e3 D4 e4 => ⟨by decide, fun q3 S3 D5 z3 qn3 eS3 e5 D6 e6 => ⟨by decide, fun q4 S4 D7 z4 qn4 eS4 e7 D8 e8 => ⟨by decide, fun q5 S5 D9 z5 qn5 eS5 e9 D10 e10 => ⟨by decide, fun q6 S6 D11 z6 qn6 eS6 e11 D12 e12 => ⟨⟨by decide, by decide⟩, fun D13 e13 => ⟨by decide, fun q7 S7 D14 z7 qn7 eS7 e14 D15 e15 u hu => ⟨by decide, fun q8 S8 D16 z8 qn8 eS8 e16 => ?_⟩⟩⟩⟩⟩⟩⟩⟩⟩
  have l_0_0 := ho
  have l_0_1 : lk S1 o = some (0, 0, 21) := by rw [eS1]; exact lk_app l_0_0
  have l_0_2 : lk S2 o = some (0, 0, 21) := by rw [eS2]; exact lk_app l_0_1
  have l_0_3 : lk S3 o = some (0, 0, 21) := by rw [eS3]; exact lk_app l_0_2
  have l_0_4 : lk S4 o = some (0, 0, 21) := by rw [eS4]; exact lk_app l_0_3
  have l_0_5 : lk S5 o = some (0, 0, 21) := by rw [eS5]; exact lk_app l_0_4
  have l_0_6 : lk S6 o = some (0, 0, 21) := by rw [eS6]; exact lk_app l_0_5
  have l_0_7 : lk S7 o = some (0, 0, 21) := by rw [eS7]; exact lk_app l_0_6
  have l_0_8 : lk S8 o = some (0, 0, 21) := by rw [eS8]; exact lk_app l_0_7
  have l_1_1 : lk S1 q1 = some (2, 0, (256 : Int).toNat) := by rw [eS1]; exact lk_new qn1
  have l_1_2 : lk S2 q1 = some (2, 0, (256 : Int).toNat) := by rw [eS2]; exact lk_app l_1_1
  have l_1_3 : lk S3 q1 = some (2, 0, (256 : Int).toNat) := by rw [eS3]; exact lk_app l_1_2
  have l_1_4 : lk S4 q1 = some (2, 0, (256 : Int).toNat) := by rw [eS4]; exact lk_app l_1_3
  have l_1_5 : lk S5 q1 = some (2, 0, (256 : Int).toNat) := by rw [eS5]; exact lk_app l_1_4
  have l_1_6 : lk S6 q1 = some (2, 0, (256 : Int).toNat) := by rw [eS6]; exact lk_app l_1_5
  have l_1_7 : lk S7 q1 = some (2, 0, (256 : Int).toNat) := by rw [eS7]; exact lk_app l_1_6
  have l_1_8 : lk S8 q1 = some (2, 0, (256 : Int).toNat) := by rw [eS8]; exact lk_app l_1_7
  have l_2_2 : lk S2 q2 = some (13, 0, (12 : Int).toNat) := by rw [eS2]; exact lk_new qn2
  have l_2_3 : lk S3 q2 = some (13, 0, (12 : Int).toNat) := by rw [eS3]; exact lk_app l_2_2
  have l_2_4 : lk S4 q2 = some (13, 0, (12 : Int).toNat) := by rw [eS4]; exact lk_app l_2_3
  have l_2_5 : lk S5 q2 = some (13, 0, (12 : Int).toNat) := by rw [eS5]; exact lk_app l_2_4
  have l_2_6 : lk S6 q2 = some (13, 0, (12 : Int).toNat) := by rw [eS6]; exact lk_app l_2_5
  have l_2_7 : lk S7 q2 = some (13, 0, (12 : Int).toNat) := by rw [eS7]; exact lk_app l_2_6
  have l_2_8 : lk S8 q2 = some (13, 0, (12 : Int).toNat) := by rw [eS8]; exact lk_app l_2_7
  have l_3_3 : lk S3 q3 = some (12, 0, (8 : Int).toNat) := by rw [eS3]; exact lk_new qn3
  have l_3_4 : lk S4 q3 = some (12, 0, (8 : Int).toNat) := by rw [eS4]; exact lk_app l_3_3
  have l_3_5 : lk S5 q3 = some (12, 0, (8 : Int).toNat) := by rw [eS5]; exact lk_app l_3_4
  have l_3_6 : lk S6 q3 = some (12, 0, (8 : Int).toNat) := by rw [eS6]; exact lk_app l_3_5
  have l_3_7 : lk S7 q3 = some (12, 0, (8 : Int).toNat) := by rw [eS7]; exact lk_app l_3_6
  have l_3_8 : lk S8 q3 = some (12, 0, (8 : Int).toNat) := by rw [eS8]; exact lk_app l_3_7
  have l_4_4 : lk S4 q4 = some (3, 0, (8 : Int).toNat) := by rw [eS4]; exact lk_new qn4
  have l_4_5 : lk S5 q4 = some (3, 0, (8 : Int).toNat) := by rw [eS5]; exact lk_app l_4_4
  have l_4_6 : lk S6 q4 = some (3, 0, (8 : Int).toNat) := by rw [eS6]; exact lk_app l_4_5
  have l_4_7 : lk S7 q4 = some (3, 0, (8 : Int).toNat) := by rw [eS7]; exact lk_app l_4_6
  have l_4_8 : lk S8 q4 = some (3, 0, (8 : Int).toNat) := by rw [eS8]; exact lk_app l_4_7
  have l_5_5 : lk S5 q5 = some (4, 0, (256 : Int).toNat) := by rw [eS5]; exact lk_new qn5
  have l_5_6 : lk S6 q5 = some (4, 0, (256 : Int).toNat) := by rw [eS6]; exact lk_app l_5_5
  have l_5_7 : lk S7 q5 = some (4, 0, (256 : Int).toNat) := by rw [eS7]; exact lk_app l_5_6
  have l_5_8 : lk S8 q5 = some (4, 0, (256 : Int).toNat) := by rw [eS8]; exact lk_app l_5_7
  have l_6_6 : lk S6 q6 = some (5, 0, (256 : Int).toNat) := by rw [eS6]; exact lk_new qn6
  have l_6_7 : lk S7 q6 = some (5, 0, (256 : Int).toNat) := by rw [eS7]; exact lk_app l_6_6
  have l_6_8 : lk S8 q6 = some (5, 0, (256 : Int).toNat) := by rw [eS8]; exact lk_app l_6_7
  have l_7_7 : lk S7 q7 = some (16, 0, (0 : Int).toNat) := by rw [eS7]; exact lk_new qn7
  have l_7_8 : lk S8 q7 = some (16, 0, (0 : Int).toNat) := by rw [eS8]; exact lk_app l_7_7
  have l_8_8 : lk S8 q8 = some (6, 0, (8 : Int).toNat) := by rw [eS8]; exact lk_new qn8
  have n_0_1 := ne_lk l_0_0 qn1
  have n_0_2 := ne_lk l_0_1 qn2
  have n_0_3 := ne_lk l_0_2 qn3
  have n_0_4 := ne_lk l_0_3 qn4
  have n_0_5 := ne_lk l_0_4 qn5
  have n_0_6 := ne_lk l_0_5 qn6
  have n_0_7 := ne_lk l_0_6 qn7
  have n_0_8 := ne_lk l_0_7 qn8
  have n_1_2 := ne_lk l_1_1 qn2
  have n_1_3 := ne_lk l_1_2 qn3
  have n_1_4 := ne_lk l_1_3 qn4
  have n_1_5 := ne_lk l_1_4 qn5
  have n_1_6 := ne_lk l_1_5 qn6
  have n_1_7 := ne_lk l_1_6 qn7
  have n_1_8 := ne_lk l_1_7 qn8
  have n_2_3 := ne_lk l_2_2 qn3
  have n_2_4 := ne_lk l_2_3 qn4
  have n_2_5 := ne_lk l_2_4 qn5
  have n_2_6 := ne_lk l_2_5 qn6
  have n_2_7 := ne_lk l_2_6 qn7
  have n_2_8 := ne_lk l_2_7 qn8
  have n_3_4 := ne_lk l_3_3 qn4
  have n_3_5 := ne_lk l_3_4 qn5
  have n_3_6 := ne_lk l_3_5 qn6
  have n_3_7 := ne_lk l_3_6 qn7
  have n_3_8 := ne_lk l_3_7 qn8
  have n_4_5 := ne_lk l_4_4 qn5
  have n_4_6 := ne_lk l_4_5 qn6
  have n_4_7 := ne_lk l_4_6 qn7
  have n_4_8 := ne_lk l_4_7 qn8
  have n_5_6 := ne_lk l_5_5 qn6
  have n_5_7 := ne_lk l_5_6 qn7
  have n_5_8 := ne_lk l_5_7 qn8
  have n_6_7 := ne_lk l_6_6 qn7
  have n_6_8 := ne_lk l_6_7 qn8
  have n_7_8 := ne_lk l_7_7 qn8
  have E : ∀ j, D15 o j = if j = 15 then (q7 : Int) else if j = 12 then 2 else if j = 10 then (q6 : Int) else if j = 8 then (q5 : Int) else if j = 7 then (q4 : Int) else if j = 5 then (q3 : Int) else if j = 3 then (q2 : Int) else if j = 0 then (q1 : Int) else 0 := fun j => by
    rw [e15, up_at, e14, zr_ne n_0_7, e13, up_at, e12, up_at, e11, zr_ne n_0_6, e10, up_at, e9, zr_ne n_0_5, e8, up_at, e7, zr_ne n_0_4, e6, up_at, e5, zr_ne n_0_3, e4, up_at, e3, zr_ne n_0_2, e2, up_at, e1, zr_ne n_0_1, hz]
  have hu : u = q3 := by rw [hu, E]; exact Int.toNat_natCast q3
  subst hu
  refine ⟨⟨8, ⟨12, 0, l_3_8, rfl⟩, by decide, by decide⟩, ⟨6, 0, _, l_8_8, rfl⟩, fun D17 e17 => ⟨by decide, ?_⟩⟩
  have F : ∀ s0 j, up D17 o 20 s0 o j = if j = 20 then s0 else D15 o j := fun s0 j => by
    rw [up_at, e17, up_o n_0_3, e16, zr_ne n_0_8]
  have R8 : ∀ s0 j, up D17 o 20 s0 q8 j = 0 := fun s0 j => by rw [up_o (Ne.symm n_0_8), e17, up_o (Ne.symm n_3_8), e16, zr_q]
  have R3 : ∀ s0, up D17 o 20 s0 u 0 = (q8 : Int) := fun s0 => by rw [up_o (Ne.symm n_0_3), e17]; exact up_s _ _ _ _
  have R4 : ∀ s0 j, up D17 o 20 s0 q4 j = 0 := fun s0 j => by
    rw [up_o (Ne.symm n_0_4), e17, up_o (Ne.symm n_3_4), e16, zr_ne n_4_8, e15, up_o (Ne.symm n_0_4), e14, zr_ne n_4_7, e13, up_o (Ne.symm n_0_4), e12, up_o (Ne.symm n_0_4), e11, zr_ne n_4_6, e10, up_o (Ne.symm n_0_4), e9, zr_ne n_4_5, e8, up_o (Ne.symm n_0_4), e7, zr_q]
  refine hq S8 D17 (o, q1, q2, u, q4, q5, q6) rfl ⟨0, 0, 21, l_0_8, rfl⟩ (fun s0 => ?_)
  have V : ∀ j v, j ≠ 20 → D15 o j = v → up D17 o 20 s0 o j = v := fun j v h1 h2 => by rw [F, if_neg h1]; exact h2
  have tn : ∀ (j q : Nat), j ≠ 20 → D15 o j = (q : Int) → (up D17 o 20 s0 o j).toNat = q := fun j q h1 h2 => by rw [V j _ h1 h2]; exact Int.toNat_natCast q
  refine ⟨⟨l_0_8, ⟨tn 0 q1 (by decide) (E 0), l_1_8⟩, ⟨tn 3 q2 (by decide) (E 3), l_2_8⟩, ⟨tn 5 u (by decide) (E 5), l_3_8⟩, ⟨tn 7 q4 (by decide) (E 7), l_4_8⟩, ⟨tn 8 q5 (by decide) (E 8), l_5_8⟩, ⟨tn 10 q6 (by decide) (E 10), l_6_8⟩, tn 19 0 (by decide) (E 19)⟩, ⟨?_, fun f hf => ?_, fun f s hf hs => ?_, fun g hg => ?_⟩, ⟨⟨?_, fun k hk => ?_⟩, ?_, fun k hk => ?_⟩, ⟨?_, fun k hk => ?_⟩, ⟨?_, ?_, fun p hp => ?_⟩, fun p hp => ?_, ⟨?_, fun k hk => ?_⟩, ⟨?_, ?_, ?_⟩, ⟨?_, fun h1 => ?_⟩⟩
  · rw [a3]; exact V 6 0 (by decide) (E 6)
  · have hf0 : f = 0 := by omega
    subst hf0
    show lk S8 (up D17 o 20 s0 u 0).toNat = _
    rw [R3, Int.toNat_natCast, l_8_8, a4]
  · have hf0 : f = 0 := by omega
    subst hf0
    refine Or.inl ⟨?_, a89 _ (by omega)⟩
    show (up D17 o 20 s0 (up D17 o 20 s0 u 0).toNat s).toNat = 0
    rw [R3, Int.toNat_natCast, R8]
    rfl
  · refine Or.inl ⟨?_, a89 _ (by omega)⟩
    show (up D17 o 20 s0 q4 g).toNat = 0
    rw [R4]
    rfl
  · rw [a5]; exact V 9 0 (by decide) (E 9)
  · omega
  · rw [a6]; exact V 11 0 (by decide) (E 11)
  · omega
  · rw [b1]; exact V 4 0 (by decide) (E 4)
  · omega
  · rw [a1]; exact V 1 0 (by decide) (E 1)
  · rw [a2]; exact V 2 0 (by decide) (E 2)
  · omega
  · omega
  · show lk S8 (up D17 o 20 s0 o 15).toNat = _
    rw [tn 15 q7 (by decide) (E 15), b2]
    exact l_7_8
  · omega
  · rw [c1]; exact V 12 2 (by decide) (E 12)
  · rw [c2]; exact V 13 0 (by decide) (E 13)
  · rw [c3]; exact V 14 0 (by decide) (E 14)
  · rw [b3]; exact V 16 0 (by decide) (E 16)
  · omega
end NewSim
