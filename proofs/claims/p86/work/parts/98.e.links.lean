theorem cw_X12 : ∀ w ∈ u_ws RX12 TX12 21, w ∈ wAll := List.forall_mem_cons.mpr ⟨(wa_8 39 rfl rfl), List.forall_mem_cons.mpr ⟨(wa_8 41 rfl rfl), List.forall_mem_cons.mpr ⟨(wa_8 43 rfl rfl), List.forall_mem_cons.mpr ⟨(wa_8 45 rfl rfl), List.forall_mem_cons.mpr ⟨(wa_8 47 rfl rfl), List.forall_mem_cons.mpr ⟨(wa_8 49 rfl rfl), List.forall_mem_cons.mpr ⟨(wa_8 51 rfl rfl), List.forall_mem_cons.mpr ⟨(wa_8 53 rfl rfl), List.forall_mem_cons.mpr ⟨(wa_8 55 rfl rfl), List.forall_mem_cons.mpr ⟨(wa_8 57 rfl rfl), List.forall_mem_cons.mpr ⟨(wa_8 59 rfl rfl), List.forall_mem_cons.mpr ⟨(wa_8 61 rfl rfl), List.forall_mem_cons.mpr ⟨(wa_8 63 rfl rfl), List.forall_mem_cons.mpr ⟨(wa_8 65 rfl rfl), List.forall_mem_cons.mpr ⟨(wa_8 67 rfl rfl), List.forall_mem_cons.mpr ⟨(wa_8 69 rfl rfl), List.forall_mem_cons.mpr ⟨(wa_8 71 rfl rfl), List.forall_mem_cons.mpr ⟨(wa_8 73 rfl rfl), List.forall_mem_cons.mpr ⟨(wa_8 75 rfl rfl), List.forall_mem_cons.mpr ⟨(wa_8 77 rfl rfl), List.forall_mem_cons.mpr ⟨(wa_8 79 rfl rfl), fun _ h => absurd h List.not_mem_nil⟩⟩⟩⟩⟩⟩⟩⟩⟩⟩⟩⟩⟩⟩⟩⟩⟩⟩⟩⟩⟩
theorem cw_X13 : ∀ w ∈ u_ws RX13 TX13 24, w ∈ wAll := List.forall_mem_cons.mpr ⟨(wa_7 60 rfl rfl), List.forall_mem_cons.mpr ⟨(wa_7 62 rfl rfl), List.forall_mem_cons.mpr ⟨(wa_7 64 rfl rfl), List.forall_mem_cons.mpr ⟨(wa_7 66 rfl rfl), List.forall_mem_cons.mpr ⟨(wa_7 68 rfl rfl), List.forall_mem_cons.mpr ⟨(wa_7 70 rfl rfl), List.forall_mem_cons.mpr ⟨(wa_7 72 rfl rfl), List.forall_mem_cons.mpr ⟨(wa_7 74 rfl rfl), List.forall_mem_cons.mpr ⟨(wa_7 76 rfl rfl), List.forall_mem_cons.mpr ⟨(wa_7 78 rfl rfl), List.forall_mem_cons.mpr ⟨(wa_7 80 rfl rfl), List.forall_mem_cons.mpr ⟨(wa_7 82 rfl rfl), List.forall_mem_cons.mpr ⟨(wa_7 84 rfl rfl), List.forall_mem_cons.mpr ⟨(wa_7 86 rfl rfl), List.forall_mem_cons.mpr ⟨(wa_7 88 rfl rfl), List.forall_mem_cons.mpr ⟨(wa_7 90 rfl rfl), List.forall_mem_cons.mpr ⟨(wa_7 92 rfl rfl), List.forall_mem_cons.mpr ⟨(wa_7 94 rfl rfl), List.forall_mem_cons.mpr ⟨(wa_7 96 rfl rfl), List.forall_mem_cons.mpr ⟨(wa_7 98 rfl rfl), List.forall_mem_cons.mpr ⟨(wa_7 100 rfl rfl), List.forall_mem_cons.mpr ⟨(wa_7 102 rfl rfl), List.forall_mem_cons.mpr ⟨(wa_7 104 rfl rfl), List.forall_mem_cons.mpr ⟨(wa_7 106 rfl rfl), fun _ h => absurd h List.not_mem_nil⟩⟩⟩⟩⟩⟩⟩⟩⟩⟩⟩⟩⟩⟩⟩⟩⟩⟩⟩⟩⟩⟩⟩⟩
theorem fr_X12_9 : Fr RX12 9 12 0 := ⟨_, _, _, rfl, by decide, cw_X12, Or.inl (wa_8 13 rfl rfl)⟩
theorem ff_X12_9 : Ff RX12 9 12 0 (.array (.object "RuntimeHeapLaw$Thing")) := ⟨_, _, _, _, rfl, by decide, cw_X12, tyX12_ok, nmX12, rfl, rfl, by decide +kernel, (wa_8 13 rfl rfl)⟩
theorem fr_X12_17 : Fr RX12 17 12 3 := ⟨_, _, _, rfl, by decide, cw_X12, Or.inl (wa_8 16 rfl rfl)⟩
theorem ff_X12_17 : Ff RX12 17 12 3 (.array (.array .int)) := ⟨_, _, _, _, rfl, by decide, cw_X12, tyX12_ok, nmX12, rfl, rfl, by decide +kernel, (wa_8 16 rfl rfl)⟩
theorem fr_X12_22 : Fr RX12 22 12 5 := ⟨_, _, _, rfl, by decide, cw_X12, Or.inl (wa_8 19 rfl rfl)⟩
theorem ff_X12_22 : Ff RX12 22 12 5 (.array (.array (.object "RuntimeHeapLaw$Thing"))) := ⟨_, _, _, _, rfl, by decide, cw_X12, tyX12_ok, nmX12, rfl, rfl, by decide +kernel, (wa_8 19 rfl rfl)⟩
theorem fr_X12_26 : Fr RX12 26 12 7 := ⟨_, _, _, rfl, by decide, cw_X12, Or.inl (wa_8 23 rfl rfl)⟩
theorem ff_X12_26 : Ff RX12 26 12 7 (.array (.object "RuntimeHeapLaw$Thing")) := ⟨_, _, _, _, rfl, by decide, cw_X12, tyX12_ok, nmX12, rfl, rfl, by decide +kernel, (wa_8 23 rfl rfl)⟩
theorem fr_X12_29 : Fr RX12 29 12 8 := ⟨_, _, _, rfl, by decide, cw_X12, Or.inl (wa_8 24 rfl rfl)⟩
theorem ff_X12_29 : Ff RX12 29 12 8 (.array (.object "RuntimeHeapLaw$Thing")) := ⟨_, _, _, _, rfl, by decide, cw_X12, tyX12_ok, nmX12, rfl, rfl, by decide +kernel, (wa_8 24 rfl rfl)⟩
theorem fr_X12_32 : Fr RX12 32 12 10 := ⟨_, _, _, rfl, by decide, cw_X12, Or.inl (wa_8 26 rfl rfl)⟩
theorem ff_X12_32 : Ff RX12 32 12 10 (.array (.object "RuntimeHeapLaw$Thing")) := ⟨_, _, _, _, rfl, by decide, cw_X12, tyX12_ok, nmX12, rfl, rfl, by decide +kernel, (wa_8 26 rfl rfl)⟩
theorem fr_X12_35 : Fr RX12 35 12 12 := ⟨_, _, _, rfl, by decide, cw_X12, Or.inl (wa_8 28 rfl rfl)⟩
theorem fk_X12_35 : Fk RX12 35 12 12 "I" := ⟨_, _, _, _, rfl, by decide, rfl, cw_X12, tyX12_ok, nmX12, rfl, Or.inl (wa_8 28 rfl rfl)⟩
theorem fr_X12_39 : Fr RX12 39 12 15 := ⟨_, _, _, rfl, by decide, cw_X12, Or.inl (wa_8 31 rfl rfl)⟩
theorem fk_X12_39 : Fk RX12 39 12 15 "[I" := ⟨_, _, _, _, rfl, by decide, rfl, cw_X12, tyX12_ok, nmX12, rfl, Or.inl (wa_8 31 rfl rfl)⟩
theorem fr_X12_42 : Fr RX12 42 13 0 := ⟨_, _, _, rfl, by decide, cw_X13, Or.inl (wa_7 28 rfl rfl)⟩
theorem fr_X12_45 : Fr RX12 45 12 6 := ⟨_, _, _, rfl, by decide, cw_X12, Or.inl (wa_8 21 rfl rfl)⟩
theorem fr_X12_52 : Fr RX12 52 13 1 := ⟨_, _, _, rfl, by decide, cw_X13, Or.inl (wa_7 30 rfl rfl)⟩
theorem fr_X12_58 : Fr RX12 58 12 1 := ⟨_, _, _, rfl, by decide, cw_X12, Or.inl (wa_8 14 rfl rfl)⟩
theorem fr_X12_61 : Fr RX12 61 13 11 := ⟨_, _, _, rfl, by decide, cw_X13, Or.inl (wa_7 47 rfl rfl)⟩
theorem fr_X12_65 : Fr RX12 65 13 3 := ⟨_, _, _, rfl, by decide, cw_X13, Or.inl (wa_7 34 rfl rfl)⟩
theorem fr_X12_68 : Fr RX12 68 12 19 := ⟨_, _, _, rfl, by decide, cw_X12, Or.inl (wa_8 37 rfl rfl)⟩
theorem fr_X12_76 : Fr RX12 76 13 21 := ⟨_, _, _, rfl, by decide, cw_X13, Or.inl (wa_7 58 rfl rfl)⟩
theorem fk_X12_76 : Fk RX12 76 13 21 "I" := ⟨_, _, _, _, rfl, by decide, rfl, cw_X13, tyX13_ok, nmX13, rfl, Or.inl (wa_7 58 rfl rfl)⟩
theorem fr_X12_83 : Fr RX12 83 12 9 := ⟨_, _, _, rfl, by decide, cw_X12, Or.inl (wa_8 25 rfl rfl)⟩
theorem fr_X12_86 : Fr RX12 86 12 11 := ⟨_, _, _, rfl, by decide, cw_X12, Or.inl (wa_8 27 rfl rfl)⟩
theorem fr_X12_89 : Fr RX12 89 13 18 := ⟨_, _, _, rfl, by decide, cw_X13, Or.inl (wa_7 54 rfl rfl)⟩
theorem fr_X12_92 : Fr RX12 92 13 8 := ⟨_, _, _, rfl, by decide, cw_X13, Or.inl (wa_7 44 rfl rfl)⟩
theorem fr_X12_95 : Fr RX12 95 13 15 := ⟨_, _, _, rfl, by decide, cw_X13, Or.inl (wa_7 51 rfl rfl)⟩
theorem fr_X12_98 : Fr RX12 98 13 4 := ⟨_, _, _, rfl, by decide, cw_X13, Or.inl (wa_7 37 rfl rfl)⟩
theorem fr_X12_101 : Fr RX12 101 13 16 := ⟨_, _, _, rfl, by decide, cw_X13, Or.inl (wa_7 52 rfl rfl)⟩
theorem fr_X12_104 : Fr RX12 104 13 6 := ⟨_, _, _, rfl, by decide, cw_X13, Or.inl (wa_7 41 rfl rfl)⟩
theorem fr_X12_107 : Fr RX12 107 13 17 := ⟨_, _, _, rfl, by decide, cw_X13, Or.inl (wa_7 53 rfl rfl)⟩
theorem fr_X12_110 : Fr RX12 110 13 7 := ⟨_, _, _, rfl, by decide, cw_X13, Or.inl (wa_7 43 rfl rfl)⟩
theorem fr_X12_124 : Fr RX12 124 13 19 := ⟨_, _, _, rfl, by decide, cw_X13, Or.inl (wa_7 55 rfl rfl)⟩
theorem fr_X12_127 : Fr RX12 127 13 20 := ⟨_, _, _, rfl, by decide, cw_X13, Or.inl (wa_7 56 rfl rfl)⟩
theorem fr_X12_130 : Fr RX12 130 12 17 := ⟨_, _, _, rfl, by decide, cw_X12, Or.inl (wa_8 35 rfl rfl)⟩
theorem fr_X12_143 : Fr RX12 143 13 12 := ⟨_, _, _, rfl, by decide, cw_X13, Or.inl (wa_7 48 rfl rfl)⟩
theorem fr_X12_146 : Fr RX12 146 13 13 := ⟨_, _, _, rfl, by decide, cw_X13, Or.inl (wa_7 49 rfl rfl)⟩
theorem fk_X12_146 : Fk RX12 146 13 13 "Z" := ⟨_, _, _, _, rfl, by decide, rfl, cw_X13, tyX13_ok, nmX13, rfl, Or.inl (wa_7 49 rfl rfl)⟩
theorem fk_X12_86 : Fk RX12 86 12 11 "I" := ⟨_, _, _, _, rfl, by decide, rfl, cw_X12, tyX12_ok, nmX12, rfl, Or.inl (wa_8 27 rfl rfl)⟩
theorem fk_X12_58 : Fk RX12 58 12 1 "I" := ⟨_, _, _, _, rfl, by decide, rfl, cw_X12, tyX12_ok, nmX12, rfl, Or.inl (wa_8 14 rfl rfl)⟩
theorem fk_X12_92 : Fk RX12 92 13 8 "LRuntimeHeapLaw$Thing;" := ⟨_, _, _, _, rfl, by decide, rfl, cw_X13, tyX13_ok, nmX13, rfl, Or.inl (wa_7 44 rfl rfl)⟩
theorem fr_X12_157 : Fr RX12 157 13 9 := ⟨_, _, _, rfl, by decide, cw_X13, Or.inl (wa_7 45 rfl rfl)⟩
theorem fk_X12_83 : Fk RX12 83 12 9 "I" := ⟨_, _, _, _, rfl, by decide, rfl, cw_X12, tyX12_ok, nmX12, rfl, Or.inl (wa_8 25 rfl rfl)⟩
theorem fr_X12_160 : Fr RX12 160 12 13 := ⟨_, _, _, rfl, by decide, cw_X12, Or.inl (wa_8 29 rfl rfl)⟩
theorem fk_X12_160 : Fk RX12 160 12 13 "I" := ⟨_, _, _, _, rfl, by decide, rfl, cw_X12, tyX12_ok, nmX12, rfl, Or.inl (wa_8 29 rfl rfl)⟩
theorem fr_X12_163 : Fr RX12 163 12 14 := ⟨_, _, _, rfl, by decide, cw_X12, Or.inl (wa_8 30 rfl rfl)⟩
theorem fk_X12_163 : Fk RX12 163 12 14 "I" := ⟨_, _, _, _, rfl, by decide, rfl, cw_X12, tyX12_ok, nmX12, rfl, Or.inl (wa_8 30 rfl rfl)⟩
theorem fr_X12_166 : Fr RX12 166 13 10 := ⟨_, _, _, rfl, by decide, cw_X13, Or.inl (wa_7 46 rfl rfl)⟩
theorem fk_X12_166 : Fk RX12 166 13 10 "I" := ⟨_, _, _, _, rfl, by decide, rfl, cw_X13, tyX13_ok, nmX13, rfl, Or.inl (wa_7 46 rfl rfl)⟩
theorem fk_X12_61 : Fk RX12 61 13 11 "Z" := ⟨_, _, _, _, rfl, by decide, rfl, cw_X13, tyX13_ok, nmX13, rfl, Or.inl (wa_7 47 rfl rfl)⟩
theorem fk_X12_124 : Fk RX12 124 13 19 "Z" := ⟨_, _, _, _, rfl, by decide, rfl, cw_X13, tyX13_ok, nmX13, rfl, Or.inl (wa_7 55 rfl rfl)⟩
theorem fk_X12_127 : Fk RX12 127 13 20 "Z" := ⟨_, _, _, _, rfl, by decide, rfl, cw_X13, tyX13_ok, nmX13, rfl, Or.inl (wa_7 56 rfl rfl)⟩
theorem fk_X12_95 : Fk RX12 95 13 15 "[LRuntimeHeapLaw$Thing;" := ⟨_, _, _, _, rfl, by decide, rfl, cw_X13, tyX13_ok, nmX13, rfl, Or.inl (wa_7 51 rfl rfl)⟩
theorem fk_X12_101 : Fk RX12 101 13 16 "[LRuntimeHeapLaw$Thing;" := ⟨_, _, _, _, rfl, by decide, rfl, cw_X13, tyX13_ok, nmX13, rfl, Or.inl (wa_7 52 rfl rfl)⟩
theorem fk_X12_107 : Fk RX12 107 13 17 "[LRuntimeHeapLaw$Thing;" := ⟨_, _, _, _, rfl, by decide, rfl, cw_X13, tyX13_ok, nmX13, rfl, Or.inl (wa_7 53 rfl rfl)⟩
theorem fk_X12_89 : Fk RX12 89 13 18 "LRuntimeHeapLaw$Thing;" := ⟨_, _, _, _, rfl, by decide, rfl, cw_X13, tyX13_ok, nmX13, rfl, Or.inl (wa_7 54 rfl rfl)⟩
theorem fr_X12_176 : Fr RX12 176 12 16 := ⟨_, _, _, rfl, by decide, cw_X12, Or.inl (wa_8 34 rfl rfl)⟩
theorem fk_X12_176 : Fk RX12 176 12 16 "Z" := ⟨_, _, _, _, rfl, by decide, rfl, cw_X12, tyX12_ok, nmX12, rfl, Or.inl (wa_8 34 rfl rfl)⟩
theorem fr_X12_179 : Fr RX12 179 12 2 := ⟨_, _, _, rfl, by decide, cw_X12, Or.inl (wa_8 15 rfl rfl)⟩
theorem fk_X12_130 : Fk RX12 130 12 17 "I" := ⟨_, _, _, _, rfl, by decide, rfl, cw_X12, tyX12_ok, nmX12, rfl, Or.inl (wa_8 35 rfl rfl)⟩
theorem fr_X12_182 : Fr RX12 182 12 18 := ⟨_, _, _, rfl, by decide, cw_X12, Or.inl (wa_8 36 rfl rfl)⟩
theorem fk_X12_182 : Fk RX12 182 12 18 "I" := ⟨_, _, _, _, rfl, by decide, rfl, cw_X12, tyX12_ok, nmX12, rfl, Or.inl (wa_8 36 rfl rfl)⟩
theorem fr_X12_216 : Fr RX12 216 12 4 := ⟨_, _, _, rfl, by decide, cw_X12, Or.inl (wa_8 18 rfl rfl)⟩
theorem fk_X12_216 : Fk RX12 216 12 4 "I" := ⟨_, _, _, _, rfl, by decide, rfl, cw_X12, tyX12_ok, nmX12, rfl, Or.inl (wa_8 18 rfl rfl)⟩
theorem fk_X12_45 : Fk RX12 45 12 6 "I" := ⟨_, _, _, _, rfl, by decide, rfl, cw_X12, tyX12_ok, nmX12, rfl, Or.inl (wa_8 21 rfl rfl)⟩
theorem fk_X12_143 : Fk RX12 143 13 12 "Z" := ⟨_, _, _, _, rfl, by decide, rfl, cw_X13, tyX13_ok, nmX13, rfl, Or.inl (wa_7 48 rfl rfl)⟩
theorem fk_X12_42 : Fk RX12 42 13 0 "I" := ⟨_, _, _, _, rfl, by decide, rfl, cw_X13, tyX13_ok, nmX13, rfl, Or.inl (wa_7 28 rfl rfl)⟩
theorem fk_X12_179 : Fk RX12 179 12 2 "I" := ⟨_, _, _, _, rfl, by decide, rfl, cw_X12, tyX12_ok, nmX12, rfl, Or.inl (wa_8 15 rfl rfl)⟩
theorem fk_X12_157 : Fk RX12 157 13 9 "Z" := ⟨_, _, _, _, rfl, by decide, rfl, cw_X13, tyX13_ok, nmX13, rfl, Or.inl (wa_7 45 rfl rfl)⟩
theorem fr_X12_242 : Fr RX12 242 13 5 := ⟨_, _, _, rfl, by decide, cw_X13, Or.inl (wa_7 39 rfl rfl)⟩
theorem fr_X12_245 : Fr RX12 245 13 14 := ⟨_, _, _, rfl, by decide, cw_X13, Or.inl (wa_7 50 rfl rfl)⟩
theorem fk_X12_245 : Fk RX12 245 13 14 "Z" := ⟨_, _, _, _, rfl, by decide, rfl, cw_X13, tyX13_ok, nmX13, rfl, Or.inl (wa_7 50 rfl rfl)⟩
theorem fr_X12_281 : Fr RX12 281 13 23 := ⟨_, _, _, rfl, by decide, cw_X13, Or.inl (wa_7 59 rfl rfl)⟩
theorem fk_X12_281 : Fk RX12 281 13 23 "LRuntimeHeapLaw$Thing;" := ⟨_, _, _, _, rfl, by decide, rfl, cw_X13, tyX13_ok, nmX13, rfl, Or.inl (wa_7 59 rfl rfl)⟩
theorem fr_X12_284 : Fr RX12 284 13 2 := ⟨_, _, _, rfl, by decide, cw_X13, Or.inl (wa_7 32 rfl rfl)⟩
theorem fr_X13_7 : Fr RX13 7 13 1 := ⟨_, _, _, rfl, by decide, cw_X13, Or.inl (wa_7 29 rfl rfl)⟩
theorem ff_X13_7 : Ff RX13 7 13 1 .int := ⟨_, _, _, _, rfl, by decide, cw_X13, tyX13_ok, nmX13, rfl, rfl, by decide +kernel, (wa_7 29 rfl rfl)⟩
theorem fr_X13_13 : Fr RX13 13 13 2 := ⟨_, _, _, rfl, by decide, cw_X13, Or.inl (wa_7 31 rfl rfl)⟩
theorem ff_X13_13 : Ff RX13 13 13 2 .int := ⟨_, _, _, _, rfl, by decide, cw_X13, tyX13_ok, nmX13, rfl, rfl, by decide +kernel, (wa_7 31 rfl rfl)⟩
theorem fr_X13_16 : Fr RX13 16 13 4 := ⟨_, _, _, rfl, by decide, cw_X13, Or.inl (wa_7 35 rfl rfl)⟩
theorem ff_X13_16 : Ff RX13 16 13 4 (.array (.object "RuntimeHeapLaw$Thing")) := ⟨_, _, _, _, rfl, by decide, cw_X13, tyX13_ok, nmX13, rfl, rfl, by decide +kernel, (wa_7 35 rfl rfl)⟩
theorem fr_X13_20 : Fr RX13 20 13 5 := ⟨_, _, _, rfl, by decide, cw_X13, Or.inl (wa_7 38 rfl rfl)⟩
theorem ff_X13_20 : Ff RX13 20 13 5 (.array .int) := ⟨_, _, _, _, rfl, by decide, cw_X13, tyX13_ok, nmX13, rfl, rfl, by decide +kernel, (wa_7 38 rfl rfl)⟩
theorem fr_X13_24 : Fr RX13 24 13 6 := ⟨_, _, _, rfl, by decide, cw_X13, Or.inl (wa_7 40 rfl rfl)⟩
theorem ff_X13_24 : Ff RX13 24 13 6 (.array (.object "RuntimeHeapLaw$Thing")) := ⟨_, _, _, _, rfl, by decide, cw_X13, tyX13_ok, nmX13, rfl, rfl, by decide +kernel, (wa_7 40 rfl rfl)⟩
theorem fr_X13_27 : Fr RX13 27 13 7 := ⟨_, _, _, rfl, by decide, cw_X13, Or.inl (wa_7 42 rfl rfl)⟩
theorem ff_X13_27 : Ff RX13 27 13 7 (.array (.object "RuntimeHeapLaw$Thing")) := ⟨_, _, _, _, rfl, by decide, cw_X13, tyX13_ok, nmX13, rfl, rfl, by decide +kernel, (wa_7 42 rfl rfl)⟩
theorem fr_X13_30 : Fr RX13 30 13 3 := ⟨_, _, _, rfl, by decide, cw_X13, Or.inl (wa_7 33 rfl rfl)⟩
theorem ff_X13_30 : Ff RX13 30 13 3 .int := ⟨_, _, _, _, rfl, by decide, cw_X13, tyX13_ok, nmX13, rfl, rfl, by decide +kernel, (wa_7 33 rfl rfl)⟩
theorem fr_X13_33 : Fr RX13 33 13 21 := ⟨_, _, _, rfl, by decide, cw_X13, Or.inl (wa_7 57 rfl rfl)⟩
theorem fr_L_155 : Fr RL 155 12 5 := ⟨_, _, _, rfl, by decide, cw_X12, Or.inl (wa_8 20 rfl rfl)⟩
theorem fr_L_159 : Fr RL 159 12 6 := ⟨_, _, _, rfl, by decide, cw_X12, Or.inl (wa_8 22 rfl rfl)⟩
theorem fr_L_172 : Fr RL 172 12 4 := ⟨_, _, _, rfl, by decide, cw_X12, Or.inl (wa_8 17 rfl rfl)⟩
theorem fr_L_179 : Fr RL 179 12 20 := ⟨_, _, _, rfl, by decide, cw_X12, Or.inl (wa_8 38 rfl rfl)⟩
theorem fr_L_191 : Fr RL 191 13 4 := ⟨_, _, _, rfl, by decide, cw_X13, Or.inl (wa_7 36 rfl rfl)⟩
theorem fr_L_197 : Fr RL 197 12 15 := ⟨_, _, _, rfl, by decide, cw_X12, Or.inl (wa_8 32 rfl rfl)⟩
theorem fr_L_201 : Fr RL 201 12 16 := ⟨_, _, _, rfl, by decide, cw_X12, Or.inl (wa_8 33 rfl rfl)⟩
theorem fk_L_179 : Fk RL 179 12 20 "Z" := ⟨_, _, _, _, rfl, by decide, rfl, cw_X12, tyX12_ok, nmX12, rfl, Or.inl (wa_8 38 rfl rfl)⟩
abbrev hh_told : List (Nat × Nat × Nat × Nat) := [(0, 187, 507, 137), (188, 193, 507, 137), (194, 199, 507, 137), (200, 206, 507, 137), (207, 212, 507, 137), (213, 219, 507, 137), (220, 226, 507, 137), (227, 233, 507, 137), (234, 240, 507, 137), (241, 247, 507, 137), (248, 265, 507, 137), (266, 283, 507, 137), (284, 290, 507, 137), (291, 297, 507, 137), (298, 306, 507, 137), (307, 315, 507, 137), (316, 322, 507, 137), (323, 331, 507, 137), (332, 338, 507, 137), (339, 347, 507, 137), (348, 354, 507, 137), (355, 369, 507, 137), (370, 383, 507, 137), (384, 389, 507, 137), (390, 395, 507, 137), (396, 412, 507, 137), (413, 421, 507, 137), (422, 436, 507, 137), (437, 443, 507, 137), (444, 450, 507, 137), (451, 456, 507, 137), (457, 463, 507, 137), (464, 469, 507, 137), (470, 475, 507, 137), (476, 480, 507, 137), (481, 495, 507, 137), (496, 500, 507, 137), (501, 506, 507, 137), (0, 187, 513, 139), (188, 193, 513, 139), (194, 199, 513, 139), (200, 206, 513, 139), (207, 212, 513, 139), (213, 219, 513, 139), (220, 226, 513, 139), (227, 233, 513, 139), (234, 240, 513, 139), (241, 247, 513, 139), (248, 265, 513, 139), (266, 283, 513, 139), (284, 290, 513, 139), (291, 297, 513, 139), (298, 306, 513, 139), (307, 315, 513, 139), (316, 322, 513, 139), (323, 331, 513, 139), (332, 338, 513, 139), (339, 347, 513, 139), (348, 354, 513, 139), (355, 369, 513, 139), (370, 383, 513, 139), (384, 389, 513, 139), (390, 395, 513, 139), (396, 412, 513, 139), (413, 421, 513, 139), (422, 436, 513, 139), (437, 443, 513, 139), (444, 450, 513, 139), (451, 456, 513, 139), (457, 463, 513, 139), (464, 469, 513, 139), (470, 475, 513, 139), (476, 480, 513, 139), (481, 495, 513, 139), (496, 500, 513, 139), (501, 506, 513, 139), (0, 187, 519, 141), (188, 193, 519, 141), (194, 199, 519, 141), (200, 206, 519, 141), (207, 212, 519, 141), (213, 219, 519, 141), (220, 226, 519, 141), (227, 233, 519, 141), (234, 240, 519, 141), (241, 247, 519, 141), (248, 265, 519, 141), (266, 283, 519, 141), (284, 290, 519, 141), (291, 297, 519, 141), (298, 306, 519, 141), (307, 315, 519, 141), (316, 322, 519, 141), (323, 331, 519, 141), (332, 338, 519, 141), (339, 347, 519, 141), (348, 354, 519, 141), (355, 369, 519, 141), (370, 383, 519, 141), (384, 389, 519, 141), (390, 395, 519, 141), (396, 412, 519, 141), (413, 421, 519, 141), (422, 436, 519, 141), (437, 443, 519, 141), (444, 450, 519, 141), (451, 456, 519, 141), (457, 463, 519, 141), (464, 469, 519, 141), (470, 475, 519, 141), (476, 480, 519, 141), (481, 495, 519, 141), (496, 500, 519, 141), (501, 506, 519, 141)]
abbrev md_X12_init : Md := (yX12_init, cX12_init, 1, none, 0)
theorem mk_X12_init : MkU md_X12_init [] 0 := ⟨by decide +kernel, (wa_8 7 rfl rfl), (wa_1 13 rfl rfl), by decide +kernel, by decide⟩
abbrev md_X12_number : Md := (yX12_number, cX12_number, 1, (some .int), 0)
theorem mk_X12_number : MkU md_X12_number [] 1 := ⟨by decide +kernel, (wa_4 132 rfl rfl), (wa_1 13 rfl rfl), by decide +kernel, by decide⟩
abbrev md_X12_isSlot : Md := (yX12_isSlot, cX12_isSlot, 2, (some .boolean), 0)
theorem mk_X12_isSlot : MkU md_X12_isSlot [] 1 := ⟨by decide +kernel, (wa_7 9 rfl rfl), (wa_1 13 rfl rfl), by decide +kernel, by decide⟩
abbrev md_X12_at : Md := (yX12_at, cX12_at, 2, (some (.object "RuntimeHeapLaw$Thing")), 0)
theorem mk_X12_at : MkU md_X12_at [] 1 := ⟨by decide +kernel, (wa_4 128 rfl rfl), (wa_1 13 rfl rfl), by decide +kernel, by decide⟩
abbrev md_X12_form : Md := (yX12_form, cX12_form, 2, (some .int), 1)
theorem mk_X12_form : MkU md_X12_form [] 1 := ⟨by decide +kernel, (wa_4 137 rfl rfl), (wa_1 13 rfl rfl), by decide +kernel, by decide⟩
abbrev md_X12_hold : Md := (yX12_hold, cX12_hold, 3, (some .int), 1)
theorem mk_X12_hold : MkU md_X12_hold [] 2 := ⟨by decide +kernel, (wa_7 13 rfl rfl), (wa_1 13 rfl rfl), by decide +kernel, by decide⟩
abbrev md_X12_words : Md := (yX12_words, cX12_words, 4, (some .int), 0)
theorem mk_X12_words : MkU md_X12_words [] 1 := ⟨by decide +kernel, (wa_4 97 rfl rfl), (wa_1 13 rfl rfl), by decide +kernel, by decide⟩
abbrev md_X12_put : Md := (yX12_put, cX12_put, 3, (some .boolean), 1)
theorem mk_X12_put : MkU md_X12_put [] 2 := ⟨by decide +kernel, (wa_7 136 rfl rfl), (wa_1 13 rfl rfl), by decide +kernel, by decide⟩
abbrev md_X12_wipe : Md := (yX12_wipe, cX12_wipe, 3, none, 0)
theorem mk_X12_wipe : MkU md_X12_wipe [] 1 := ⟨by decide +kernel, (wa_7 132 rfl rfl), (wa_1 13 rfl rfl), by decide +kernel, by decide⟩
abbrev md_X12_marked : Md := (yX12_marked, cX12_marked, 4, (some .int), 1)
theorem mk_X12_marked : MkU md_X12_marked [] 1 := ⟨by decide +kernel, (wa_7 148 rfl rfl), (wa_1 13 rfl rfl), by decide +kernel, by decide⟩
abbrev md_X12_roots : Md := (yX12_roots, cX12_roots, 7, none, 2)
theorem mk_X12_roots : MkU md_X12_roots [] 1 := ⟨by decide +kernel, (wa_7 156 rfl rfl), (wa_1 13 rfl rfl), by decide +kernel, by decide⟩
abbrev md_X12_spread : Md := (yX12_spread, cX12_spread, 11, none, 2)
theorem mk_X12_spread : MkU md_X12_spread [] 3 := ⟨by decide +kernel, (wa_7 144 rfl rfl), (wa_1 13 rfl rfl), by decide +kernel, by decide⟩
abbrev md_X12_toKeep : Md := (yX12_toKeep, cX12_toKeep, 2, (some .int), 3)
theorem mk_X12_toKeep : MkU md_X12_toKeep [] 0 := ⟨by decide +kernel, (wa_7 128 rfl rfl), (wa_1 13 rfl rfl), by decide +kernel, by decide⟩
abbrev md_X12_collect : Md := (yX12_collect, cX12_collect, 7, (some .int), 4)
theorem mk_X12_collect : MkU md_X12_collect [] 1 := ⟨by decide +kernel, (wa_7 152 rfl rfl), (wa_1 13 rfl rfl), by decide +kernel, by decide⟩
abbrev md_X12_collectR : Md := (yX12_collect, cX12_collect, 7, (some .int), 3)
theorem mk_X12_collectR : MkU md_X12_collectR [] 1 := ⟨by decide +kernel, (wa_7 152 rfl rfl), (wa_1 13 rfl rfl), by decide +kernel, by decide⟩
abbrev md_X12_loosen : Md := (yX12_loosen, cX12_loosen, 3, none, 1)
theorem mk_X12_loosen : MkU md_X12_loosen [] 1 := ⟨by decide +kernel, (wa_7 160 rfl rfl), (wa_1 13 rfl rfl), by decide +kernel, by decide⟩
abbrev md_X12_age : Md := (yX12_age, cX12_age, 4, none, 1)
theorem mk_X12_age : MkU md_X12_age [] 1 := ⟨by decide +kernel, (wa_7 164 rfl rfl), (wa_1 13 rfl rfl), by decide +kernel, by decide⟩
abbrev md_X12_begin : Md := (yX12_begin, cX12_begin, 3, (some .int), 3)
theorem mk_X12_begin : MkU md_X12_begin [] 0 := ⟨by decide +kernel, (wa_7 231 rfl rfl), (wa_1 13 rfl rfl), by decide +kernel, by decide⟩
abbrev md_X12_row : Md := (yX12_row, cX12_row, 3, (some (.array (.object "RuntimeHeapLaw$Thing"))), 0)
theorem mk_X12_row : MkU md_X12_row [] 1 := ⟨by decide +kernel, (wa_7 234 rfl rfl), (wa_1 13 rfl rfl), by decide +kernel, by decide⟩
abbrev md_X12_end : Md := (yX12_end, cX12_end, 1, none, 5)
theorem mk_X12_end : MkU md_X12_end [] 0 := ⟨by decide +kernel, (wa_7 124 rfl rfl), (wa_1 13 rfl rfl), by decide +kernel, by decide⟩
abbrev md_X12_read : Md := (yX12_read, cX12_read, 2, (some (.object "RuntimeHeapLaw$Thing")), 0)
theorem mk_X12_read : MkU md_X12_read [] 1 := ⟨by decide +kernel, (wa_7 180 rfl rfl), (wa_1 13 rfl rfl), by decide +kernel, by decide⟩
abbrev md_X12_fits : Md := (yX12_fits, cX12_fits, 2, (some .boolean), 1)
theorem mk_X12_fits : MkU md_X12_fits [] 1 := ⟨by decide +kernel, (wa_7 120 rfl rfl), (wa_1 13 rfl rfl), by decide +kernel, by decide⟩
abbrev md_X12_room : Md := (yX12_room, cX12_room, 3, (some .boolean), 6)
theorem mk_X12_room : MkU md_X12_room [] 1 := ⟨by decide +kernel, (wa_7 116 rfl rfl), (wa_1 13 rfl rfl), by decide +kernel, by decide⟩
abbrev md_X12_due : Md := (yX12_due, cX12_due, 5, (some .int), 9)
theorem mk_X12_due : MkU md_X12_due [] 4 := ⟨by decide +kernel, (wa_6 239 rfl rfl), (wa_1 13 rfl rfl), by decide +kernel, by decide⟩
abbrev md_X12_dueOfSlots : Md := (yX12_dueOfSlots, cX12_dueOfSlots, 7, (some .int), 2)
theorem mk_X12_dueOfSlots : MkU md_X12_dueOfSlots [] 4 := ⟨by decide +kernel, (wa_7 3 rfl rfl), (wa_1 13 rfl rfl), by decide +kernel, by decide⟩
abbrev md_X12_plain : Md := (yX12_plain, cX12_plain, 3, (some (.object "RuntimeHeapLaw$Thing")), 1)
theorem mk_X12_plain : MkU md_X12_plain [] 1 := ⟨by decide +kernel, (wa_7 21 rfl rfl), (wa_1 13 rfl rfl), by decide +kernel, by decide⟩
abbrev md_X12_add : Md := (yX12_add, cX12_add, 3, (some (.object "RuntimeHeapLaw$Thing")), 0)
theorem mk_X12_add : MkU md_X12_add [] 2 := ⟨by decide +kernel, (wa_7 168 rfl rfl), (wa_1 13 rfl rfl), by decide +kernel, by decide⟩
abbrev md_X12_born : Md := (yX12_born, cX12_born, 3, (some .int), 7)
theorem mk_X12_born : MkU md_X12_born [] 2 := ⟨by decide +kernel, (wa_7 112 rfl rfl), (wa_1 13 rfl rfl), by decide +kernel, by decide⟩
abbrev md_X12_dueOfNew : Md := (yX12_dueOfNew, cX12_dueOfNew, 6, (some .int), 8)
theorem mk_X12_dueOfNew : MkU md_X12_dueOfNew [] 4 := ⟨by decide +kernel, (wa_7 17 rfl rfl), (wa_1 13 rfl rfl), by decide +kernel, by decide⟩
abbrev md_X12_dueOfFields : Md := (yX12_dueOfFields, cX12_dueOfFields, 8, (some .int), 2)
theorem mk_X12_dueOfFields : MkU md_X12_dueOfFields [] 4 := ⟨by decide +kernel, (wa_7 172 rfl rfl), (wa_1 13 rfl rfl), by decide +kernel, by decide⟩
abbrev md_X12_dueOfReferences : Md := (yX12_dueOfReferences, cX12_dueOfReferences, 8, (some .int), 3)
theorem mk_X12_dueOfReferences : MkU md_X12_dueOfReferences [] 4 := ⟨by decide +kernel, (wa_7 176 rfl rfl), (wa_1 13 rfl rfl), by decide +kernel, by decide⟩
abbrev md_X12_dueOfTable : Md := (yX12_dueOfTable, cX12_dueOfTable, 9, (some .int), 2)
theorem mk_X12_dueOfTable : MkU md_X12_dueOfTable [] 4 := ⟨by decide +kernel, (wa_7 184 rfl rfl), (wa_1 13 rfl rfl), by decide +kernel, by decide⟩
abbrev md_X12_only : Md := (yX12_only, cX12_only, 5, (some (.object "RuntimeHeapLaw$Thing")), 1)
theorem mk_X12_only : MkU md_X12_only [] 3 := ⟨by decide +kernel, (wa_7 200 rfl rfl), (wa_1 13 rfl rfl), by decide +kernel, by decide⟩
abbrev md_X12_dueOfNets : Md := (yX12_dueOfNets, cX12_dueOfNets, 5, (some .int), 8)
theorem mk_X12_dueOfNets : MkU md_X12_dueOfNets [] 3 := ⟨by decide +kernel, (wa_7 192 rfl rfl), (wa_1 13 rfl rfl), by decide +kernel, by decide⟩
abbrev md_X12_dueOfChange : Md := (yX12_dueOfChange, cX12_dueOfChange, 4, (some .int), 0)
theorem mk_X12_dueOfChange : MkU md_X12_dueOfChange [] 2 := ⟨by decide +kernel, (wa_7 196 rfl rfl), (wa_1 13 rfl rfl), by decide +kernel, by decide⟩
abbrev md_X12_copied : Md := (yX12_copied, cX12_copied, 9, (some .int), 7)
theorem mk_X12_copied : MkU md_X12_copied [] 2 := ⟨by decide +kernel, (wa_7 208 rfl rfl), (wa_1 13 rfl rfl), by decide +kernel, by decide⟩
abbrev md_X12_written : Md := (yX12_written, cX12_written, 13, (some (.array .int)), 1)
theorem mk_X12_written : MkU md_X12_written [] 1 := ⟨by decide +kernel, (wa_7 212 rfl rfl), (wa_1 13 rfl rfl), by decide +kernel, by decide⟩
abbrev md_X12_place : Md := (yX12_place, cX12_place, 4, (some .int), 0)
theorem mk_X12_place : MkU md_X12_place [] 3 := ⟨by decide +kernel, (wa_7 215 rfl rfl), (wa_1 13 rfl rfl), by decide +kernel, by decide⟩
abbrev md_X12_drawn : Md := (yX12_drawn, cX12_drawn, 6, (some (.object "RuntimeHeapLaw$Thing")), 2)
theorem mk_X12_drawn : MkU md_X12_drawn [] 1 := ⟨by decide +kernel, (wa_7 223 rfl rfl), (wa_1 13 rfl rfl), by decide +kernel, by decide⟩
abbrev md_X12_taken : Md := (yX12_taken, cX12_taken, 11, (some .int), 7)
theorem mk_X12_taken : MkU md_X12_taken [] 1 := ⟨by decide +kernel, (wa_7 219 rfl rfl), (wa_1 13 rfl rfl), by decide +kernel, by decide⟩
abbrev md_X12_dueOfCollecting : Md := (yX12_dueOfCollecting, cX12_dueOfCollecting, 5, (some .int), 6)
theorem mk_X12_dueOfCollecting : MkU md_X12_dueOfCollecting [] 2 := ⟨by decide +kernel, (wa_7 227 rfl rfl), (wa_1 13 rfl rfl), by decide +kernel, by decide⟩
abbrev md_X12_isSameIn : Md := (yX12_isSameIn, cX12_isSameIn, 6, (some .boolean), 3)
theorem mk_X12_isSameIn : MkU md_X12_isSameIn [] 2 := ⟨by decide +kernel, (wa_4 124 rfl rfl), (wa_1 13 rfl rfl), by decide +kernel, by decide⟩
abbrev md_X12_isSame : Md := (yX12_isSame, cX12_isSame, 5, (some .boolean), 5)
theorem mk_X12_isSame : MkU md_X12_isSame [] 1 := ⟨by decide +kernel, (wa_4 87 rfl rfl), (wa_1 13 rfl rfl), by decide +kernel, by decide⟩
abbrev md_X13_init : Md := (yX13_init, cX13_init, 6, none, 0)
theorem mk_X13_init : MkU md_X13_init [] 5 := ⟨by decide +kernel, (wa_7 25 rfl rfl), (wa_1 22 rfl rfl), by decide +kernel, by decide⟩
abbrev md_X13_is : Md := (yX13_is, cX13_is, 2, (some .boolean), 0)
theorem mk_X13_is : MkU md_X13_is [] 1 := ⟨by decide +kernel, (wa_7 140 rfl rfl), (wa_1 22 rfl rfl), by decide +kernel, by decide⟩
abbrev md_X13_entries : Md := (yX13_entries, cX13_entries, 6, (some .int), 0)
theorem mk_X13_entries : MkU md_X13_entries [] 0 := ⟨by decide +kernel, (wa_4 150 rfl rfl), (wa_1 22 rfl rfl), by decide +kernel, by decide⟩
abbrev md_X13_entry : Md := (yX13_entry, cX13_entry, 3, (some .int), 0)
theorem mk_X13_entry : MkU md_X13_entry [] 1 := ⟨by decide +kernel, (wa_7 188 rfl rfl), (wa_1 22 rfl rfl), by decide +kernel, by decide⟩
abbrev md_X13_hasBytes : Md := (yX13_hasBytes, cX13_hasBytes, 6, (some .boolean), 0)
theorem mk_X13_hasBytes : MkU md_X13_hasBytes [] 3 := ⟨by decide +kernel, (wa_7 204 rfl rfl), (wa_1 22 rfl rfl), by decide +kernel, by decide⟩
abbrev md_L_below : Md := (yL_below, cL_below, 2, (some .int), 0)
theorem mk_L_below : MkU md_L_below [] 2 := ⟨by decide +kernel, (wa_4 213 rfl rfl), (wa_1 0 rfl rfl), by decide +kernel, by decide⟩
abbrev md_L_cell : Md := (yL_cell, cL_cell, 2, (some .int), 0)
theorem mk_L_cell : MkU md_L_cell [] 2 := ⟨by decide +kernel, (wa_4 217 rfl rfl), (wa_1 0 rfl rfl), by decide +kernel, by decide⟩
abbrev md_L_mix : Md := (yL_mix, cL_mix, 2, (some .int), 0)
theorem mk_L_mix : MkU md_L_mix [] 1 := ⟨by decide +kernel, (wa_4 221 rfl rfl), (wa_1 0 rfl rfl), by decide +kernel, by decide⟩
abbrev md_L_told : Md := (yL_told, cL_told, 6, (some .int), 7)
theorem mk_L_told : MkU md_L_told hh_told 5 := ⟨by decide +kernel, (wa_4 232 rfl rfl), (wa_1 0 rfl rfl), by decide +kernel, by decide⟩
abbrev md_L_does : Md := (yL_does, cL_does, 6, (some .boolean), 10)
theorem mk_L_does : MkU md_L_does [] 6 := ⟨by decide +kernel, (wa_4 229 rfl rfl), (wa_1 0 rfl rfl), by decide +kernel, by decide⟩
abbrev md_L_slotOf : Md := (yL_slotOf, cL_slotOf, 7, (some .int), 2)
theorem mk_L_slotOf : MkU md_L_slotOf [] 4 := ⟨by decide +kernel, (wa_7 238 rfl rfl), (wa_1 0 rfl rfl), by decide +kernel, by decide⟩
abbrev md_L_act : Md := (yL_act, cL_act, 11, (some .boolean), 11)
theorem mk_L_act : MkU md_L_act [] 3 := ⟨by decide +kernel, (wa_4 226 rfl rfl), (wa_1 0 rfl rfl), by decide +kernel, by decide⟩
abbrev md_L_build : Md := (yL_build, cL_build, 6, (some (.object "RuntimeHeapLaw$Sim")), 12)
theorem mk_L_build : MkU md_L_build [] 3 := ⟨by decide +kernel, (wa_8 3 rfl rfl), (wa_1 0 rfl rfl), by decide +kernel, by decide⟩
abbrev md_L_reached : Md := (yL_reached, cL_reached, 3, (some .int), 4)
theorem mk_L_reached : MkU md_L_reached [] 1 := ⟨by decide +kernel, (wa_8 185 rfl rfl), (wa_1 0 rfl rfl), by decide +kernel, by decide⟩
abbrev md_L_isSound : Md := (yL_isSound, cL_isSound, 7, (some .boolean), 7)
theorem mk_L_isSound : MkU md_L_isSound [] 1 := ⟨by decide +kernel, (wa_8 84 rfl rfl), (wa_1 0 rfl rfl), by decide +kernel, by decide⟩
abbrev md_L_areSlotsSound : Md := (yL_areSlotsSound, cL_areSlotsSound, 8, (some .boolean), 6)
theorem mk_L_areSlotsSound : MkU md_L_areSlotsSound [] 3 := ⟨by decide +kernel, (wa_8 118 rfl rfl), (wa_1 0 rfl rfl), by decide +kernel, by decide⟩
abbrev md_L_isCollected : Md := (yL_isCollected, cL_isCollected, 16, (some .boolean), 5)
theorem mk_L_isCollected : MkU md_L_isCollected [] 3 := ⟨by decide +kernel, (wa_8 179 rfl rfl), (wa_1 0 rfl rfl), by decide +kernel, by decide⟩
abbrev md_L_isMarked : Md := (yL_isMarked, cL_isMarked, 10, (some .boolean), 10)
theorem mk_L_isMarked : MkU md_L_isMarked [] 3 := ⟨by decide +kernel, (wa_8 188 rfl rfl), (wa_1 0 rfl rfl), by decide +kernel, by decide⟩
theorem oi_X12_1 : Cond.methodLink RX12 1 Lib.objectInit ∈ wAll ∧ Cond.instanceMethod Lib.objectInit ∈ wAll ∧ Cond.code Lib.objectInit ⟨#[0xb1]⟩ 1 none ∈ wAll := ⟨(wa_8 8 rfl rfl), (wa_1 29 rfl rfl), (wa_1 30 rfl rfl)⟩
theorem lv_X12_48 : Lv RX12 48 md_X12_at 1 := ⟨mk_of mk_X12_at, Or.inl (wa_4 125 rfl rfl), (wa_4 126 rfl rfl), (wa_4 127 rfl rfl)⟩
theorem ls_X12_55 : Ls RX12 55 md_X12_number 1 := ⟨mk_of mk_X12_number, Or.inl (wa_4 130 rfl rfl), (wa_4 131 rfl rfl)⟩
theorem lv_X12_72 : Lv RX12 72 md_X13_is 1 := ⟨mk_of mk_X13_is, Or.inl (wa_7 137 rfl rfl), (wa_7 138 rfl rfl), (wa_7 139 rfl rfl)⟩
theorem lv_X12_79 : Lv RX12 79 md_X12_put 2 := ⟨mk_of mk_X12_put, Or.inl (wa_7 133 rfl rfl), (wa_7 134 rfl rfl), (wa_7 135 rfl rfl)⟩
theorem lv_X12_113 : Lv RX12 113 md_X12_wipe 1 := ⟨mk_of mk_X12_wipe, Or.inl (wa_7 129 rfl rfl), (wa_7 130 rfl rfl), (wa_7 131 rfl rfl)⟩
theorem lv_X12_120 : Lv RX12 120 md_X12_spread 3 := ⟨mk_of mk_X12_spread, Or.inl (wa_7 141 rfl rfl), (wa_7 142 rfl rfl), (wa_7 143 rfl rfl)⟩
theorem lv_X12_133 : Lv RX12 133 md_X12_marked 1 := ⟨mk_of mk_X12_marked, Or.inl (wa_7 145 rfl rfl), (wa_7 146 rfl rfl), (wa_7 147 rfl rfl)⟩
theorem lv_X12_137 : Lv RX12 137 md_X12_words 1 := ⟨mk_of mk_X12_words, Or.inl (wa_4 94 rfl rfl), (wa_4 95 rfl rfl), (wa_4 96 rfl rfl)⟩
theorem lv_X12_140 : Lv RX12 140 md_X12_collect 1 := ⟨mk_of mk_X12_collect, Or.inl (wa_7 149 rfl rfl), (wa_7 150 rfl rfl), (wa_7 151 rfl rfl)⟩
theorem lv_X12_140R : Lv RX12 140 md_X12_collectR 1 := ⟨mk_of mk_X12_collectR, Or.inl (wa_7 149 rfl rfl), (wa_7 150 rfl rfl), (wa_7 151 rfl rfl)⟩
theorem lv_X12_117 : Lv RX12 117 md_X12_roots 1 := ⟨mk_of mk_X12_roots, Or.inl (wa_7 153 rfl rfl), (wa_7 154 rfl rfl), (wa_7 155 rfl rfl)⟩
theorem lv_X12_149 : Lv RX12 149 md_X12_loosen 1 := ⟨mk_of mk_X12_loosen, Or.inl (wa_7 157 rfl rfl), (wa_7 159 rfl rfl), (wp_4 3 rfl)⟩
theorem lv_X12_153 : Lv RX12 153 md_X12_age 1 := ⟨mk_of mk_X12_age, Or.inl (wa_7 161 rfl rfl), (wa_7 163 rfl rfl), (wp_4 4 rfl)⟩
theorem ls_X12_172 : Ls RX12 172 md_X12_row 1 := ⟨mk_of mk_X12_row, Or.inl (wa_7 232 rfl rfl), (wa_7 233 rfl rfl)⟩
theorem lv_X12_185 : Lv RX12 185 md_X12_toKeep 0 := ⟨mk_of mk_X12_toKeep, Or.inl (wa_7 125 rfl rfl), (wa_7 126 rfl rfl), (wa_7 127 rfl rfl)⟩
theorem lv_X12_189 : Lv RX12 189 md_X12_fits 1 := ⟨mk_of mk_X12_fits, Or.inl (wa_7 117 rfl rfl), (wa_7 118 rfl rfl), (wa_7 119 rfl rfl)⟩
theorem lv_X12_192 : Lv RX12 192 md_X12_end 0 := ⟨mk_of mk_X12_end, Or.inl (wa_7 121 rfl rfl), (wa_7 122 rfl rfl), (wa_7 123 rfl rfl)⟩
theorem lv_X12_195 : Lv RX12 195 md_X12_dueOfSlots 4 := ⟨mk_of mk_X12_dueOfSlots, Or.inl (wa_7 0 rfl rfl), (wa_7 2 rfl rfl), (wp_3 15 rfl)⟩
theorem lv_X12_199 : Lv RX12 199 md_X12_dueOfNew 4 := ⟨mk_of mk_X12_dueOfNew, Or.inl (wa_7 14 rfl rfl), (wa_7 16 rfl rfl), (wp_4 0 rfl)⟩
theorem lv_X12_202 : Lv RX12 202 md_X12_dueOfFields 4 := ⟨mk_of mk_X12_dueOfFields, Or.inl (wa_7 169 rfl rfl), (wa_7 171 rfl rfl), (wp_4 6 rfl)⟩
theorem lv_X12_205 : Lv RX12 205 md_X12_dueOfReferences 4 := ⟨mk_of mk_X12_dueOfReferences, Or.inl (wa_7 173 rfl rfl), (wa_7 175 rfl rfl), (wp_4 7 rfl)⟩
theorem lv_X12_208 : Lv RX12 208 md_X12_dueOfNets 3 := ⟨mk_of mk_X12_dueOfNets, Or.inl (wa_7 189 rfl rfl), (wa_7 191 rfl rfl), (wp_4 9 rfl)⟩
theorem lv_X12_212 : Lv RX12 212 md_X12_dueOfCollecting 2 := ⟨mk_of mk_X12_dueOfCollecting, Or.inl (wa_7 224 rfl rfl), (wa_7 226 rfl rfl), (wp_4 15 rfl)⟩
theorem lv_X12_219 : Lv RX12 219 md_X12_isSlot 1 := ⟨mk_of mk_X12_isSlot, Or.inl (wa_7 6 rfl rfl), (wa_7 7 rfl rfl), (wa_7 8 rfl rfl)⟩
theorem lv_X12_222 : Lv RX12 222 md_X12_hold 2 := ⟨mk_of mk_X12_hold, Or.inl (wa_7 10 rfl rfl), (wa_7 11 rfl rfl), (wa_7 12 rfl rfl)⟩
theorem nd_X12_7 : Nd RX12 7 13 := ⟨_, _, _, _, rfl, Or.inr rfl, cw_X13, tyX13_ok, (wa_7 4 rfl rfl), (wa_7 22 rfl rfl), (wa_1 22 rfl rfl), by decide +kernel⟩
theorem li_X12_226 : Li RX12 226 md_X13_init 5 := ⟨mk_of mk_X13_init, Or.inl (wa_7 23 rfl rfl), (wa_7 24 rfl rfl), rfl, rfl⟩
theorem lv_X12_229 : Lv RX12 229 md_X12_room 1 := ⟨mk_of mk_X12_room, Or.inl (wa_7 113 rfl rfl), (wa_7 114 rfl rfl), (wa_7 115 rfl rfl)⟩
theorem lv_X12_232 : Lv RX12 232 md_X12_add 2 := ⟨mk_of mk_X12_add, Or.inl (wa_7 165 rfl rfl), (wa_7 167 rfl rfl), (wp_4 5 rfl)⟩
theorem lv_X12_236 : Lv RX12 236 md_X12_plain 1 := ⟨mk_of mk_X12_plain, Or.inl (wa_7 18 rfl rfl), (wa_7 20 rfl rfl), (wp_4 1 rfl)⟩
theorem lv_X12_239 : Lv RX12 239 md_X12_born 2 := ⟨mk_of mk_X12_born, Or.inl (wa_7 109 rfl rfl), (wa_7 111 rfl rfl), (wp_4 2 rfl)⟩
theorem lv_X12_248 : Lv RX12 248 md_X12_form 1 := ⟨mk_of mk_X12_form, Or.inl (wa_4 134 rfl rfl), (wa_4 135 rfl rfl), (wa_4 136 rfl rfl)⟩
theorem lv_X12_250 : Lv RX12 250 md_X12_read 1 := ⟨mk_of mk_X12_read, Or.inl (wa_7 177 rfl rfl), (wa_7 178 rfl rfl), (wa_7 179 rfl rfl)⟩
theorem lv_X12_254 : Lv RX12 254 md_X12_dueOfTable 4 := ⟨mk_of mk_X12_dueOfTable, Or.inl (wa_7 181 rfl rfl), (wa_7 183 rfl rfl), (wp_4 8 rfl)⟩
theorem lv_X12_257 : Lv RX12 257 md_X13_entry 1 := ⟨mk_of mk_X13_entry, Or.inl (wa_7 185 rfl rfl), (wa_7 186 rfl rfl), (wa_7 187 rfl rfl)⟩
theorem lv_X12_260 : Lv RX12 260 md_X13_hasBytes 3 := ⟨mk_of mk_X13_hasBytes, Or.inl (wa_7 201 rfl rfl), (wa_7 202 rfl rfl), (wa_7 203 rfl rfl)⟩
theorem lv_X12_264 : Lv RX12 264 md_X12_dueOfChange 2 := ⟨mk_of mk_X12_dueOfChange, Or.inl (wa_7 193 rfl rfl), (wa_7 195 rfl rfl), (wp_4 10 rfl)⟩
theorem lv_X12_267 : Lv RX12 267 md_X12_only 3 := ⟨mk_of mk_X12_only, Or.inl (wa_7 197 rfl rfl), (wa_7 199 rfl rfl), (wp_4 11 rfl)⟩
theorem lv_X12_271 : Lv RX12 271 md_X12_copied 2 := ⟨mk_of mk_X12_copied, Or.inl (wa_7 205 rfl rfl), (wa_7 207 rfl rfl), (wp_4 12 rfl)⟩
theorem lv_X12_274 : Lv RX12 274 md_X12_written 1 := ⟨mk_of mk_X12_written, Or.inl (wa_7 209 rfl rfl), (wa_7 210 rfl rfl), (wa_7 211 rfl rfl)⟩
theorem lv_X12_278 : Lv RX12 278 md_X12_taken 1 := ⟨mk_of mk_X12_taken, Or.inl (wa_7 216 rfl rfl), (wa_7 218 rfl rfl), (wp_4 13 rfl)⟩
theorem ls_X12_287 : Ls RX12 287 md_X12_place 3 := ⟨mk_of mk_X12_place, Or.inl (wa_7 213 rfl rfl), (wa_7 214 rfl rfl)⟩
theorem lv_X12_291 : Lv RX12 291 md_X12_drawn 1 := ⟨mk_of mk_X12_drawn, Or.inl (wa_7 220 rfl rfl), (wa_7 222 rfl rfl), (wp_4 14 rfl)⟩
theorem lv_X12_294 : Lv RX12 294 md_X12_begin 0 := ⟨mk_of mk_X12_begin, Or.inl (wa_7 228 rfl rfl), (wa_7 229 rfl rfl), (wa_7 230 rfl rfl)⟩
theorem mn_X12_297 : Mnw RX12 297 := ⟨(wa_7 235 rfl rfl), (wa_6 230 rfl rfl), (wa_1 21 rfl rfl), (wa_6 231 rfl rfl)⟩
theorem lv_X12_302 : Lv RX12 302 md_X11_numberOf 1 := ⟨mk_X11_numberOf, Or.inl (wa_4 129 rfl rfl), (wa_3 151 rfl rfl), (wa_3 152 rfl rfl)⟩
theorem lv_X12_307 : Lv RX12 307 md_X11_formOf 1 := ⟨mk_X11_formOf, Or.inl (wa_4 133 rfl rfl), (wa_3 235 rfl rfl), (wa_3 236 rfl rfl)⟩
theorem lv_X12_310 : Lv RX12 310 md_X11_kindOf 1 := ⟨mk_X11_kindOf, Or.inl (wa_4 138 rfl rfl), (wa_3 239 rfl rfl), (wa_4 0 rfl rfl)⟩
theorem lv_X12_313 : Lv RX12 313 md_X11_lengthOf 1 := ⟨mk_X11_lengthOf, Or.inl (wa_4 139 rfl rfl), (wa_4 3 rfl rfl), (wa_4 4 rfl rfl)⟩
theorem lv_X12_316 : Lv RX12 316 md_X11_wordsOf 1 := ⟨mk_X11_wordsOf, Or.inl (wa_4 140 rfl rfl), (wa_4 7 rfl rfl), (wa_4 8 rfl rfl)⟩
theorem lv_X12_319 : Lv RX12 319 md_X11_ageOf 1 := ⟨mk_X11_ageOf, Or.inl (wa_4 141 rfl rfl), (wa_4 11 rfl rfl), (wa_4 12 rfl rfl)⟩
theorem lv_X12_322 : Lv RX12 322 md_X11_isOld 1 := ⟨mk_X11_isOld, Or.inl (wa_4 142 rfl rfl), (wa_4 15 rfl rfl), (wa_4 16 rfl rfl)⟩
theorem lv_X12_324 : Lv RX12 324 md_X11_isFinalized 1 := ⟨mk_X11_isFinalized, Or.inl (wa_4 143 rfl rfl), (wa_4 19 rfl rfl), (wa_4 20 rfl rfl)⟩
theorem lv_X12_326 : Lv RX12 326 md_X11_isInterned 1 := ⟨mk_X11_isInterned, Or.inl (wa_4 144 rfl rfl), (wa_4 23 rfl rfl), (wa_4 24 rfl rfl)⟩
theorem lv_X12_329 : Lv RX12 329 md_X11_isCleared 1 := ⟨mk_X11_isCleared, Or.inl (wa_4 145 rfl rfl), (wa_4 27 rfl rfl), (wa_4 28 rfl rfl)⟩
theorem lv_X12_332 : Lv RX12 332 md_X11_entriesOf 1 := ⟨mk_X11_entriesOf, Or.inl (wa_4 146 rfl rfl), (wa_4 39 rfl rfl), (wa_4 40 rfl rfl)⟩
theorem lv_X12_335 : Lv RX12 335 md_X13_entries 0 := ⟨mk_of mk_X13_entries, Or.inl (wa_4 147 rfl rfl), (wa_4 148 rfl rfl), (wa_4 149 rfl rfl)⟩
theorem lv_X12_338 : Lv RX12 338 md_X11_getNumber 2 := ⟨mk_X11_getNumber, Or.inl (wa_4 151 rfl rfl), (wa_4 152 rfl rfl), (wa_4 153 rfl rfl)⟩
theorem lv_X12_341 : Lv RX12 341 md_X11_getByte 2 := ⟨mk_X11_getByte, Or.inl (wa_4 179 rfl rfl), (wa_4 180 rfl rfl), (wa_4 181 rfl rfl)⟩
theorem lv_X12_344 : Lv RX12 344 md_X11_frames 0 := ⟨mk_X11_frames, Or.inl (wa_4 88 rfl rfl), (wa_3 15 rfl rfl), (wa_3 16 rfl rfl)⟩
theorem lv_X12_346 : Lv RX12 346 md_X11_slots 0 := ⟨mk_X11_slots, Or.inl (wa_4 89 rfl rfl), (wa_3 23 rfl rfl), (wa_3 24 rfl rfl)⟩
theorem lv_X12_349 : Lv RX12 349 md_X11_kinds 0 := ⟨mk_X11_kinds, Or.inl (wa_4 90 rfl rfl), (wa_3 31 rfl rfl), (wa_3 32 rfl rfl)⟩
theorem lv_X12_351 : Lv RX12 351 md_X11_objects 0 := ⟨mk_X11_objects, Or.inl (wa_4 91 rfl rfl), (wa_3 35 rfl rfl), (wa_3 36 rfl rfl)⟩
theorem lv_X12_354 : Lv RX12 354 md_X11_youngObjects 0 := ⟨mk_X11_youngObjects, Or.inl (wa_4 92 rfl rfl), (wa_3 39 rfl rfl), (wa_3 40 rfl rfl)⟩
theorem lv_X12_357 : Lv RX12 357 md_X11_youngWords 0 := ⟨mk_X11_youngWords, Or.inl (wa_4 93 rfl rfl), (wa_3 47 rfl rfl), (wa_3 48 rfl rfl)⟩
theorem lv_X12_360 : Lv RX12 360 md_X11_oldWords 0 := ⟨mk_X11_oldWords, Or.inl (wa_4 98 rfl rfl), (wa_3 51 rfl rfl), (wa_3 52 rfl rfl)⟩
theorem lv_X12_363 : Lv RX12 363 md_X11_made 0 := ⟨mk_X11_made, Or.inl (wa_4 99 rfl rfl), (wa_3 55 rfl rfl), (wa_3 56 rfl rfl)⟩
theorem lv_X12_365 : Lv RX12 365 md_X11_queued 0 := ⟨mk_X11_queued, Or.inl (wa_4 100 rfl rfl), (wa_3 59 rfl rfl), (wa_3 60 rfl rfl)⟩
theorem lv_X12_367 : Lv RX12 367 md_X11_lasts 0 := ⟨mk_X11_lasts, Or.inl (wa_4 101 rfl rfl), (wa_3 63 rfl rfl), (wa_3 64 rfl rfl)⟩
theorem lv_X12_369 : Lv RX12 369 md_X11_interned 0 := ⟨mk_X11_interned, Or.inl (wa_4 102 rfl rfl), (wa_3 67 rfl rfl), (wa_3 68 rfl rfl)⟩
theorem lv_X12_372 : Lv RX12 372 md_X11_youngCollections 0 := ⟨mk_X11_youngCollections, Or.inl (wa_4 103 rfl rfl), (wa_3 75 rfl rfl), (wa_3 76 rfl rfl)⟩
theorem lv_X12_375 : Lv RX12 375 md_X11_fullCollections 0 := ⟨mk_X11_fullCollections, Or.inl (wa_4 104 rfl rfl), (wa_3 79 rfl rfl), (wa_3 80 rfl rfl)⟩
theorem lv_X12_378 : Lv RX12 378 md_X11_isMarking 0 := ⟨mk_X11_isMarking, Or.inl (wa_4 105 rfl rfl), (wa_3 83 rfl rfl), (wa_3 84 rfl rfl)⟩
theorem lv_X12_381 : Lv RX12 381 md_X11_tenure 0 := ⟨mk_X11_tenure, Or.inl (wa_4 106 rfl rfl), (wa_3 87 rfl rfl), (wa_3 88 rfl rfl)⟩
theorem lv_X12_383 : Lv RX12 383 md_X11_imageLength 0 := ⟨mk_X11_imageLength, Or.inl (wa_4 107 rfl rfl), (wa_4 108 rfl rfl), (wa_4 109 rfl rfl)⟩
theorem lv_X12_386 : Lv RX12 386 md_X11_imageAt 1 := ⟨mk_X11_imageAt, Or.inl (wa_4 111 rfl rfl), (wa_4 112 rfl rfl), (wa_4 113 rfl rfl)⟩
theorem lv_X12_389 : Lv RX12 389 md_X12_isSameIn 2 := ⟨mk_of mk_X12_isSameIn, Or.inl (wa_4 120 rfl rfl), (wa_4 122 rfl rfl), (wp_1 10 rfl)⟩
theorem lv_X12_393 : Lv RX12 393 md_X11_globalNumber 1 := ⟨mk_X11_globalNumber, Or.inl (wa_4 188 rfl rfl), (wa_4 47 rfl rfl), (wa_4 48 rfl rfl)⟩
theorem lv_X12_396 : Lv RX12 396 md_X11_isPresent 1 := ⟨mk_X11_isPresent, Or.inl (wa_4 189 rfl rfl), (wa_4 190 rfl rfl), (wa_4 191 rfl rfl)⟩
theorem lv_X12_399 : Lv RX12 399 md_X11_flaws 0 := ⟨mk_X11_flaws, Or.inl (wa_4 197 rfl rfl), (wa_4 198 rfl rfl), (wa_4 199 rfl rfl)⟩
theorem lv_X12_402 : Lv RX12 402 md_X11_meanWords 0 := ⟨mk_X11_meanWords, Or.inl (wa_4 207 rfl rfl), (wa_4 208 rfl rfl), (wa_4 209 rfl rfl)⟩
theorem oi_X13_1 : Cond.methodLink RX13 1 Lib.objectInit ∈ wAll ∧ Cond.instanceMethod Lib.objectInit ∈ wAll ∧ Cond.code Lib.objectInit ⟨#[0xb1]⟩ 1 none ∈ wAll := ⟨(wa_7 26 rfl rfl), (wa_1 29 rfl rfl), (wa_1 30 rfl rfl)⟩
theorem lv_L_11 : Lv RL 11 md_X11_defineKind 4 := ⟨mk_X11_defineKind, Or.inl (wa_4 236 rfl rfl), (wa_4 237 rfl rfl), (wa_4 238 rfl rfl)⟩
theorem lm_L_11 : Cond.methodLink RL 11 yX11_defineKind ∈ wAll := (wa_4 236 rfl rfl)
theorem lv_L_17 : Lv RL 17 md_X11_push 1 := ⟨mk_X11_push, Or.inl (wa_5 38 rfl rfl), (wa_5 39 rfl rfl), (wa_5 40 rfl rfl)⟩
theorem lm_L_17 : Cond.methodLink RL 17 yX11_push ∈ wAll := (wa_5 38 rfl rfl)
theorem lv_L_21 : Lv RL 21 md_X11_pop 1 := ⟨mk_X11_pop, Or.inl (wa_5 45 rfl rfl), (wa_5 46 rfl rfl), (wa_5 47 rfl rfl)⟩
theorem lm_L_21 : Cond.methodLink RL 21 yX11_pop ∈ wAll := (wa_5 45 rfl rfl)
theorem lv_L_24 : Lv RL 24 md_X11_assign 2 := ⟨mk_X11_assign, Or.inl (wa_5 55 rfl rfl), (wa_5 56 rfl rfl), (wa_5 57 rfl rfl)⟩
theorem lm_L_24 : Cond.methodLink RL 24 yX11_assign ∈ wAll := (wa_5 55 rfl rfl)
theorem lv_L_28 : Lv RL 28 md_X11_clear 1 := ⟨mk_X11_clear, Or.inl (wa_5 63 rfl rfl), (wa_5 64 rfl rfl), (wa_5 65 rfl rfl)⟩
theorem lm_L_28 : Cond.methodLink RL 28 yX11_clear ∈ wAll := (wa_5 63 rfl rfl)
theorem lv_L_31 : Lv RL 31 md_X11_toGlobal 2 := ⟨mk_X11_toGlobal, Or.inl (wa_5 67 rfl rfl), (wa_5 68 rfl rfl), (wa_5 69 rfl rfl)⟩
theorem lm_L_31 : Cond.methodLink RL 31 yX11_toGlobal ∈ wAll := (wa_5 67 rfl rfl)
theorem lv_L_34 : Lv RL 34 md_X11_fromGlobal 2 := ⟨mk_X11_fromGlobal, Or.inl (wa_5 71 rfl rfl), (wa_5 72 rfl rfl), (wa_5 73 rfl rfl)⟩
theorem lm_L_34 : Cond.methodLink RL 34 yX11_fromGlobal ∈ wAll := (wa_5 71 rfl rfl)
theorem lv_L_37 : Lv RL 37 md_X11_newObject 2 := ⟨mk_X11_newObject, Or.inl (wa_5 75 rfl rfl), (wa_5 76 rfl rfl), (wa_5 77 rfl rfl)⟩
theorem lm_L_37 : Cond.methodLink RL 37 yX11_newObject ∈ wAll := (wa_5 75 rfl rfl)
theorem lv_L_40 : Lv RL 40 md_X11_newRow 2 := ⟨mk_X11_newRow, Or.inl (wa_5 180 rfl rfl), (wa_5 181 rfl rfl), (wa_5 182 rfl rfl)⟩
theorem lm_L_40 : Cond.methodLink RL 40 yX11_newRow ∈ wAll := (wa_5 180 rfl rfl)
theorem lv_L_43 : Lv RL 43 md_X11_newText 2 := ⟨mk_X11_newText, Or.inl (wa_5 189 rfl rfl), (wa_5 190 rfl rfl), (wa_5 191 rfl rfl)⟩
theorem lm_L_43 : Cond.methodLink RL 43 yX11_newText ∈ wAll := (wa_5 189 rfl rfl)
theorem lv_L_46 : Lv RL 46 md_X11_newWeak 3 := ⟨mk_X11_newWeak, Or.inl (wa_5 193 rfl rfl), (wa_5 194 rfl rfl), (wa_5 195 rfl rfl)⟩
theorem lm_L_46 : Cond.methodLink RL 46 yX11_newWeak ∈ wAll := (wa_5 193 rfl rfl)
theorem lv_L_50 : Lv RL 50 md_X11_newSoft 3 := ⟨mk_X11_newSoft, Or.inl (wa_5 207 rfl rfl), (wa_5 208 rfl rfl), (wa_5 209 rfl rfl)⟩
theorem lm_L_50 : Cond.methodLink RL 50 yX11_newSoft ∈ wAll := (wa_5 207 rfl rfl)
theorem lv_L_53 : Lv RL 53 md_X11_newPhantom 2 := ⟨mk_X11_newPhantom, Or.inl (wa_5 211 rfl rfl), (wa_5 212 rfl rfl), (wa_5 213 rfl rfl)⟩
theorem lm_L_53 : Cond.methodLink RL 53 yX11_newPhantom ∈ wAll := (wa_5 211 rfl rfl)
theorem lv_L_56 : Lv RL 56 md_X11_newTable 2 := ⟨mk_X11_newTable, Or.inl (wa_5 215 rfl rfl), (wa_5 216 rfl rfl), (wa_5 217 rfl rfl)⟩
theorem lm_L_56 : Cond.methodLink RL 56 yX11_newTable ∈ wAll := (wa_5 215 rfl rfl)
theorem lv_L_59 : Lv RL 59 md_X11_load 3 := ⟨mk_X11_load, Or.inl (wa_5 219 rfl rfl), (wa_5 220 rfl rfl), (wa_5 221 rfl rfl)⟩
theorem lm_L_59 : Cond.methodLink RL 59 yX11_load ∈ wAll := (wa_5 219 rfl rfl)
theorem lv_L_63 : Lv RL 63 md_X11_store 3 := ⟨mk_X11_store, Or.inl (wa_5 229 rfl rfl), (wa_5 230 rfl rfl), (wa_5 231 rfl rfl)⟩
theorem lm_L_63 : Cond.methodLink RL 63 yX11_store ∈ wAll := (wa_5 229 rfl rfl)
theorem lv_L_66 : Lv RL 66 md_X11_getNumber 2 := ⟨mk_X11_getNumber, Or.inl (wa_5 233 rfl rfl), (wa_4 152 rfl rfl), (wa_4 153 rfl rfl)⟩
theorem lm_L_66 : Cond.methodLink RL 66 yX11_getNumber ∈ wAll := (wa_5 233 rfl rfl)
theorem lv_L_69 : Lv RL 69 md_X11_setNumber 3 := ⟨mk_X11_setNumber, Or.inl (wa_5 234 rfl rfl), (wa_5 235 rfl rfl), (wa_5 236 rfl rfl)⟩
theorem lm_L_69 : Cond.methodLink RL 69 yX11_setNumber ∈ wAll := (wa_5 234 rfl rfl)
theorem lv_L_72 : Lv RL 72 md_X11_getByte 2 := ⟨mk_X11_getByte, Or.inl (wa_5 238 rfl rfl), (wa_4 180 rfl rfl), (wa_4 181 rfl rfl)⟩
theorem lm_L_72 : Cond.methodLink RL 72 yX11_getByte ∈ wAll := (wa_5 238 rfl rfl)
theorem lv_L_75 : Lv RL 75 md_X11_setByte 3 := ⟨mk_X11_setByte, Or.inl (wa_5 239 rfl rfl), (wa_6 0 rfl rfl), (wa_6 1 rfl rfl)⟩
theorem lm_L_75 : Cond.methodLink RL 75 yX11_setByte ∈ wAll := (wa_5 239 rfl rfl)
theorem lv_L_78 : Lv RL 78 md_X11_read 2 := ⟨mk_X11_read, Or.inl (wa_6 4 rfl rfl), (wa_6 5 rfl rfl), (wa_6 6 rfl rfl)⟩
theorem lm_L_78 : Cond.methodLink RL 78 yX11_read ∈ wAll := (wa_6 4 rfl rfl)
theorem lv_L_81 : Lv RL 81 md_X11_refersTo 2 := ⟨mk_X11_refersTo, Or.inl (wa_6 19 rfl rfl), (wa_6 20 rfl rfl), (wa_6 21 rfl rfl)⟩
theorem lm_L_81 : Cond.methodLink RL 81 yX11_refersTo ∈ wAll := (wa_6 19 rfl rfl)
theorem lv_L_85 : Lv RL 85 md_X11_forget 1 := ⟨mk_X11_forget, Or.inl (wa_6 23 rfl rfl), (wa_6 24 rfl rfl), (wa_6 25 rfl rfl)⟩
theorem lm_L_85 : Cond.methodLink RL 85 yX11_forget ∈ wAll := (wa_6 23 rfl rfl)
theorem lv_L_89 : Lv RL 89 md_X11_poll 1 := ⟨mk_X11_poll, Or.inl (wa_6 27 rfl rfl), (wa_6 28 rfl rfl), (wa_6 29 rfl rfl)⟩
theorem lm_L_89 : Cond.methodLink RL 89 yX11_poll ∈ wAll := (wa_6 27 rfl rfl)
theorem lv_L_92 : Lv RL 92 md_X11_takeLast 1 := ⟨mk_X11_takeLast, Or.inl (wa_6 40 rfl rfl), (wa_6 41 rfl rfl), (wa_6 42 rfl rfl)⟩
theorem lm_L_92 : Cond.methodLink RL 92 yX11_takeLast ∈ wAll := (wa_6 40 rfl rfl)
theorem lv_L_95 : Lv RL 95 md_X11_put 3 := ⟨mk_X11_put, Or.inl (wa_6 44 rfl rfl), (wa_6 45 rfl rfl), (wa_6 46 rfl rfl)⟩
theorem lm_L_95 : Cond.methodLink RL 95 yX11_put ∈ wAll := (wa_6 44 rfl rfl)
theorem lv_L_99 : Lv RL 99 md_X11_get 3 := ⟨mk_X11_get, Or.inl (wa_6 58 rfl rfl), (wa_6 59 rfl rfl), (wa_6 60 rfl rfl)⟩
theorem lm_L_99 : Cond.methodLink RL 99 yX11_get ∈ wAll := (wa_6 58 rfl rfl)
theorem lv_L_102 : Lv RL 102 md_X11_remove 2 := ⟨mk_X11_remove, Or.inl (wa_6 62 rfl rfl), (wa_6 63 rfl rfl), (wa_6 64 rfl rfl)⟩
theorem lm_L_102 : Cond.methodLink RL 102 yX11_remove ∈ wAll := (wa_6 62 rfl rfl)
theorem lv_L_105 : Lv RL 105 md_X11_intern 2 := ⟨mk_X11_intern, Or.inl (wa_6 66 rfl rfl), (wa_6 67 rfl rfl), (wa_6 68 rfl rfl)⟩
theorem lm_L_105 : Cond.methodLink RL 105 yX11_intern ∈ wAll := (wa_6 66 rfl rfl)
theorem lv_L_108 : Lv RL 108 md_X11_deepCopy 2 := ⟨mk_X11_deepCopy, Or.inl (wa_6 79 rfl rfl), (wa_6 80 rfl rfl), (wa_6 81 rfl rfl)⟩
theorem lm_L_108 : Cond.methodLink RL 108 yX11_deepCopy ∈ wAll := (wa_6 79 rfl rfl)
theorem lv_L_111 : Lv RL 111 md_X11_writeImage 1 := ⟨mk_X11_writeImage, Or.inl (wa_6 115 rfl rfl), (wa_6 116 rfl rfl), (wa_6 117 rfl rfl)⟩
theorem lm_L_111 : Cond.methodLink RL 111 yX11_writeImage ∈ wAll := (wa_6 115 rfl rfl)
theorem lv_L_114 : Lv RL 114 md_X11_setImage 2 := ⟨mk_X11_setImage, Or.inl (wa_6 135 rfl rfl), (wa_6 136 rfl rfl), (wa_6 137 rfl rfl)⟩
theorem lm_L_114 : Cond.methodLink RL 114 yX11_setImage ∈ wAll := (wa_6 135 rfl rfl)
theorem lv_L_117 : Lv RL 117 md_X11_readImage 1 := ⟨mk_X11_readImage, Or.inl (wa_6 139 rfl rfl), (wa_6 140 rfl rfl), (wa_6 141 rfl rfl)⟩
theorem lm_L_117 : Cond.methodLink RL 117 yX11_readImage ∈ wAll := (wa_6 139 rfl rfl)
theorem lv_L_120 : Lv RL 120 md_X11_setTenure 1 := ⟨mk_X11_setTenure, Or.inl (wa_6 191 rfl rfl), (wa_6 192 rfl rfl), (wa_6 193 rfl rfl)⟩
theorem lm_L_120 : Cond.methodLink RL 120 yX11_setTenure ∈ wAll := (wa_6 191 rfl rfl)
theorem lv_L_123 : Lv RL 123 md_X11_collectYoung 0 := ⟨mk_X11_collectYoung, Or.inl (wa_6 195 rfl rfl), (wa_6 196 rfl rfl), (wa_6 197 rfl rfl)⟩
theorem lm_L_123 : Cond.methodLink RL 123 yX11_collectYoung ∈ wAll := (wa_6 195 rfl rfl)
theorem lv_L_127 : Lv RL 127 md_X11_collectAll 1 := ⟨mk_X11_collectAll, Or.inl (wa_6 205 rfl rfl), (wa_6 206 rfl rfl), (wa_6 207 rfl rfl)⟩
theorem lm_L_127 : Cond.methodLink RL 127 yX11_collectAll ∈ wAll := (wa_6 205 rfl rfl)
theorem lv_L_131 : Lv RL 131 md_X11_beginMarking 0 := ⟨mk_X11_beginMarking, Or.inl (wa_6 209 rfl rfl), (wa_6 210 rfl rfl), (wa_6 211 rfl rfl)⟩
theorem lm_L_131 : Cond.methodLink RL 131 yX11_beginMarking ∈ wAll := (wa_6 209 rfl rfl)
theorem lv_L_134 : Lv RL 134 md_X11_step 1 := ⟨mk_X11_step, Or.inl (wa_6 220 rfl rfl), (wa_6 221 rfl rfl), (wa_6 222 rfl rfl)⟩
theorem lm_L_134 : Cond.methodLink RL 134 yX11_step ∈ wAll := (wa_6 220 rfl rfl)
theorem lw_L_143 : MkU md_L_told hh_told 5 ∧ Cond.methodLink RL 143 md_L_told.1 ∈ wAll ∧ Cond.static md_L_told.1 ∈ wAll := ⟨mk_L_told, (wa_4 230 rfl rfl), (wa_4 231 rfl rfl)⟩
theorem lv_L_149 : Lv RL 149 md_X12_due 4 := ⟨mk_of mk_X12_due, Or.inl (wa_6 236 rfl rfl), (wa_6 237 rfl rfl), (wa_6 238 rfl rfl)⟩
theorem lm_L_149 : Cond.methodLink RL 149 yX12_due ∈ wAll := (wa_6 236 rfl rfl)
theorem lv_L_163 : Lv RL 163 md_X12_form 1 := ⟨mk_of mk_X12_form, Or.inl (wa_7 239 rfl rfl), (wa_4 135 rfl rfl), (wa_4 136 rfl rfl)⟩
theorem lm_L_163 : Cond.methodLink RL 163 yX12_form ∈ wAll := (wa_7 239 rfl rfl)
theorem ls_L_166 : Ls RL 166 md_L_mix 1 := ⟨mk_of mk_L_mix, Or.inl (wa_4 219 rfl rfl), (wa_4 220 rfl rfl)⟩
theorem ls_L_169 : Ls RL 169 md_L_below 2 := ⟨mk_of mk_L_below, Or.inl (wa_4 211 rfl rfl), (wa_4 212 rfl rfl)⟩
theorem ls_L_175 : Ls RL 175 md_L_does 6 := ⟨mk_of mk_L_does, Or.inl (wa_4 227 rfl rfl), (wa_4 228 rfl rfl)⟩
theorem ls_L_183 : Ls RL 183 md_L_slotOf 4 := ⟨mk_of mk_L_slotOf, Or.inl (wa_7 236 rfl rfl), (wa_7 237 rfl rfl)⟩
theorem lv_L_187 : Lv RL 187 md_X12_at 1 := ⟨mk_of mk_X12_at, Or.inl (wa_8 0 rfl rfl), (wa_4 126 rfl rfl), (wa_4 127 rfl rfl)⟩
theorem lm_L_187 : Cond.methodLink RL 187 yX12_at ∈ wAll := (wa_8 0 rfl rfl)
theorem nd_L_150 : Nd RL 150 12 := ⟨_, _, _, _, rfl, Or.inl rfl, cw_X12, tyX12_ok, (wa_8 4 rfl rfl), (wa_4 123 rfl rfl), (wa_1 13 rfl rfl), by decide +kernel⟩
theorem li_L_204 : Li RL 204 md_X12_init 0 := ⟨mk_of mk_X12_init, Or.inl (wa_8 5 rfl rfl), (wa_8 6 rfl rfl), rfl, rfl⟩
theorem ls_L_205 : Ls RL 205 md_L_cell 2 := ⟨mk_of mk_L_cell, Or.inl (wa_4 215 rfl rfl), (wa_4 216 rfl rfl)⟩
theorem ls_L_209 : Ls RL 209 md_L_act 3 := ⟨mk_of mk_L_act, Or.inl (wa_4 224 rfl rfl), (wa_4 225 rfl rfl)⟩
theorem lv_L_213 : Lv RL 213 md_X11_made 0 := ⟨mk_X11_made, Or.inl (wa_8 85 rfl rfl), (wa_3 55 rfl rfl), (wa_3 56 rfl rfl)⟩
theorem lm_L_213 : Cond.methodLink RL 213 yX11_made ∈ wAll := (wa_8 85 rfl rfl)
theorem lv_L_216 : Lv RL 216 md_X11_isReached 1 := ⟨mk_X11_isReached, Or.inl (wa_8 87 rfl rfl), (wa_8 88 rfl rfl), (wa_8 89 rfl rfl)⟩
theorem lm_L_216 : Cond.methodLink RL 216 yX11_isReached ∈ wAll := (wa_8 87 rfl rfl)
theorem lv_L_219 : Lv RL 219 md_X11_isPresent 1 := ⟨mk_X11_isPresent, Or.inl (wa_8 86 rfl rfl), (wa_4 190 rfl rfl), (wa_4 191 rfl rfl)⟩
theorem lm_L_219 : Cond.methodLink RL 219 yX11_isPresent ∈ wAll := (wa_8 86 rfl rfl)
theorem lv_L_222 : Lv RL 222 md_X11_distance 1 := ⟨mk_X11_distance, Or.inl (wa_8 91 rfl rfl), (wa_8 92 rfl rfl), (wa_8 93 rfl rfl)⟩
theorem lm_L_222 : Cond.methodLink RL 222 yX11_distance ∈ wAll := (wa_8 91 rfl rfl)
theorem lv_L_225 : Lv RL 225 md_X11_youngWords 0 := ⟨mk_X11_youngWords, Or.inl (wa_8 95 rfl rfl), (wa_3 47 rfl rfl), (wa_3 48 rfl rfl)⟩
theorem lm_L_225 : Cond.methodLink RL 225 yX11_youngWords ∈ wAll := (wa_8 95 rfl rfl)
theorem lv_L_228 : Lv RL 228 md_X11_oldWords 0 := ⟨mk_X11_oldWords, Or.inl (wa_8 96 rfl rfl), (wa_3 51 rfl rfl), (wa_3 52 rfl rfl)⟩
theorem lm_L_228 : Cond.methodLink RL 228 yX11_oldWords ∈ wAll := (wa_8 96 rfl rfl)
theorem lv_L_231 : Lv RL 231 md_X11_heaviest 0 := ⟨mk_X11_heaviest, Or.inl (wa_8 97 rfl rfl), (wa_8 98 rfl rfl), (wa_8 99 rfl rfl)⟩
theorem lm_L_231 : Cond.methodLink RL 231 yX11_heaviest ∈ wAll := (wa_8 97 rfl rfl)
theorem lv_L_234 : Lv RL 234 md_X11_objects 0 := ⟨mk_X11_objects, Or.inl (wa_8 109 rfl rfl), (wa_3 35 rfl rfl), (wa_3 36 rfl rfl)⟩
theorem lm_L_234 : Cond.methodLink RL 234 yX11_objects ∈ wAll := (wa_8 109 rfl rfl)
theorem lv_L_237 : Lv RL 237 md_X11_youngObjects 0 := ⟨mk_X11_youngObjects, Or.inl (wa_8 110 rfl rfl), (wa_3 39 rfl rfl), (wa_3 40 rfl rfl)⟩
theorem lm_L_237 : Cond.methodLink RL 237 yX11_youngObjects ∈ wAll := (wa_8 110 rfl rfl)
theorem lv_L_240 : Lv RL 240 md_X11_interned 0 := ⟨mk_X11_interned, Or.inl (wa_8 111 rfl rfl), (wa_3 67 rfl rfl), (wa_3 68 rfl rfl)⟩
theorem lm_L_240 : Cond.methodLink RL 240 yX11_interned ∈ wAll := (wa_8 111 rfl rfl)
theorem lv_L_243 : Lv RL 243 md_X11_queued 0 := ⟨mk_X11_queued, Or.inl (wa_8 112 rfl rfl), (wa_3 59 rfl rfl), (wa_3 60 rfl rfl)⟩
theorem lm_L_243 : Cond.methodLink RL 243 yX11_queued ∈ wAll := (wa_8 112 rfl rfl)
theorem lv_L_246 : Lv RL 246 md_X11_lasts 0 := ⟨mk_X11_lasts, Or.inl (wa_8 113 rfl rfl), (wa_3 63 rfl rfl), (wa_3 64 rfl rfl)⟩
theorem lm_L_246 : Cond.methodLink RL 246 yX11_lasts ∈ wAll := (wa_8 113 rfl rfl)
theorem lv_L_249 : Lv RL 249 md_X11_meanWords 0 := ⟨mk_X11_meanWords, Or.inl (wa_8 114 rfl rfl), (wa_4 208 rfl rfl), (wa_4 209 rfl rfl)⟩
theorem lm_L_249 : Cond.methodLink RL 249 yX11_meanWords ∈ wAll := (wa_8 114 rfl rfl)
theorem lv_L_253 : Lv RL 253 md_X11_wouldRemove 1 := ⟨mk_X11_wouldRemove, Or.inl (wa_8 115 rfl rfl), (wa_3 91 rfl rfl), (wa_3 92 rfl rfl)⟩
theorem lm_L_253 : Cond.methodLink RL 253 yX11_wouldRemove ∈ wAll := (wa_8 115 rfl rfl)
theorem ls_L_256 : Ls RL 256 md_L_areSlotsSound 3 := ⟨mk_of mk_L_areSlotsSound, Or.inl (wa_8 116 rfl rfl), (wa_8 117 rfl rfl)⟩
theorem lv_L_260 : Lv RL 260 md_X11_slots 0 := ⟨mk_X11_slots, Or.inl (wa_8 119 rfl rfl), (wa_3 23 rfl rfl), (wa_3 24 rfl rfl)⟩
theorem lm_L_260 : Cond.methodLink RL 260 yX11_slots ∈ wAll := (wa_8 119 rfl rfl)
theorem lv_L_263 : Lv RL 263 md_X11_numberOf 1 := ⟨mk_X11_numberOf, Or.inl (wa_8 120 rfl rfl), (wa_3 151 rfl rfl), (wa_3 152 rfl rfl)⟩
theorem lm_L_263 : Cond.methodLink RL 263 yX11_numberOf ∈ wAll := (wa_8 120 rfl rfl)
theorem lv_L_266 : Lv RL 266 md_X11_retained 1 := ⟨mk_X11_retained, Or.inl (wa_8 121 rfl rfl), (wa_8 122 rfl rfl), (wa_8 123 rfl rfl)⟩
theorem lm_L_266 : Cond.methodLink RL 266 yX11_retained ∈ wAll := (wa_8 121 rfl rfl)
theorem lv_L_269 : Lv RL 269 md_X11_formOf 1 := ⟨mk_X11_formOf, Or.inl (wa_8 126 rfl rfl), (wa_3 235 rfl rfl), (wa_3 236 rfl rfl)⟩
theorem lm_L_269 : Cond.methodLink RL 269 yX11_formOf ∈ wAll := (wa_8 126 rfl rfl)
theorem lv_L_272 : Lv RL 272 md_X11_wordsOf 1 := ⟨mk_X11_wordsOf, Or.inl (wa_8 127 rfl rfl), (wa_4 7 rfl rfl), (wa_4 8 rfl rfl)⟩
theorem lm_L_272 : Cond.methodLink RL 272 yX11_wordsOf ∈ wAll := (wa_8 127 rfl rfl)
theorem lv_L_275 : Lv RL 275 md_X11_isOld 1 := ⟨mk_X11_isOld, Or.inl (wa_8 128 rfl rfl), (wa_4 15 rfl rfl), (wa_4 16 rfl rfl)⟩
theorem lm_L_275 : Cond.methodLink RL 275 yX11_isOld ∈ wAll := (wa_8 128 rfl rfl)
theorem lv_L_278 : Lv RL 278 md_X11_isInterned 1 := ⟨mk_X11_isInterned, Or.inl (wa_8 129 rfl rfl), (wa_4 23 rfl rfl), (wa_4 24 rfl rfl)⟩
theorem lm_L_278 : Cond.methodLink RL 278 yX11_isInterned ∈ wAll := (wa_8 129 rfl rfl)
theorem lv_L_281 : Lv RL 281 md_X11_isCleared 1 := ⟨mk_X11_isCleared, Or.inl (wa_8 130 rfl rfl), (wa_4 27 rfl rfl), (wa_4 28 rfl rfl)⟩
theorem lm_L_281 : Cond.methodLink RL 281 yX11_isCleared ∈ wAll := (wa_8 130 rfl rfl)
theorem lv_L_284 : Lv RL 284 md_X11_kindOf 1 := ⟨mk_X11_kindOf, Or.inl (wa_8 131 rfl rfl), (wa_3 239 rfl rfl), (wa_4 0 rfl rfl)⟩
theorem lm_L_284 : Cond.methodLink RL 284 yX11_kindOf ∈ wAll := (wa_8 131 rfl rfl)
theorem lv_L_287 : Lv RL 287 md_X11_isFinalized 1 := ⟨mk_X11_isFinalized, Or.inl (wa_8 132 rfl rfl), (wa_4 19 rfl rfl), (wa_4 20 rfl rfl)⟩
theorem lm_L_287 : Cond.methodLink RL 287 yX11_isFinalized ∈ wAll := (wa_8 132 rfl rfl)
theorem lv_L_290 : Lv RL 290 md_X11_isFinal 1 := ⟨mk_X11_isFinal, Or.inl (wa_8 133 rfl rfl), (wa_8 134 rfl rfl), (wa_8 135 rfl rfl)⟩
theorem lm_L_290 : Cond.methodLink RL 290 yX11_isFinal ∈ wAll := (wa_8 133 rfl rfl)
theorem lv_L_293 : Lv RL 293 md_X11_entriesOf 1 := ⟨mk_X11_entriesOf, Or.inl (wa_8 137 rfl rfl), (wa_4 39 rfl rfl), (wa_4 40 rfl rfl)⟩
theorem lm_L_293 : Cond.methodLink RL 293 yX11_entriesOf ∈ wAll := (wa_8 137 rfl rfl)
theorem lv_L_296 : Lv RL 296 md_X11_lengthOf 1 := ⟨mk_X11_lengthOf, Or.inl (wa_8 138 rfl rfl), (wa_4 3 rfl rfl), (wa_4 4 rfl rfl)⟩
theorem lm_L_296 : Cond.methodLink RL 296 yX11_lengthOf ∈ wAll := (wa_8 138 rfl rfl)
theorem lv_L_299 : Lv RL 299 md_X11_onCircle 1 := ⟨mk_X11_onCircle, Or.inl (wa_8 139 rfl rfl), (wa_8 140 rfl rfl), (wa_8 141 rfl rfl)⟩
theorem lm_L_299 : Cond.methodLink RL 299 yX11_onCircle ∈ wAll := (wa_8 139 rfl rfl)
theorem lv_L_302 : Lv RL 302 md_X11_referrers 1 := ⟨mk_X11_referrers, Or.inl (wa_8 148 rfl rfl), (wa_8 149 rfl rfl), (wa_8 150 rfl rfl)⟩
theorem lm_L_302 : Cond.methodLink RL 302 yX11_referrers ∈ wAll := (wa_8 148 rfl rfl)
theorem lv_L_305 : Lv RL 305 md_X11_sameShape 2 := ⟨mk_X11_sameShape, Or.inl (wa_8 156 rfl rfl), (wa_8 157 rfl rfl), (wa_8 158 rfl rfl)⟩
theorem lm_L_305 : Cond.methodLink RL 305 yX11_sameShape ∈ wAll := (wa_8 156 rfl rfl)
theorem lv_L_308 : Lv RL 308 md_X11_youngCollections 0 := ⟨mk_X11_youngCollections, Or.inl (wa_8 180 rfl rfl), (wa_3 75 rfl rfl), (wa_3 76 rfl rfl)⟩
theorem lm_L_308 : Cond.methodLink RL 308 yX11_youngCollections ∈ wAll := (wa_8 180 rfl rfl)
theorem lv_L_311 : Lv RL 311 md_X11_fullCollections 0 := ⟨mk_X11_fullCollections, Or.inl (wa_8 181 rfl rfl), (wa_3 79 rfl rfl), (wa_3 80 rfl rfl)⟩
theorem lm_L_311 : Cond.methodLink RL 311 yX11_fullCollections ∈ wAll := (wa_8 181 rfl rfl)
theorem lv_L_314 : Lv RL 314 md_X12_collect 1 := ⟨mk_of mk_X12_collect, Or.inl (wa_8 182 rfl rfl), (wa_7 150 rfl rfl), (wa_7 151 rfl rfl)⟩
theorem lv_L_314R : Lv RL 314 md_X12_collectR 1 := ⟨mk_of mk_X12_collectR, Or.inl (wa_8 182 rfl rfl), (wa_7 150 rfl rfl), (wa_7 151 rfl rfl)⟩
theorem lm_L_314 : Cond.methodLink RL 314 yX12_collect ∈ wAll := (wa_8 182 rfl rfl)
theorem ls_L_317 : Ls RL 317 md_L_reached 1 := ⟨mk_of mk_L_reached, Or.inl (wa_8 183 rfl rfl), (wa_8 184 rfl rfl)⟩
theorem lv_L_321 : Lv RL 321 md_X12_begin 0 := ⟨mk_of mk_X12_begin, Or.inl (wa_8 189 rfl rfl), (wa_7 229 rfl rfl), (wa_7 230 rfl rfl)⟩
theorem lm_L_321 : Cond.methodLink RL 321 yX12_begin ∈ wAll := (wa_8 189 rfl rfl)
theorem lv_L_324 : Lv RL 324 md_X11_isMarking 0 := ⟨mk_X11_isMarking, Or.inl (wa_8 190 rfl rfl), (wa_3 83 rfl rfl), (wa_3 84 rfl rfl)⟩
theorem lm_L_324 : Cond.methodLink RL 324 yX11_isMarking ∈ wAll := (wa_8 190 rfl rfl)
theorem ls_L_328 : Ls RL 328 md_L_build 3 := ⟨mk_of mk_L_build, Or.inl (wa_8 1 rfl rfl), (wa_8 2 rfl rfl)⟩
theorem lv_L_332 : Lv RL 332 md_X11_digest 0 := ⟨mk_X11_digest, Or.inl (wa_3 5 rfl rfl), (wa_3 6 rfl rfl), (wa_3 7 rfl rfl)⟩
theorem lm_L_332 : Cond.methodLink RL 332 yX11_digest ∈ wAll := (wa_3 5 rfl rfl)
theorem ls_L_336 : Ls RL 336 md_L_isSound 1 := ⟨mk_of mk_L_isSound, Or.inl (wa_8 82 rfl rfl), (wa_8 83 rfl rfl)⟩
theorem ls_L_340 : Ls RL 340 md_L_isCollected 3 := ⟨mk_of mk_L_isCollected, Or.inl (wa_8 177 rfl rfl), (wa_8 178 rfl rfl)⟩
theorem ls_L_343 : Ls RL 343 md_L_isMarked 3 := ⟨mk_of mk_L_isMarked, Or.inl (wa_8 186 rfl rfl), (wa_8 187 rfl rfl)⟩
theorem lv_L_346 : Lv RL 346 md_X12_isSame 1 := ⟨mk_of mk_X12_isSame, Or.inl (wa_4 84 rfl rfl), (wa_4 85 rfl rfl), (wa_4 86 rfl rfl)⟩
theorem lm_L_346 : Cond.methodLink RL 346 yX12_isSame ∈ wAll := (wa_4 84 rfl rfl)
def HnT (E : String) (pc : Nat) (b1 b2 : Bool) (z : Nat × Nat × Nat × Nat) : Bool := !(covers ⟨z.1, z.2.1, z.2.2.1, z.2.2.2⟩ pc) || (z.2.2.2 == 137 && b1) || (z.2.2.2 == 139 && b2)
theorem pre_told {E : String} {pc i : Nat} (b1 b2 : Bool) (h : (hh_told.take i).all (HnT E pc b1 b2) = true) (h1 : b1 = true → NcP E "java/lang/IndexOutOfBoundsException") (h2 : b2 = true → NcP E "java/lang/IllegalArgumentException") : ∀ z ∈ hh_told.take i, covers ⟨z.1, z.2.1, z.2.2.1, z.2.2.2⟩ pc = false ∨ (z.2.2.2 ≠ 0 ∧ ∃ nm, Cond.classLink RL z.2.2.2 nm ∈ wAll ∧ NcP E nm) := by
  intro z hz
  have h3 := List.all_eq_true.mp h z hz
  unfold HnT at h3
  simp only [Bool.or_eq_true, Bool.and_eq_true, Bool.not_eq_true', beq_iff_eq] at h3
  rcases h3 with (h3 | ⟨h3, h4⟩) | ⟨h3, h4⟩
  · exact Or.inl h3
  · exact Or.inr ⟨by omega, _, by rw [h3]; exact (wa_4 233 rfl rfl), h1 h4⟩
  · exact Or.inr ⟨by omega, _, by rw [h3]; exact (wa_4 234 rfl rfl), h2 h4⟩
theorem hnd_told_184_0 : HndU RL hh_told 184 "java/lang/IndexOutOfBoundsException" 507 := ⟨0, (0, 187, 507, 137), rfl, pre_told false false (by decide) (fun z => by cases z) (fun z => by cases z), by decide, by decide, (wa_4 233 rfl rfl), wn_3 160 rfl rfl, rfl⟩
theorem hnd_told_184_1 : HndU RL hh_told 184 "java/lang/IllegalArgumentException" 513 := ⟨38, (0, 187, 513, 139), rfl, pre_told true false (by decide) (fun _ => Or.inl ⟨rfl, rfl⟩) (fun z => by cases z), by decide, by decide, (wa_4 234 rfl rfl), wn_4 165 rfl rfl, rfl⟩
theorem hnd_told_184_2 : HndU RL hh_told 184 "java/lang/IllegalStateException" 519 := ⟨76, (0, 187, 519, 141), rfl, pre_told true true (by decide) (fun _ => Or.inr (Or.inl ⟨rfl, rfl⟩)) (fun _ => Or.inr (Or.inr ⟨rfl, rfl⟩)), by decide, by decide, (wa_4 235 rfl rfl), wn_5 18 rfl rfl, rfl⟩
theorem hnd_told_190_0 : HndU RL hh_told 190 "java/lang/IndexOutOfBoundsException" 507 := ⟨1, (188, 193, 507, 137), rfl, pre_told false false (by decide) (fun z => by cases z) (fun z => by cases z), by decide, by decide, (wa_4 233 rfl rfl), wn_3 160 rfl rfl, rfl⟩
theorem hnd_told_190_1 : HndU RL hh_told 190 "java/lang/IllegalArgumentException" 513 := ⟨39, (188, 193, 513, 139), rfl, pre_told true false (by decide) (fun _ => Or.inl ⟨rfl, rfl⟩) (fun z => by cases z), by decide, by decide, (wa_4 234 rfl rfl), wn_4 165 rfl rfl, rfl⟩
theorem hnd_told_190_2 : HndU RL hh_told 190 "java/lang/IllegalStateException" 519 := ⟨77, (188, 193, 519, 141), rfl, pre_told true true (by decide) (fun _ => Or.inr (Or.inl ⟨rfl, rfl⟩)) (fun _ => Or.inr (Or.inr ⟨rfl, rfl⟩)), by decide, by decide, (wa_4 235 rfl rfl), wn_5 18 rfl rfl, rfl⟩
theorem hnd_told_196_0 : HndU RL hh_told 196 "java/lang/IndexOutOfBoundsException" 507 := ⟨2, (194, 199, 507, 137), rfl, pre_told false false (by decide) (fun z => by cases z) (fun z => by cases z), by decide, by decide, (wa_4 233 rfl rfl), wn_3 160 rfl rfl, rfl⟩
theorem hnd_told_196_1 : HndU RL hh_told 196 "java/lang/IllegalArgumentException" 513 := ⟨40, (194, 199, 513, 139), rfl, pre_told true false (by decide) (fun _ => Or.inl ⟨rfl, rfl⟩) (fun z => by cases z), by decide, by decide, (wa_4 234 rfl rfl), wn_4 165 rfl rfl, rfl⟩
theorem hnd_told_196_2 : HndU RL hh_told 196 "java/lang/IllegalStateException" 519 := ⟨78, (194, 199, 519, 141), rfl, pre_told true true (by decide) (fun _ => Or.inr (Or.inl ⟨rfl, rfl⟩)) (fun _ => Or.inr (Or.inr ⟨rfl, rfl⟩)), by decide, by decide, (wa_4 235 rfl rfl), wn_5 18 rfl rfl, rfl⟩
theorem hnd_told_203_0 : HndU RL hh_told 203 "java/lang/IndexOutOfBoundsException" 507 := ⟨3, (200, 206, 507, 137), rfl, pre_told false false (by decide) (fun z => by cases z) (fun z => by cases z), by decide, by decide, (wa_4 233 rfl rfl), wn_3 160 rfl rfl, rfl⟩
theorem hnd_told_203_1 : HndU RL hh_told 203 "java/lang/IllegalArgumentException" 513 := ⟨41, (200, 206, 513, 139), rfl, pre_told true false (by decide) (fun _ => Or.inl ⟨rfl, rfl⟩) (fun z => by cases z), by decide, by decide, (wa_4 234 rfl rfl), wn_4 165 rfl rfl, rfl⟩
theorem hnd_told_203_2 : HndU RL hh_told 203 "java/lang/IllegalStateException" 519 := ⟨79, (200, 206, 519, 141), rfl, pre_told true true (by decide) (fun _ => Or.inr (Or.inl ⟨rfl, rfl⟩)) (fun _ => Or.inr (Or.inr ⟨rfl, rfl⟩)), by decide, by decide, (wa_4 235 rfl rfl), wn_5 18 rfl rfl, rfl⟩
theorem hnd_told_209_0 : HndU RL hh_told 209 "java/lang/IndexOutOfBoundsException" 507 := ⟨4, (207, 212, 507, 137), rfl, pre_told false false (by decide) (fun z => by cases z) (fun z => by cases z), by decide, by decide, (wa_4 233 rfl rfl), wn_3 160 rfl rfl, rfl⟩
theorem hnd_told_209_1 : HndU RL hh_told 209 "java/lang/IllegalArgumentException" 513 := ⟨42, (207, 212, 513, 139), rfl, pre_told true false (by decide) (fun _ => Or.inl ⟨rfl, rfl⟩) (fun z => by cases z), by decide, by decide, (wa_4 234 rfl rfl), wn_4 165 rfl rfl, rfl⟩
theorem hnd_told_209_2 : HndU RL hh_told 209 "java/lang/IllegalStateException" 519 := ⟨80, (207, 212, 519, 141), rfl, pre_told true true (by decide) (fun _ => Or.inr (Or.inl ⟨rfl, rfl⟩)) (fun _ => Or.inr (Or.inr ⟨rfl, rfl⟩)), by decide, by decide, (wa_4 235 rfl rfl), wn_5 18 rfl rfl, rfl⟩
theorem hnd_told_216_0 : HndU RL hh_told 216 "java/lang/IndexOutOfBoundsException" 507 := ⟨5, (213, 219, 507, 137), rfl, pre_told false false (by decide) (fun z => by cases z) (fun z => by cases z), by decide, by decide, (wa_4 233 rfl rfl), wn_3 160 rfl rfl, rfl⟩
theorem hnd_told_216_1 : HndU RL hh_told 216 "java/lang/IllegalArgumentException" 513 := ⟨43, (213, 219, 513, 139), rfl, pre_told true false (by decide) (fun _ => Or.inl ⟨rfl, rfl⟩) (fun z => by cases z), by decide, by decide, (wa_4 234 rfl rfl), wn_4 165 rfl rfl, rfl⟩
theorem hnd_told_216_2 : HndU RL hh_told 216 "java/lang/IllegalStateException" 519 := ⟨81, (213, 219, 519, 141), rfl, pre_told true true (by decide) (fun _ => Or.inr (Or.inl ⟨rfl, rfl⟩)) (fun _ => Or.inr (Or.inr ⟨rfl, rfl⟩)), by decide, by decide, (wa_4 235 rfl rfl), wn_5 18 rfl rfl, rfl⟩
theorem hnd_told_223_0 : HndU RL hh_told 223 "java/lang/IndexOutOfBoundsException" 507 := ⟨6, (220, 226, 507, 137), rfl, pre_told false false (by decide) (fun z => by cases z) (fun z => by cases z), by decide, by decide, (wa_4 233 rfl rfl), wn_3 160 rfl rfl, rfl⟩
theorem hnd_told_223_1 : HndU RL hh_told 223 "java/lang/IllegalArgumentException" 513 := ⟨44, (220, 226, 513, 139), rfl, pre_told true false (by decide) (fun _ => Or.inl ⟨rfl, rfl⟩) (fun z => by cases z), by decide, by decide, (wa_4 234 rfl rfl), wn_4 165 rfl rfl, rfl⟩
theorem hnd_told_223_2 : HndU RL hh_told 223 "java/lang/IllegalStateException" 519 := ⟨82, (220, 226, 519, 141), rfl, pre_told true true (by decide) (fun _ => Or.inr (Or.inl ⟨rfl, rfl⟩)) (fun _ => Or.inr (Or.inr ⟨rfl, rfl⟩)), by decide, by decide, (wa_4 235 rfl rfl), wn_5 18 rfl rfl, rfl⟩
theorem hnd_told_230_0 : HndU RL hh_told 230 "java/lang/IndexOutOfBoundsException" 507 := ⟨7, (227, 233, 507, 137), rfl, pre_told false false (by decide) (fun z => by cases z) (fun z => by cases z), by decide, by decide, (wa_4 233 rfl rfl), wn_3 160 rfl rfl, rfl⟩
theorem hnd_told_230_1 : HndU RL hh_told 230 "java/lang/IllegalArgumentException" 513 := ⟨45, (227, 233, 513, 139), rfl, pre_told true false (by decide) (fun _ => Or.inl ⟨rfl, rfl⟩) (fun z => by cases z), by decide, by decide, (wa_4 234 rfl rfl), wn_4 165 rfl rfl, rfl⟩
theorem hnd_told_230_2 : HndU RL hh_told 230 "java/lang/IllegalStateException" 519 := ⟨83, (227, 233, 519, 141), rfl, pre_told true true (by decide) (fun _ => Or.inr (Or.inl ⟨rfl, rfl⟩)) (fun _ => Or.inr (Or.inr ⟨rfl, rfl⟩)), by decide, by decide, (wa_4 235 rfl rfl), wn_5 18 rfl rfl, rfl⟩
theorem hnd_told_237_0 : HndU RL hh_told 237 "java/lang/IndexOutOfBoundsException" 507 := ⟨8, (234, 240, 507, 137), rfl, pre_told false false (by decide) (fun z => by cases z) (fun z => by cases z), by decide, by decide, (wa_4 233 rfl rfl), wn_3 160 rfl rfl, rfl⟩
theorem hnd_told_237_1 : HndU RL hh_told 237 "java/lang/IllegalArgumentException" 513 := ⟨46, (234, 240, 513, 139), rfl, pre_told true false (by decide) (fun _ => Or.inl ⟨rfl, rfl⟩) (fun z => by cases z), by decide, by decide, (wa_4 234 rfl rfl), wn_4 165 rfl rfl, rfl⟩
theorem hnd_told_237_2 : HndU RL hh_told 237 "java/lang/IllegalStateException" 519 := ⟨84, (234, 240, 519, 141), rfl, pre_told true true (by decide) (fun _ => Or.inr (Or.inl ⟨rfl, rfl⟩)) (fun _ => Or.inr (Or.inr ⟨rfl, rfl⟩)), by decide, by decide, (wa_4 235 rfl rfl), wn_5 18 rfl rfl, rfl⟩
theorem hnd_told_244_0 : HndU RL hh_told 244 "java/lang/IndexOutOfBoundsException" 507 := ⟨9, (241, 247, 507, 137), rfl, pre_told false false (by decide) (fun z => by cases z) (fun z => by cases z), by decide, by decide, (wa_4 233 rfl rfl), wn_3 160 rfl rfl, rfl⟩
theorem hnd_told_244_1 : HndU RL hh_told 244 "java/lang/IllegalArgumentException" 513 := ⟨47, (241, 247, 513, 139), rfl, pre_told true false (by decide) (fun _ => Or.inl ⟨rfl, rfl⟩) (fun z => by cases z), by decide, by decide, (wa_4 234 rfl rfl), wn_4 165 rfl rfl, rfl⟩
theorem hnd_told_244_2 : HndU RL hh_told 244 "java/lang/IllegalStateException" 519 := ⟨85, (241, 247, 519, 141), rfl, pre_told true true (by decide) (fun _ => Or.inr (Or.inl ⟨rfl, rfl⟩)) (fun _ => Or.inr (Or.inr ⟨rfl, rfl⟩)), by decide, by decide, (wa_4 235 rfl rfl), wn_5 18 rfl rfl, rfl⟩
theorem hnd_told_262_0 : HndU RL hh_told 262 "java/lang/IndexOutOfBoundsException" 507 := ⟨10, (248, 265, 507, 137), rfl, pre_told false false (by decide) (fun z => by cases z) (fun z => by cases z), by decide, by decide, (wa_4 233 rfl rfl), wn_3 160 rfl rfl, rfl⟩
theorem hnd_told_262_1 : HndU RL hh_told 262 "java/lang/IllegalArgumentException" 513 := ⟨48, (248, 265, 513, 139), rfl, pre_told true false (by decide) (fun _ => Or.inl ⟨rfl, rfl⟩) (fun z => by cases z), by decide, by decide, (wa_4 234 rfl rfl), wn_4 165 rfl rfl, rfl⟩
theorem hnd_told_262_2 : HndU RL hh_told 262 "java/lang/IllegalStateException" 519 := ⟨86, (248, 265, 519, 141), rfl, pre_told true true (by decide) (fun _ => Or.inr (Or.inl ⟨rfl, rfl⟩)) (fun _ => Or.inr (Or.inr ⟨rfl, rfl⟩)), by decide, by decide, (wa_4 235 rfl rfl), wn_5 18 rfl rfl, rfl⟩
theorem hnd_told_280_0 : HndU RL hh_told 280 "java/lang/IndexOutOfBoundsException" 507 := ⟨11, (266, 283, 507, 137), rfl, pre_told false false (by decide) (fun z => by cases z) (fun z => by cases z), by decide, by decide, (wa_4 233 rfl rfl), wn_3 160 rfl rfl, rfl⟩
theorem hnd_told_280_1 : HndU RL hh_told 280 "java/lang/IllegalArgumentException" 513 := ⟨49, (266, 283, 513, 139), rfl, pre_told true false (by decide) (fun _ => Or.inl ⟨rfl, rfl⟩) (fun z => by cases z), by decide, by decide, (wa_4 234 rfl rfl), wn_4 165 rfl rfl, rfl⟩
theorem hnd_told_280_2 : HndU RL hh_told 280 "java/lang/IllegalStateException" 519 := ⟨87, (266, 283, 519, 141), rfl, pre_told true true (by decide) (fun _ => Or.inr (Or.inl ⟨rfl, rfl⟩)) (fun _ => Or.inr (Or.inr ⟨rfl, rfl⟩)), by decide, by decide, (wa_4 235 rfl rfl), wn_5 18 rfl rfl, rfl⟩
theorem hnd_told_287_0 : HndU RL hh_told 287 "java/lang/IndexOutOfBoundsException" 507 := ⟨12, (284, 290, 507, 137), rfl, pre_told false false (by decide) (fun z => by cases z) (fun z => by cases z), by decide, by decide, (wa_4 233 rfl rfl), wn_3 160 rfl rfl, rfl⟩
theorem hnd_told_287_1 : HndU RL hh_told 287 "java/lang/IllegalArgumentException" 513 := ⟨50, (284, 290, 513, 139), rfl, pre_told true false (by decide) (fun _ => Or.inl ⟨rfl, rfl⟩) (fun z => by cases z), by decide, by decide, (wa_4 234 rfl rfl), wn_4 165 rfl rfl, rfl⟩
theorem hnd_told_287_2 : HndU RL hh_told 287 "java/lang/IllegalStateException" 519 := ⟨88, (284, 290, 519, 141), rfl, pre_told true true (by decide) (fun _ => Or.inr (Or.inl ⟨rfl, rfl⟩)) (fun _ => Or.inr (Or.inr ⟨rfl, rfl⟩)), by decide, by decide, (wa_4 235 rfl rfl), wn_5 18 rfl rfl, rfl⟩
theorem hnd_told_294_0 : HndU RL hh_told 294 "java/lang/IndexOutOfBoundsException" 507 := ⟨13, (291, 297, 507, 137), rfl, pre_told false false (by decide) (fun z => by cases z) (fun z => by cases z), by decide, by decide, (wa_4 233 rfl rfl), wn_3 160 rfl rfl, rfl⟩
theorem hnd_told_294_1 : HndU RL hh_told 294 "java/lang/IllegalArgumentException" 513 := ⟨51, (291, 297, 513, 139), rfl, pre_told true false (by decide) (fun _ => Or.inl ⟨rfl, rfl⟩) (fun z => by cases z), by decide, by decide, (wa_4 234 rfl rfl), wn_4 165 rfl rfl, rfl⟩
theorem hnd_told_294_2 : HndU RL hh_told 294 "java/lang/IllegalStateException" 519 := ⟨89, (291, 297, 519, 141), rfl, pre_told true true (by decide) (fun _ => Or.inr (Or.inl ⟨rfl, rfl⟩)) (fun _ => Or.inr (Or.inr ⟨rfl, rfl⟩)), by decide, by decide, (wa_4 235 rfl rfl), wn_5 18 rfl rfl, rfl⟩
theorem hnd_told_303_0 : HndU RL hh_told 303 "java/lang/IndexOutOfBoundsException" 507 := ⟨14, (298, 306, 507, 137), rfl, pre_told false false (by decide) (fun z => by cases z) (fun z => by cases z), by decide, by decide, (wa_4 233 rfl rfl), wn_3 160 rfl rfl, rfl⟩
theorem hnd_told_303_1 : HndU RL hh_told 303 "java/lang/IllegalArgumentException" 513 := ⟨52, (298, 306, 513, 139), rfl, pre_told true false (by decide) (fun _ => Or.inl ⟨rfl, rfl⟩) (fun z => by cases z), by decide, by decide, (wa_4 234 rfl rfl), wn_4 165 rfl rfl, rfl⟩
theorem hnd_told_303_2 : HndU RL hh_told 303 "java/lang/IllegalStateException" 519 := ⟨90, (298, 306, 519, 141), rfl, pre_told true true (by decide) (fun _ => Or.inr (Or.inl ⟨rfl, rfl⟩)) (fun _ => Or.inr (Or.inr ⟨rfl, rfl⟩)), by decide, by decide, (wa_4 235 rfl rfl), wn_5 18 rfl rfl, rfl⟩
theorem hnd_told_312_0 : HndU RL hh_told 312 "java/lang/IndexOutOfBoundsException" 507 := ⟨15, (307, 315, 507, 137), rfl, pre_told false false (by decide) (fun z => by cases z) (fun z => by cases z), by decide, by decide, (wa_4 233 rfl rfl), wn_3 160 rfl rfl, rfl⟩
theorem hnd_told_312_1 : HndU RL hh_told 312 "java/lang/IllegalArgumentException" 513 := ⟨53, (307, 315, 513, 139), rfl, pre_told true false (by decide) (fun _ => Or.inl ⟨rfl, rfl⟩) (fun z => by cases z), by decide, by decide, (wa_4 234 rfl rfl), wn_4 165 rfl rfl, rfl⟩
theorem hnd_told_312_2 : HndU RL hh_told 312 "java/lang/IllegalStateException" 519 := ⟨91, (307, 315, 519, 141), rfl, pre_told true true (by decide) (fun _ => Or.inr (Or.inl ⟨rfl, rfl⟩)) (fun _ => Or.inr (Or.inr ⟨rfl, rfl⟩)), by decide, by decide, (wa_4 235 rfl rfl), wn_5 18 rfl rfl, rfl⟩
theorem hnd_told_319_0 : HndU RL hh_told 319 "java/lang/IndexOutOfBoundsException" 507 := ⟨16, (316, 322, 507, 137), rfl, pre_told false false (by decide) (fun z => by cases z) (fun z => by cases z), by decide, by decide, (wa_4 233 rfl rfl), wn_3 160 rfl rfl, rfl⟩
theorem hnd_told_319_1 : HndU RL hh_told 319 "java/lang/IllegalArgumentException" 513 := ⟨54, (316, 322, 513, 139), rfl, pre_told true false (by decide) (fun _ => Or.inl ⟨rfl, rfl⟩) (fun z => by cases z), by decide, by decide, (wa_4 234 rfl rfl), wn_4 165 rfl rfl, rfl⟩
theorem hnd_told_319_2 : HndU RL hh_told 319 "java/lang/IllegalStateException" 519 := ⟨92, (316, 322, 519, 141), rfl, pre_told true true (by decide) (fun _ => Or.inr (Or.inl ⟨rfl, rfl⟩)) (fun _ => Or.inr (Or.inr ⟨rfl, rfl⟩)), by decide, by decide, (wa_4 235 rfl rfl), wn_5 18 rfl rfl, rfl⟩
theorem hnd_told_328_0 : HndU RL hh_told 328 "java/lang/IndexOutOfBoundsException" 507 := ⟨17, (323, 331, 507, 137), rfl, pre_told false false (by decide) (fun z => by cases z) (fun z => by cases z), by decide, by decide, (wa_4 233 rfl rfl), wn_3 160 rfl rfl, rfl⟩
theorem hnd_told_328_1 : HndU RL hh_told 328 "java/lang/IllegalArgumentException" 513 := ⟨55, (323, 331, 513, 139), rfl, pre_told true false (by decide) (fun _ => Or.inl ⟨rfl, rfl⟩) (fun z => by cases z), by decide, by decide, (wa_4 234 rfl rfl), wn_4 165 rfl rfl, rfl⟩
theorem hnd_told_328_2 : HndU RL hh_told 328 "java/lang/IllegalStateException" 519 := ⟨93, (323, 331, 519, 141), rfl, pre_told true true (by decide) (fun _ => Or.inr (Or.inl ⟨rfl, rfl⟩)) (fun _ => Or.inr (Or.inr ⟨rfl, rfl⟩)), by decide, by decide, (wa_4 235 rfl rfl), wn_5 18 rfl rfl, rfl⟩
theorem hnd_told_335_0 : HndU RL hh_told 335 "java/lang/IndexOutOfBoundsException" 507 := ⟨18, (332, 338, 507, 137), rfl, pre_told false false (by decide) (fun z => by cases z) (fun z => by cases z), by decide, by decide, (wa_4 233 rfl rfl), wn_3 160 rfl rfl, rfl⟩
theorem hnd_told_335_1 : HndU RL hh_told 335 "java/lang/IllegalArgumentException" 513 := ⟨56, (332, 338, 513, 139), rfl, pre_told true false (by decide) (fun _ => Or.inl ⟨rfl, rfl⟩) (fun z => by cases z), by decide, by decide, (wa_4 234 rfl rfl), wn_4 165 rfl rfl, rfl⟩
theorem hnd_told_335_2 : HndU RL hh_told 335 "java/lang/IllegalStateException" 519 := ⟨94, (332, 338, 519, 141), rfl, pre_told true true (by decide) (fun _ => Or.inr (Or.inl ⟨rfl, rfl⟩)) (fun _ => Or.inr (Or.inr ⟨rfl, rfl⟩)), by decide, by decide, (wa_4 235 rfl rfl), wn_5 18 rfl rfl, rfl⟩
theorem hnd_told_344_0 : HndU RL hh_told 344 "java/lang/IndexOutOfBoundsException" 507 := ⟨19, (339, 347, 507, 137), rfl, pre_told false false (by decide) (fun z => by cases z) (fun z => by cases z), by decide, by decide, (wa_4 233 rfl rfl), wn_3 160 rfl rfl, rfl⟩
theorem hnd_told_344_1 : HndU RL hh_told 344 "java/lang/IllegalArgumentException" 513 := ⟨57, (339, 347, 513, 139), rfl, pre_told true false (by decide) (fun _ => Or.inl ⟨rfl, rfl⟩) (fun z => by cases z), by decide, by decide, (wa_4 234 rfl rfl), wn_4 165 rfl rfl, rfl⟩
theorem hnd_told_344_2 : HndU RL hh_told 344 "java/lang/IllegalStateException" 519 := ⟨95, (339, 347, 519, 141), rfl, pre_told true true (by decide) (fun _ => Or.inr (Or.inl ⟨rfl, rfl⟩)) (fun _ => Or.inr (Or.inr ⟨rfl, rfl⟩)), by decide, by decide, (wa_4 235 rfl rfl), wn_5 18 rfl rfl, rfl⟩
theorem hnd_told_351_0 : HndU RL hh_told 351 "java/lang/IndexOutOfBoundsException" 507 := ⟨20, (348, 354, 507, 137), rfl, pre_told false false (by decide) (fun z => by cases z) (fun z => by cases z), by decide, by decide, (wa_4 233 rfl rfl), wn_3 160 rfl rfl, rfl⟩
theorem hnd_told_351_1 : HndU RL hh_told 351 "java/lang/IllegalArgumentException" 513 := ⟨58, (348, 354, 513, 139), rfl, pre_told true false (by decide) (fun _ => Or.inl ⟨rfl, rfl⟩) (fun z => by cases z), by decide, by decide, (wa_4 234 rfl rfl), wn_4 165 rfl rfl, rfl⟩
theorem hnd_told_351_2 : HndU RL hh_told 351 "java/lang/IllegalStateException" 519 := ⟨96, (348, 354, 519, 141), rfl, pre_told true true (by decide) (fun _ => Or.inr (Or.inl ⟨rfl, rfl⟩)) (fun _ => Or.inr (Or.inr ⟨rfl, rfl⟩)), by decide, by decide, (wa_4 235 rfl rfl), wn_5 18 rfl rfl, rfl⟩
theorem hnd_told_358_0 : HndU RL hh_told 358 "java/lang/IndexOutOfBoundsException" 507 := ⟨21, (355, 369, 507, 137), rfl, pre_told false false (by decide) (fun z => by cases z) (fun z => by cases z), by decide, by decide, (wa_4 233 rfl rfl), wn_3 160 rfl rfl, rfl⟩
theorem hnd_told_358_1 : HndU RL hh_told 358 "java/lang/IllegalArgumentException" 513 := ⟨59, (355, 369, 513, 139), rfl, pre_told true false (by decide) (fun _ => Or.inl ⟨rfl, rfl⟩) (fun z => by cases z), by decide, by decide, (wa_4 234 rfl rfl), wn_4 165 rfl rfl, rfl⟩
theorem hnd_told_358_2 : HndU RL hh_told 358 "java/lang/IllegalStateException" 519 := ⟨97, (355, 369, 519, 141), rfl, pre_told true true (by decide) (fun _ => Or.inr (Or.inl ⟨rfl, rfl⟩)) (fun _ => Or.inr (Or.inr ⟨rfl, rfl⟩)), by decide, by decide, (wa_4 235 rfl rfl), wn_5 18 rfl rfl, rfl⟩
theorem hnd_told_372_0 : HndU RL hh_told 372 "java/lang/IndexOutOfBoundsException" 507 := ⟨22, (370, 383, 507, 137), rfl, pre_told false false (by decide) (fun z => by cases z) (fun z => by cases z), by decide, by decide, (wa_4 233 rfl rfl), wn_3 160 rfl rfl, rfl⟩
theorem hnd_told_372_1 : HndU RL hh_told 372 "java/lang/IllegalArgumentException" 513 := ⟨60, (370, 383, 513, 139), rfl, pre_told true false (by decide) (fun _ => Or.inl ⟨rfl, rfl⟩) (fun z => by cases z), by decide, by decide, (wa_4 234 rfl rfl), wn_4 165 rfl rfl, rfl⟩
theorem hnd_told_372_2 : HndU RL hh_told 372 "java/lang/IllegalStateException" 519 := ⟨98, (370, 383, 519, 141), rfl, pre_told true true (by decide) (fun _ => Or.inr (Or.inl ⟨rfl, rfl⟩)) (fun _ => Or.inr (Or.inr ⟨rfl, rfl⟩)), by decide, by decide, (wa_4 235 rfl rfl), wn_5 18 rfl rfl, rfl⟩
theorem hnd_told_386_0 : HndU RL hh_told 386 "java/lang/IndexOutOfBoundsException" 507 := ⟨23, (384, 389, 507, 137), rfl, pre_told false false (by decide) (fun z => by cases z) (fun z => by cases z), by decide, by decide, (wa_4 233 rfl rfl), wn_3 160 rfl rfl, rfl⟩
theorem hnd_told_386_1 : HndU RL hh_told 386 "java/lang/IllegalArgumentException" 513 := ⟨61, (384, 389, 513, 139), rfl, pre_told true false (by decide) (fun _ => Or.inl ⟨rfl, rfl⟩) (fun z => by cases z), by decide, by decide, (wa_4 234 rfl rfl), wn_4 165 rfl rfl, rfl⟩
theorem hnd_told_386_2 : HndU RL hh_told 386 "java/lang/IllegalStateException" 519 := ⟨99, (384, 389, 519, 141), rfl, pre_told true true (by decide) (fun _ => Or.inr (Or.inl ⟨rfl, rfl⟩)) (fun _ => Or.inr (Or.inr ⟨rfl, rfl⟩)), by decide, by decide, (wa_4 235 rfl rfl), wn_5 18 rfl rfl, rfl⟩
theorem hnd_told_392_0 : HndU RL hh_told 392 "java/lang/IndexOutOfBoundsException" 507 := ⟨24, (390, 395, 507, 137), rfl, pre_told false false (by decide) (fun z => by cases z) (fun z => by cases z), by decide, by decide, (wa_4 233 rfl rfl), wn_3 160 rfl rfl, rfl⟩
theorem hnd_told_392_1 : HndU RL hh_told 392 "java/lang/IllegalArgumentException" 513 := ⟨62, (390, 395, 513, 139), rfl, pre_told true false (by decide) (fun _ => Or.inl ⟨rfl, rfl⟩) (fun z => by cases z), by decide, by decide, (wa_4 234 rfl rfl), wn_4 165 rfl rfl, rfl⟩
theorem hnd_told_392_2 : HndU RL hh_told 392 "java/lang/IllegalStateException" 519 := ⟨100, (390, 395, 519, 141), rfl, pre_told true true (by decide) (fun _ => Or.inr (Or.inl ⟨rfl, rfl⟩)) (fun _ => Or.inr (Or.inr ⟨rfl, rfl⟩)), by decide, by decide, (wa_4 235 rfl rfl), wn_5 18 rfl rfl, rfl⟩
theorem hnd_told_401_0 : HndU RL hh_told 401 "java/lang/IndexOutOfBoundsException" 507 := ⟨25, (396, 412, 507, 137), rfl, pre_told false false (by decide) (fun z => by cases z) (fun z => by cases z), by decide, by decide, (wa_4 233 rfl rfl), wn_3 160 rfl rfl, rfl⟩
theorem hnd_told_401_1 : HndU RL hh_told 401 "java/lang/IllegalArgumentException" 513 := ⟨63, (396, 412, 513, 139), rfl, pre_told true false (by decide) (fun _ => Or.inl ⟨rfl, rfl⟩) (fun z => by cases z), by decide, by decide, (wa_4 234 rfl rfl), wn_4 165 rfl rfl, rfl⟩
theorem hnd_told_401_2 : HndU RL hh_told 401 "java/lang/IllegalStateException" 519 := ⟨101, (396, 412, 519, 141), rfl, pre_told true true (by decide) (fun _ => Or.inr (Or.inl ⟨rfl, rfl⟩)) (fun _ => Or.inr (Or.inr ⟨rfl, rfl⟩)), by decide, by decide, (wa_4 235 rfl rfl), wn_5 18 rfl rfl, rfl⟩
theorem hnd_told_418_0 : HndU RL hh_told 418 "java/lang/IndexOutOfBoundsException" 507 := ⟨26, (413, 421, 507, 137), rfl, pre_told false false (by decide) (fun z => by cases z) (fun z => by cases z), by decide, by decide, (wa_4 233 rfl rfl), wn_3 160 rfl rfl, rfl⟩
theorem hnd_told_418_1 : HndU RL hh_told 418 "java/lang/IllegalArgumentException" 513 := ⟨64, (413, 421, 513, 139), rfl, pre_told true false (by decide) (fun _ => Or.inl ⟨rfl, rfl⟩) (fun z => by cases z), by decide, by decide, (wa_4 234 rfl rfl), wn_4 165 rfl rfl, rfl⟩
theorem hnd_told_418_2 : HndU RL hh_told 418 "java/lang/IllegalStateException" 519 := ⟨102, (413, 421, 519, 141), rfl, pre_told true true (by decide) (fun _ => Or.inr (Or.inl ⟨rfl, rfl⟩)) (fun _ => Or.inr (Or.inr ⟨rfl, rfl⟩)), by decide, by decide, (wa_4 235 rfl rfl), wn_5 18 rfl rfl, rfl⟩
theorem hnd_told_425_0 : HndU RL hh_told 425 "java/lang/IndexOutOfBoundsException" 507 := ⟨27, (422, 436, 507, 137), rfl, pre_told false false (by decide) (fun z => by cases z) (fun z => by cases z), by decide, by decide, (wa_4 233 rfl rfl), wn_3 160 rfl rfl, rfl⟩
theorem hnd_told_425_1 : HndU RL hh_told 425 "java/lang/IllegalArgumentException" 513 := ⟨65, (422, 436, 513, 139), rfl, pre_told true false (by decide) (fun _ => Or.inl ⟨rfl, rfl⟩) (fun z => by cases z), by decide, by decide, (wa_4 234 rfl rfl), wn_4 165 rfl rfl, rfl⟩
theorem hnd_told_425_2 : HndU RL hh_told 425 "java/lang/IllegalStateException" 519 := ⟨103, (422, 436, 519, 141), rfl, pre_told true true (by decide) (fun _ => Or.inr (Or.inl ⟨rfl, rfl⟩)) (fun _ => Or.inr (Or.inr ⟨rfl, rfl⟩)), by decide, by decide, (wa_4 235 rfl rfl), wn_5 18 rfl rfl, rfl⟩
theorem hnd_told_440_0 : HndU RL hh_told 440 "java/lang/IndexOutOfBoundsException" 507 := ⟨28, (437, 443, 507, 137), rfl, pre_told false false (by decide) (fun z => by cases z) (fun z => by cases z), by decide, by decide, (wa_4 233 rfl rfl), wn_3 160 rfl rfl, rfl⟩
theorem hnd_told_440_1 : HndU RL hh_told 440 "java/lang/IllegalArgumentException" 513 := ⟨66, (437, 443, 513, 139), rfl, pre_told true false (by decide) (fun _ => Or.inl ⟨rfl, rfl⟩) (fun z => by cases z), by decide, by decide, (wa_4 234 rfl rfl), wn_4 165 rfl rfl, rfl⟩
theorem hnd_told_440_2 : HndU RL hh_told 440 "java/lang/IllegalStateException" 519 := ⟨104, (437, 443, 519, 141), rfl, pre_told true true (by decide) (fun _ => Or.inr (Or.inl ⟨rfl, rfl⟩)) (fun _ => Or.inr (Or.inr ⟨rfl, rfl⟩)), by decide, by decide, (wa_4 235 rfl rfl), wn_5 18 rfl rfl, rfl⟩
theorem hnd_told_447_0 : HndU RL hh_told 447 "java/lang/IndexOutOfBoundsException" 507 := ⟨29, (444, 450, 507, 137), rfl, pre_told false false (by decide) (fun z => by cases z) (fun z => by cases z), by decide, by decide, (wa_4 233 rfl rfl), wn_3 160 rfl rfl, rfl⟩
theorem hnd_told_447_1 : HndU RL hh_told 447 "java/lang/IllegalArgumentException" 513 := ⟨67, (444, 450, 513, 139), rfl, pre_told true false (by decide) (fun _ => Or.inl ⟨rfl, rfl⟩) (fun z => by cases z), by decide, by decide, (wa_4 234 rfl rfl), wn_4 165 rfl rfl, rfl⟩
theorem hnd_told_447_2 : HndU RL hh_told 447 "java/lang/IllegalStateException" 519 := ⟨105, (444, 450, 519, 141), rfl, pre_told true true (by decide) (fun _ => Or.inr (Or.inl ⟨rfl, rfl⟩)) (fun _ => Or.inr (Or.inr ⟨rfl, rfl⟩)), by decide, by decide, (wa_4 235 rfl rfl), wn_5 18 rfl rfl, rfl⟩
theorem hnd_told_453_0 : HndU RL hh_told 453 "java/lang/IndexOutOfBoundsException" 507 := ⟨30, (451, 456, 507, 137), rfl, pre_told false false (by decide) (fun z => by cases z) (fun z => by cases z), by decide, by decide, (wa_4 233 rfl rfl), wn_3 160 rfl rfl, rfl⟩
theorem hnd_told_453_1 : HndU RL hh_told 453 "java/lang/IllegalArgumentException" 513 := ⟨68, (451, 456, 513, 139), rfl, pre_told true false (by decide) (fun _ => Or.inl ⟨rfl, rfl⟩) (fun z => by cases z), by decide, by decide, (wa_4 234 rfl rfl), wn_4 165 rfl rfl, rfl⟩
theorem hnd_told_453_2 : HndU RL hh_told 453 "java/lang/IllegalStateException" 519 := ⟨106, (451, 456, 519, 141), rfl, pre_told true true (by decide) (fun _ => Or.inr (Or.inl ⟨rfl, rfl⟩)) (fun _ => Or.inr (Or.inr ⟨rfl, rfl⟩)), by decide, by decide, (wa_4 235 rfl rfl), wn_5 18 rfl rfl, rfl⟩
theorem hnd_told_460_0 : HndU RL hh_told 460 "java/lang/IndexOutOfBoundsException" 507 := ⟨31, (457, 463, 507, 137), rfl, pre_told false false (by decide) (fun z => by cases z) (fun z => by cases z), by decide, by decide, (wa_4 233 rfl rfl), wn_3 160 rfl rfl, rfl⟩
theorem hnd_told_460_1 : HndU RL hh_told 460 "java/lang/IllegalArgumentException" 513 := ⟨69, (457, 463, 513, 139), rfl, pre_told true false (by decide) (fun _ => Or.inl ⟨rfl, rfl⟩) (fun z => by cases z), by decide, by decide, (wa_4 234 rfl rfl), wn_4 165 rfl rfl, rfl⟩
theorem hnd_told_460_2 : HndU RL hh_told 460 "java/lang/IllegalStateException" 519 := ⟨107, (457, 463, 519, 141), rfl, pre_told true true (by decide) (fun _ => Or.inr (Or.inl ⟨rfl, rfl⟩)) (fun _ => Or.inr (Or.inr ⟨rfl, rfl⟩)), by decide, by decide, (wa_4 235 rfl rfl), wn_5 18 rfl rfl, rfl⟩
theorem hnd_told_466_0 : HndU RL hh_told 466 "java/lang/IndexOutOfBoundsException" 507 := ⟨32, (464, 469, 507, 137), rfl, pre_told false false (by decide) (fun z => by cases z) (fun z => by cases z), by decide, by decide, (wa_4 233 rfl rfl), wn_3 160 rfl rfl, rfl⟩
theorem hnd_told_466_1 : HndU RL hh_told 466 "java/lang/IllegalArgumentException" 513 := ⟨70, (464, 469, 513, 139), rfl, pre_told true false (by decide) (fun _ => Or.inl ⟨rfl, rfl⟩) (fun z => by cases z), by decide, by decide, (wa_4 234 rfl rfl), wn_4 165 rfl rfl, rfl⟩
theorem hnd_told_466_2 : HndU RL hh_told 466 "java/lang/IllegalStateException" 519 := ⟨108, (464, 469, 519, 141), rfl, pre_told true true (by decide) (fun _ => Or.inr (Or.inl ⟨rfl, rfl⟩)) (fun _ => Or.inr (Or.inr ⟨rfl, rfl⟩)), by decide, by decide, (wa_4 235 rfl rfl), wn_5 18 rfl rfl, rfl⟩
theorem hnd_told_472_0 : HndU RL hh_told 472 "java/lang/IndexOutOfBoundsException" 507 := ⟨33, (470, 475, 507, 137), rfl, pre_told false false (by decide) (fun z => by cases z) (fun z => by cases z), by decide, by decide, (wa_4 233 rfl rfl), wn_3 160 rfl rfl, rfl⟩
theorem hnd_told_472_1 : HndU RL hh_told 472 "java/lang/IllegalArgumentException" 513 := ⟨71, (470, 475, 513, 139), rfl, pre_told true false (by decide) (fun _ => Or.inl ⟨rfl, rfl⟩) (fun z => by cases z), by decide, by decide, (wa_4 234 rfl rfl), wn_4 165 rfl rfl, rfl⟩
theorem hnd_told_472_2 : HndU RL hh_told 472 "java/lang/IllegalStateException" 519 := ⟨109, (470, 475, 519, 141), rfl, pre_told true true (by decide) (fun _ => Or.inr (Or.inl ⟨rfl, rfl⟩)) (fun _ => Or.inr (Or.inr ⟨rfl, rfl⟩)), by decide, by decide, (wa_4 235 rfl rfl), wn_5 18 rfl rfl, rfl⟩
theorem hnd_told_477_0 : HndU RL hh_told 477 "java/lang/IndexOutOfBoundsException" 507 := ⟨34, (476, 480, 507, 137), rfl, pre_told false false (by decide) (fun z => by cases z) (fun z => by cases z), by decide, by decide, (wa_4 233 rfl rfl), wn_3 160 rfl rfl, rfl⟩
theorem hnd_told_477_1 : HndU RL hh_told 477 "java/lang/IllegalArgumentException" 513 := ⟨72, (476, 480, 513, 139), rfl, pre_told true false (by decide) (fun _ => Or.inl ⟨rfl, rfl⟩) (fun z => by cases z), by decide, by decide, (wa_4 234 rfl rfl), wn_4 165 rfl rfl, rfl⟩
theorem hnd_told_477_2 : HndU RL hh_told 477 "java/lang/IllegalStateException" 519 := ⟨110, (476, 480, 519, 141), rfl, pre_told true true (by decide) (fun _ => Or.inr (Or.inl ⟨rfl, rfl⟩)) (fun _ => Or.inr (Or.inr ⟨rfl, rfl⟩)), by decide, by decide, (wa_4 235 rfl rfl), wn_5 18 rfl rfl, rfl⟩
theorem hnd_told_492_0 : HndU RL hh_told 492 "java/lang/IndexOutOfBoundsException" 507 := ⟨35, (481, 495, 507, 137), rfl, pre_told false false (by decide) (fun z => by cases z) (fun z => by cases z), by decide, by decide, (wa_4 233 rfl rfl), wn_3 160 rfl rfl, rfl⟩
theorem hnd_told_492_1 : HndU RL hh_told 492 "java/lang/IllegalArgumentException" 513 := ⟨73, (481, 495, 513, 139), rfl, pre_told true false (by decide) (fun _ => Or.inl ⟨rfl, rfl⟩) (fun z => by cases z), by decide, by decide, (wa_4 234 rfl rfl), wn_4 165 rfl rfl, rfl⟩
theorem hnd_told_492_2 : HndU RL hh_told 492 "java/lang/IllegalStateException" 519 := ⟨111, (481, 495, 519, 141), rfl, pre_told true true (by decide) (fun _ => Or.inr (Or.inl ⟨rfl, rfl⟩)) (fun _ => Or.inr (Or.inr ⟨rfl, rfl⟩)), by decide, by decide, (wa_4 235 rfl rfl), wn_5 18 rfl rfl, rfl⟩
theorem hnd_told_497_0 : HndU RL hh_told 497 "java/lang/IndexOutOfBoundsException" 507 := ⟨36, (496, 500, 507, 137), rfl, pre_told false false (by decide) (fun z => by cases z) (fun z => by cases z), by decide, by decide, (wa_4 233 rfl rfl), wn_3 160 rfl rfl, rfl⟩
theorem hnd_told_497_1 : HndU RL hh_told 497 "java/lang/IllegalArgumentException" 513 := ⟨74, (496, 500, 513, 139), rfl, pre_told true false (by decide) (fun _ => Or.inl ⟨rfl, rfl⟩) (fun z => by cases z), by decide, by decide, (wa_4 234 rfl rfl), wn_4 165 rfl rfl, rfl⟩
theorem hnd_told_497_2 : HndU RL hh_told 497 "java/lang/IllegalStateException" 519 := ⟨112, (496, 500, 519, 141), rfl, pre_told true true (by decide) (fun _ => Or.inr (Or.inl ⟨rfl, rfl⟩)) (fun _ => Or.inr (Or.inr ⟨rfl, rfl⟩)), by decide, by decide, (wa_4 235 rfl rfl), wn_5 18 rfl rfl, rfl⟩
theorem hnd_told_503_0 : HndU RL hh_told 503 "java/lang/IndexOutOfBoundsException" 507 := ⟨37, (501, 506, 507, 137), rfl, pre_told false false (by decide) (fun z => by cases z) (fun z => by cases z), by decide, by decide, (wa_4 233 rfl rfl), wn_3 160 rfl rfl, rfl⟩
theorem hnd_told_503_1 : HndU RL hh_told 503 "java/lang/IllegalArgumentException" 513 := ⟨75, (501, 506, 513, 139), rfl, pre_told true false (by decide) (fun _ => Or.inl ⟨rfl, rfl⟩) (fun z => by cases z), by decide, by decide, (wa_4 234 rfl rfl), wn_4 165 rfl rfl, rfl⟩
theorem hnd_told_503_2 : HndU RL hh_told 503 "java/lang/IllegalStateException" 519 := ⟨113, (501, 506, 519, 141), rfl, pre_told true true (by decide) (fun _ => Or.inr (Or.inl ⟨rfl, rfl⟩)) (fun _ => Or.inr (Or.inr ⟨rfl, rfl⟩)), by decide, by decide, (wa_4 235 rfl rfl), wn_5 18 rfl rfl, rfl⟩
theorem sc_c12 : (vwCl[12]?).map (·.1) = some RX12 := rfl
theorem sc_c13 : (vwCl[13]?).map (·.1) = some RX13 := rfl
