theorem dX12_init_0 : decode cX12_init 0 = .ok (.aload_n 0, 1) := by decide +kernel
theorem dX12_init_1 : decode cX12_init 1 = .ok (.invokespecial 1, 3) := by decide +kernel
theorem dX12_init_4 : decode cX12_init 4 = .ok (.aload_n 0, 1) := by decide +kernel
theorem dX12_init_5 : decode cX12_init 5 = .ok (.sipush 256, 3) := by decide +kernel
theorem dX12_init_8 : decode cX12_init 8 = .ok (.anewarray 7, 3) := by decide +kernel
theorem dX12_init_11 : decode cX12_init 11 = .ok (.putfield 9, 3) := by decide +kernel
theorem dX12_init_14 : decode cX12_init 14 = .ok (.aload_n 0, 1) := by decide +kernel
theorem dX12_init_15 : decode cX12_init 15 = .ok (.bipush 12, 2) := by decide +kernel
theorem dX12_init_17 : decode cX12_init 17 = .ok (.anewarray 15, 3) := by decide +kernel
theorem dX12_init_20 : decode cX12_init 20 = .ok (.putfield 17, 3) := by decide +kernel
theorem dX12_init_23 : decode cX12_init 23 = .ok (.aload_n 0, 1) := by decide +kernel
theorem dX12_init_24 : decode cX12_init 24 = .ok (.bipush 8, 2) := by decide +kernel
theorem dX12_init_26 : decode cX12_init 26 = .ok (.anewarray 21, 3) := by decide +kernel
theorem dX12_init_29 : decode cX12_init 29 = .ok (.putfield 22, 3) := by decide +kernel
theorem dX12_init_32 : decode cX12_init 32 = .ok (.aload_n 0, 1) := by decide +kernel
theorem dX12_init_33 : decode cX12_init 33 = .ok (.bipush 8, 2) := by decide +kernel
theorem dX12_init_35 : decode cX12_init 35 = .ok (.anewarray 7, 3) := by decide +kernel
theorem dX12_init_38 : decode cX12_init 38 = .ok (.putfield 26, 3) := by decide +kernel
theorem dX12_init_41 : decode cX12_init 41 = .ok (.aload_n 0, 1) := by decide +kernel
theorem dX12_init_42 : decode cX12_init 42 = .ok (.sipush 256, 3) := by decide +kernel
theorem dX12_init_45 : decode cX12_init 45 = .ok (.anewarray 7, 3) := by decide +kernel
theorem dX12_init_48 : decode cX12_init 48 = .ok (.putfield 29, 3) := by decide +kernel
theorem dX12_init_51 : decode cX12_init 51 = .ok (.aload_n 0, 1) := by decide +kernel
theorem dX12_init_52 : decode cX12_init 52 = .ok (.sipush 256, 3) := by decide +kernel
theorem dX12_init_55 : decode cX12_init 55 = .ok (.anewarray 7, 3) := by decide +kernel
theorem dX12_init_58 : decode cX12_init 58 = .ok (.putfield 32, 3) := by decide +kernel
theorem dX12_init_61 : decode cX12_init 61 = .ok (.aload_n 0, 1) := by decide +kernel
theorem dX12_init_62 : decode cX12_init 62 = .ok (.iconst 2, 1) := by decide +kernel
theorem dX12_init_63 : decode cX12_init 63 = .ok (.putfield 35, 3) := by decide +kernel
theorem dX12_init_66 : decode cX12_init 66 = .ok (.aload_n 0, 1) := by decide +kernel
theorem dX12_init_67 : decode cX12_init 67 = .ok (.iconst 0, 1) := by decide +kernel
theorem dX12_init_68 : decode cX12_init 68 = .ok (.newarray .int, 2) := by decide +kernel
theorem dX12_init_70 : decode cX12_init 70 = .ok (.putfield 39, 3) := by decide +kernel
theorem dX12_init_73 : decode cX12_init 73 = .ok (.aload_n 0, 1) := by decide +kernel
theorem dX12_init_74 : decode cX12_init 74 = .ok (.getfield 22, 3) := by decide +kernel
theorem dX12_init_77 : decode cX12_init 77 = .ok (.iconst 0, 1) := by decide +kernel
theorem dX12_init_78 : decode cX12_init 78 = .ok (.bipush 8, 2) := by decide +kernel
theorem dX12_init_80 : decode cX12_init 80 = .ok (.anewarray 7, 3) := by decide +kernel
theorem dX12_init_83 : decode cX12_init 83 = .ok (.aastore, 1) := by decide +kernel
theorem dX12_init_84 : decode cX12_init 84 = .ok (.return_, 1) := by decide +kernel
theorem dX12_number_0 : decode cX12_number 0 = .ok (.aload_n 0, 1) := by decide +kernel
theorem dX12_number_1 : decode cX12_number 1 = .ok (.ifnonnull 7, 3) := by decide +kernel
theorem dX12_number_4 : decode cX12_number 4 = .ok (.iconst (-1), 1) := by decide +kernel
theorem dX12_number_5 : decode cX12_number 5 = .ok (.goto 7, 3) := by decide +kernel
theorem dX12_number_8 : decode cX12_number 8 = .ok (.aload_n 0, 1) := by decide +kernel
theorem dX12_number_9 : decode cX12_number 9 = .ok (.getfield 42, 3) := by decide +kernel
theorem dX12_number_12 : decode cX12_number 12 = .ok (.ireturn, 1) := by decide +kernel
theorem dX12_isSlot_0 : decode cX12_isSlot 0 = .ok (.iload_n 1, 1) := by decide +kernel
theorem dX12_isSlot_1 : decode cX12_isSlot 1 = .ok (.ifCond .lt 21, 3) := by decide +kernel
theorem dX12_isSlot_4 : decode cX12_isSlot 4 = .ok (.iload_n 1, 1) := by decide +kernel
theorem dX12_isSlot_5 : decode cX12_isSlot 5 = .ok (.aload_n 0, 1) := by decide +kernel
theorem dX12_isSlot_6 : decode cX12_isSlot 6 = .ok (.getfield 22, 3) := by decide +kernel
theorem dX12_isSlot_9 : decode cX12_isSlot 9 = .ok (.aload_n 0, 1) := by decide +kernel
theorem dX12_isSlot_10 : decode cX12_isSlot 10 = .ok (.getfield 45, 3) := by decide +kernel
theorem dX12_isSlot_13 : decode cX12_isSlot 13 = .ok (.aaload, 1) := by decide +kernel
theorem dX12_isSlot_14 : decode cX12_isSlot 14 = .ok (.arraylength, 1) := by decide +kernel
theorem dX12_isSlot_15 : decode cX12_isSlot 15 = .ok (.if_icmp .ge 7, 3) := by decide +kernel
theorem dX12_isSlot_18 : decode cX12_isSlot 18 = .ok (.iconst 1, 1) := by decide +kernel
theorem dX12_isSlot_19 : decode cX12_isSlot 19 = .ok (.goto 4, 3) := by decide +kernel
theorem dX12_isSlot_22 : decode cX12_isSlot 22 = .ok (.iconst 0, 1) := by decide +kernel
theorem dX12_isSlot_23 : decode cX12_isSlot 23 = .ok (.ireturn, 1) := by decide +kernel
theorem dX12_at_0 : decode cX12_at 0 = .ok (.aload_n 0, 1) := by decide +kernel
theorem dX12_at_1 : decode cX12_at 1 = .ok (.getfield 22, 3) := by decide +kernel
theorem dX12_at_4 : decode cX12_at 4 = .ok (.aload_n 0, 1) := by decide +kernel
theorem dX12_at_5 : decode cX12_at 5 = .ok (.getfield 45, 3) := by decide +kernel
theorem dX12_at_8 : decode cX12_at 8 = .ok (.aaload, 1) := by decide +kernel
theorem dX12_at_9 : decode cX12_at 9 = .ok (.iload_n 1, 1) := by decide +kernel
theorem dX12_at_10 : decode cX12_at 10 = .ok (.aaload, 1) := by decide +kernel
theorem dX12_at_11 : decode cX12_at 11 = .ok (.areturn, 1) := by decide +kernel
theorem dX12_form_0 : decode cX12_form 0 = .ok (.aload_n 0, 1) := by decide +kernel
theorem dX12_form_1 : decode cX12_form 1 = .ok (.iload_n 1, 1) := by decide +kernel
theorem dX12_form_2 : decode cX12_form 2 = .ok (.invokevirtual 48, 3) := by decide +kernel
theorem dX12_form_5 : decode cX12_form 5 = .ok (.ifnonnull 7, 3) := by decide +kernel
theorem dX12_form_8 : decode cX12_form 8 = .ok (.iconst (-1), 1) := by decide +kernel
theorem dX12_form_9 : decode cX12_form 9 = .ok (.goto 11, 3) := by decide +kernel
theorem dX12_form_12 : decode cX12_form 12 = .ok (.aload_n 0, 1) := by decide +kernel
theorem dX12_form_13 : decode cX12_form 13 = .ok (.iload_n 1, 1) := by decide +kernel
theorem dX12_form_14 : decode cX12_form 14 = .ok (.invokevirtual 48, 3) := by decide +kernel
theorem dX12_form_17 : decode cX12_form 17 = .ok (.getfield 52, 3) := by decide +kernel
theorem dX12_form_20 : decode cX12_form 20 = .ok (.ireturn, 1) := by decide +kernel
theorem dX12_hold_0 : decode cX12_hold 0 = .ok (.aload_n 0, 1) := by decide +kernel
theorem dX12_hold_1 : decode cX12_hold 1 = .ok (.getfield 22, 3) := by decide +kernel
theorem dX12_hold_4 : decode cX12_hold 4 = .ok (.aload_n 0, 1) := by decide +kernel
theorem dX12_hold_5 : decode cX12_hold 5 = .ok (.getfield 45, 3) := by decide +kernel
theorem dX12_hold_8 : decode cX12_hold 8 = .ok (.aaload, 1) := by decide +kernel
theorem dX12_hold_9 : decode cX12_hold 9 = .ok (.iload_n 1, 1) := by decide +kernel
theorem dX12_hold_10 : decode cX12_hold 10 = .ok (.aload_n 2, 1) := by decide +kernel
theorem dX12_hold_11 : decode cX12_hold 11 = .ok (.aastore, 1) := by decide +kernel
theorem dX12_hold_12 : decode cX12_hold 12 = .ok (.aload_n 2, 1) := by decide +kernel
theorem dX12_hold_13 : decode cX12_hold 13 = .ok (.invokestatic 55, 3) := by decide +kernel
theorem dX12_hold_16 : decode cX12_hold 16 = .ok (.ireturn, 1) := by decide +kernel
theorem dX12_words_0 : decode cX12_words 0 = .ok (.iconst 0, 1) := by decide +kernel
theorem dX12_words_1 : decode cX12_words 1 = .ok (.istore_n 2, 1) := by decide +kernel
theorem dX12_words_2 : decode cX12_words 2 = .ok (.iconst 0, 1) := by decide +kernel
theorem dX12_words_3 : decode cX12_words 3 = .ok (.istore_n 3, 1) := by decide +kernel
theorem dX12_words_4 : decode cX12_words 4 = .ok (.iload_n 3, 1) := by decide +kernel
theorem dX12_words_5 : decode cX12_words 5 = .ok (.aload_n 0, 1) := by decide +kernel
theorem dX12_words_6 : decode cX12_words 6 = .ok (.getfield 58, 3) := by decide +kernel
theorem dX12_words_9 : decode cX12_words 9 = .ok (.if_icmp .ge 38, 3) := by decide +kernel
theorem dX12_words_12 : decode cX12_words 12 = .ok (.iload_n 2, 1) := by decide +kernel
theorem dX12_words_13 : decode cX12_words 13 = .ok (.aload_n 0, 1) := by decide +kernel
theorem dX12_words_14 : decode cX12_words 14 = .ok (.getfield 9, 3) := by decide +kernel
theorem dX12_words_17 : decode cX12_words 17 = .ok (.iload_n 3, 1) := by decide +kernel
theorem dX12_words_18 : decode cX12_words 18 = .ok (.aaload, 1) := by decide +kernel
theorem dX12_words_19 : decode cX12_words 19 = .ok (.getfield 61, 3) := by decide +kernel
theorem dX12_words_22 : decode cX12_words 22 = .ok (.iload_n 1, 1) := by decide +kernel
theorem dX12_words_23 : decode cX12_words 23 = .ok (.if_icmp .ne 15, 3) := by decide +kernel
theorem dX12_words_26 : decode cX12_words 26 = .ok (.aload_n 0, 1) := by decide +kernel
theorem dX12_words_27 : decode cX12_words 27 = .ok (.getfield 9, 3) := by decide +kernel
theorem dX12_words_30 : decode cX12_words 30 = .ok (.iload_n 3, 1) := by decide +kernel
theorem dX12_words_31 : decode cX12_words 31 = .ok (.aaload, 1) := by decide +kernel
theorem dX12_words_32 : decode cX12_words 32 = .ok (.getfield 65, 3) := by decide +kernel
theorem dX12_words_35 : decode cX12_words 35 = .ok (.goto 4, 3) := by decide +kernel
theorem dX12_words_38 : decode cX12_words 38 = .ok (.iconst 0, 1) := by decide +kernel
theorem dX12_words_39 : decode cX12_words 39 = .ok (.iadd, 1) := by decide +kernel
theorem dX12_words_40 : decode cX12_words 40 = .ok (.istore_n 2, 1) := by decide +kernel
theorem dX12_words_41 : decode cX12_words 41 = .ok (.iinc 3 1, 3) := by decide +kernel
theorem dX12_words_44 : decode cX12_words 44 = .ok (.goto (-40), 3) := by decide +kernel
theorem dX12_words_47 : decode cX12_words 47 = .ok (.iload_n 2, 1) := by decide +kernel
theorem dX12_words_48 : decode cX12_words 48 = .ok (.ireturn, 1) := by decide +kernel
theorem dX12_put_0 : decode cX12_put 0 = .ok (.aload_n 1, 1) := by decide +kernel
theorem dX12_put_1 : decode cX12_put 1 = .ok (.ifnull 19, 3) := by decide +kernel
theorem dX12_put_4 : decode cX12_put 4 = .ok (.aload_n 1, 1) := by decide +kernel
theorem dX12_put_5 : decode cX12_put 5 = .ok (.aload_n 0, 1) := by decide +kernel
theorem dX12_put_6 : decode cX12_put 6 = .ok (.getfield 68, 3) := by decide +kernel
theorem dX12_put_9 : decode cX12_put 9 = .ok (.if_acmp .eq 11, 3) := by decide +kernel
theorem dX12_put_12 : decode cX12_put 12 = .ok (.aload_n 1, 1) := by decide +kernel
theorem dX12_put_13 : decode cX12_put 13 = .ok (.iload_n 2, 1) := by decide +kernel
theorem dX12_put_14 : decode cX12_put 14 = .ok (.invokevirtual 72, 3) := by decide +kernel
theorem dX12_put_17 : decode cX12_put 17 = .ok (.ifCond .eq 5, 3) := by decide +kernel
theorem dX12_put_20 : decode cX12_put 20 = .ok (.iconst 0, 1) := by decide +kernel
theorem dX12_put_21 : decode cX12_put 21 = .ok (.ireturn, 1) := by decide +kernel
theorem dX12_put_22 : decode cX12_put 22 = .ok (.aload_n 1, 1) := by decide +kernel
theorem dX12_put_23 : decode cX12_put 23 = .ok (.dup, 1) := by decide +kernel
theorem dX12_put_24 : decode cX12_put 24 = .ok (.getfield 76, 3) := by decide +kernel
theorem dX12_put_27 : decode cX12_put 27 = .ok (.iload_n 2, 1) := by decide +kernel
theorem dX12_put_28 : decode cX12_put 28 = .ok (.ior, 1) := by decide +kernel
theorem dX12_put_29 : decode cX12_put 29 = .ok (.putfield 76, 3) := by decide +kernel
theorem dX12_put_32 : decode cX12_put 32 = .ok (.iconst 1, 1) := by decide +kernel
theorem dX12_put_33 : decode cX12_put 33 = .ok (.ireturn, 1) := by decide +kernel
theorem dX12_wipe_0 : decode cX12_wipe 0 = .ok (.iconst 0, 1) := by decide +kernel
theorem dX12_wipe_1 : decode cX12_wipe 1 = .ok (.istore_n 2, 1) := by decide +kernel
theorem dX12_wipe_2 : decode cX12_wipe 2 = .ok (.iload_n 2, 1) := by decide +kernel
theorem dX12_wipe_3 : decode cX12_wipe 3 = .ok (.aload_n 0, 1) := by decide +kernel
theorem dX12_wipe_4 : decode cX12_wipe 4 = .ok (.getfield 58, 3) := by decide +kernel
theorem dX12_wipe_7 : decode cX12_wipe 7 = .ok (.if_icmp .ge 26, 3) := by decide +kernel
theorem dX12_wipe_10 : decode cX12_wipe 10 = .ok (.aload_n 0, 1) := by decide +kernel
theorem dX12_wipe_11 : decode cX12_wipe 11 = .ok (.getfield 9, 3) := by decide +kernel
theorem dX12_wipe_14 : decode cX12_wipe 14 = .ok (.iload_n 2, 1) := by decide +kernel
theorem dX12_wipe_15 : decode cX12_wipe 15 = .ok (.aaload, 1) := by decide +kernel
theorem dX12_wipe_16 : decode cX12_wipe 16 = .ok (.dup, 1) := by decide +kernel
theorem dX12_wipe_17 : decode cX12_wipe 17 = .ok (.getfield 76, 3) := by decide +kernel
theorem dX12_wipe_20 : decode cX12_wipe 20 = .ok (.iload_n 1, 1) := by decide +kernel
theorem dX12_wipe_21 : decode cX12_wipe 21 = .ok (.iconst (-1), 1) := by decide +kernel
theorem dX12_wipe_22 : decode cX12_wipe 22 = .ok (.ixor, 1) := by decide +kernel
theorem dX12_wipe_23 : decode cX12_wipe 23 = .ok (.iand, 1) := by decide +kernel
theorem dX12_wipe_24 : decode cX12_wipe 24 = .ok (.putfield 76, 3) := by decide +kernel
theorem dX12_wipe_27 : decode cX12_wipe 27 = .ok (.iinc 2 1, 3) := by decide +kernel
theorem dX12_wipe_30 : decode cX12_wipe 30 = .ok (.goto (-28), 3) := by decide +kernel
theorem dX12_wipe_33 : decode cX12_wipe 33 = .ok (.return_, 1) := by decide +kernel
theorem dX12_marked_0 : decode cX12_marked 0 = .ok (.iconst 0, 1) := by decide +kernel
theorem dX12_marked_1 : decode cX12_marked 1 = .ok (.istore_n 2, 1) := by decide +kernel
theorem dX12_marked_2 : decode cX12_marked 2 = .ok (.iconst 0, 1) := by decide +kernel
theorem dX12_marked_3 : decode cX12_marked 3 = .ok (.istore_n 3, 1) := by decide +kernel
theorem dX12_marked_4 : decode cX12_marked 4 = .ok (.iload_n 3, 1) := by decide +kernel
theorem dX12_marked_5 : decode cX12_marked 5 = .ok (.aload_n 0, 1) := by decide +kernel
theorem dX12_marked_6 : decode cX12_marked 6 = .ok (.getfield 58, 3) := by decide +kernel
theorem dX12_marked_9 : decode cX12_marked 9 = .ok (.if_icmp .ge 30, 3) := by decide +kernel
theorem dX12_marked_12 : decode cX12_marked 12 = .ok (.iload_n 2, 1) := by decide +kernel
theorem dX12_marked_13 : decode cX12_marked 13 = .ok (.aload_n 0, 1) := by decide +kernel
theorem dX12_marked_14 : decode cX12_marked 14 = .ok (.getfield 9, 3) := by decide +kernel
theorem dX12_marked_17 : decode cX12_marked 17 = .ok (.iload_n 3, 1) := by decide +kernel
theorem dX12_marked_18 : decode cX12_marked 18 = .ok (.aaload, 1) := by decide +kernel
theorem dX12_marked_19 : decode cX12_marked 19 = .ok (.iload_n 1, 1) := by decide +kernel
theorem dX12_marked_20 : decode cX12_marked 20 = .ok (.invokevirtual 72, 3) := by decide +kernel
theorem dX12_marked_23 : decode cX12_marked 23 = .ok (.ifCond .eq 7, 3) := by decide +kernel
theorem dX12_marked_26 : decode cX12_marked 26 = .ok (.iconst 1, 1) := by decide +kernel
theorem dX12_marked_27 : decode cX12_marked 27 = .ok (.goto 4, 3) := by decide +kernel
theorem dX12_marked_30 : decode cX12_marked 30 = .ok (.iconst 0, 1) := by decide +kernel
theorem dX12_marked_31 : decode cX12_marked 31 = .ok (.iadd, 1) := by decide +kernel
theorem dX12_marked_32 : decode cX12_marked 32 = .ok (.istore_n 2, 1) := by decide +kernel
theorem dX12_marked_33 : decode cX12_marked 33 = .ok (.iinc 3 1, 3) := by decide +kernel
theorem dX12_marked_36 : decode cX12_marked 36 = .ok (.goto (-32), 3) := by decide +kernel
theorem dX12_marked_39 : decode cX12_marked 39 = .ok (.iload_n 2, 1) := by decide +kernel
theorem dX12_marked_40 : decode cX12_marked 40 = .ok (.ireturn, 1) := by decide +kernel
theorem dX12_roots_0 : decode cX12_roots 0 = .ok (.iconst 0, 1) := by decide +kernel
theorem dX12_roots_1 : decode cX12_roots 1 = .ok (.istore_n 2, 1) := by decide +kernel
theorem dX12_roots_2 : decode cX12_roots 2 = .ok (.iload_n 2, 1) := by decide +kernel
theorem dX12_roots_3 : decode cX12_roots 3 = .ok (.aload_n 0, 1) := by decide +kernel
theorem dX12_roots_4 : decode cX12_roots 4 = .ok (.getfield 45, 3) := by decide +kernel
theorem dX12_roots_7 : decode cX12_roots 7 = .ok (.if_icmp .gt 50, 3) := by decide +kernel
theorem dX12_roots_10 : decode cX12_roots 10 = .ok (.aload_n 0, 1) := by decide +kernel
theorem dX12_roots_11 : decode cX12_roots 11 = .ok (.getfield 22, 3) := by decide +kernel
theorem dX12_roots_14 : decode cX12_roots 14 = .ok (.iload_n 2, 1) := by decide +kernel
theorem dX12_roots_15 : decode cX12_roots 15 = .ok (.aaload, 1) := by decide +kernel
theorem dX12_roots_16 : decode cX12_roots 16 = .ok (.astore_n 3, 1) := by decide +kernel
theorem dX12_roots_17 : decode cX12_roots 17 = .ok (.aload_n 3, 1) := by decide +kernel
theorem dX12_roots_18 : decode cX12_roots 18 = .ok (.arraylength, 1) := by decide +kernel
theorem dX12_roots_19 : decode cX12_roots 19 = .ok (.istore 4, 2) := by decide +kernel
theorem dX12_roots_21 : decode cX12_roots 21 = .ok (.iconst 0, 1) := by decide +kernel
theorem dX12_roots_22 : decode cX12_roots 22 = .ok (.istore 5, 2) := by decide +kernel
theorem dX12_roots_24 : decode cX12_roots 24 = .ok (.iload 5, 2) := by decide +kernel
theorem dX12_roots_26 : decode cX12_roots 26 = .ok (.iload 4, 2) := by decide +kernel
theorem dX12_roots_28 : decode cX12_roots 28 = .ok (.if_icmp .ge 23, 3) := by decide +kernel
theorem dX12_roots_31 : decode cX12_roots 31 = .ok (.aload_n 3, 1) := by decide +kernel
theorem dX12_roots_32 : decode cX12_roots 32 = .ok (.iload 5, 2) := by decide +kernel
theorem dX12_roots_34 : decode cX12_roots 34 = .ok (.aaload, 1) := by decide +kernel
theorem dX12_roots_35 : decode cX12_roots 35 = .ok (.astore 6, 2) := by decide +kernel
theorem dX12_roots_37 : decode cX12_roots 37 = .ok (.aload_n 0, 1) := by decide +kernel
theorem dX12_roots_38 : decode cX12_roots 38 = .ok (.aload 6, 2) := by decide +kernel
theorem dX12_roots_40 : decode cX12_roots 40 = .ok (.iload_n 1, 1) := by decide +kernel
theorem dX12_roots_41 : decode cX12_roots 41 = .ok (.invokevirtual 79, 3) := by decide +kernel
theorem dX12_roots_44 : decode cX12_roots 44 = .ok (.pop, 1) := by decide +kernel
theorem dX12_roots_45 : decode cX12_roots 45 = .ok (.iinc 5 1, 3) := by decide +kernel
theorem dX12_roots_48 : decode cX12_roots 48 = .ok (.goto (-24), 3) := by decide +kernel
theorem dX12_roots_51 : decode cX12_roots 51 = .ok (.iinc 2 1, 3) := by decide +kernel
theorem dX12_roots_54 : decode cX12_roots 54 = .ok (.goto (-52), 3) := by decide +kernel
theorem dX12_roots_57 : decode cX12_roots 57 = .ok (.aload_n 0, 1) := by decide +kernel
theorem dX12_roots_58 : decode cX12_roots 58 = .ok (.getfield 26, 3) := by decide +kernel
theorem dX12_roots_61 : decode cX12_roots 61 = .ok (.astore_n 2, 1) := by decide +kernel
theorem dX12_roots_62 : decode cX12_roots 62 = .ok (.aload_n 2, 1) := by decide +kernel
theorem dX12_roots_63 : decode cX12_roots 63 = .ok (.arraylength, 1) := by decide +kernel
theorem dX12_roots_64 : decode cX12_roots 64 = .ok (.istore_n 3, 1) := by decide +kernel
theorem dX12_roots_65 : decode cX12_roots 65 = .ok (.iconst 0, 1) := by decide +kernel
theorem dX12_roots_66 : decode cX12_roots 66 = .ok (.istore 4, 2) := by decide +kernel
theorem dX12_roots_68 : decode cX12_roots 68 = .ok (.iload 4, 2) := by decide +kernel
theorem dX12_roots_70 : decode cX12_roots 70 = .ok (.iload_n 3, 1) := by decide +kernel
theorem dX12_roots_71 : decode cX12_roots 71 = .ok (.if_icmp .ge 23, 3) := by decide +kernel
theorem dX12_roots_74 : decode cX12_roots 74 = .ok (.aload_n 2, 1) := by decide +kernel
theorem dX12_roots_75 : decode cX12_roots 75 = .ok (.iload 4, 2) := by decide +kernel
theorem dX12_roots_77 : decode cX12_roots 77 = .ok (.aaload, 1) := by decide +kernel
theorem dX12_roots_78 : decode cX12_roots 78 = .ok (.astore 5, 2) := by decide +kernel
theorem dX12_roots_80 : decode cX12_roots 80 = .ok (.aload_n 0, 1) := by decide +kernel
theorem dX12_roots_81 : decode cX12_roots 81 = .ok (.aload 5, 2) := by decide +kernel
theorem dX12_roots_83 : decode cX12_roots 83 = .ok (.iload_n 1, 1) := by decide +kernel
theorem dX12_roots_84 : decode cX12_roots 84 = .ok (.invokevirtual 79, 3) := by decide +kernel
theorem dX12_roots_87 : decode cX12_roots 87 = .ok (.pop, 1) := by decide +kernel
theorem dX12_roots_88 : decode cX12_roots 88 = .ok (.iinc 4 1, 3) := by decide +kernel
theorem dX12_roots_91 : decode cX12_roots 91 = .ok (.goto (-23), 3) := by decide +kernel
theorem dX12_roots_94 : decode cX12_roots 94 = .ok (.iconst 0, 1) := by decide +kernel
theorem dX12_roots_95 : decode cX12_roots 95 = .ok (.istore_n 2, 1) := by decide +kernel
theorem dX12_roots_96 : decode cX12_roots 96 = .ok (.iload_n 2, 1) := by decide +kernel
theorem dX12_roots_97 : decode cX12_roots 97 = .ok (.aload_n 0, 1) := by decide +kernel
theorem dX12_roots_98 : decode cX12_roots 98 = .ok (.getfield 83, 3) := by decide +kernel
theorem dX12_roots_101 : decode cX12_roots 101 = .ok (.if_icmp .ge 21, 3) := by decide +kernel
theorem dX12_roots_104 : decode cX12_roots 104 = .ok (.aload_n 0, 1) := by decide +kernel
theorem dX12_roots_105 : decode cX12_roots 105 = .ok (.aload_n 0, 1) := by decide +kernel
theorem dX12_roots_106 : decode cX12_roots 106 = .ok (.getfield 29, 3) := by decide +kernel
theorem dX12_roots_109 : decode cX12_roots 109 = .ok (.iload_n 2, 1) := by decide +kernel
theorem dX12_roots_110 : decode cX12_roots 110 = .ok (.aaload, 1) := by decide +kernel
theorem dX12_roots_111 : decode cX12_roots 111 = .ok (.iload_n 1, 1) := by decide +kernel
theorem dX12_roots_112 : decode cX12_roots 112 = .ok (.invokevirtual 79, 3) := by decide +kernel
theorem dX12_roots_115 : decode cX12_roots 115 = .ok (.pop, 1) := by decide +kernel
theorem dX12_roots_116 : decode cX12_roots 116 = .ok (.iinc 2 1, 3) := by decide +kernel
theorem dX12_roots_119 : decode cX12_roots 119 = .ok (.goto (-23), 3) := by decide +kernel
theorem dX12_roots_122 : decode cX12_roots 122 = .ok (.iconst 0, 1) := by decide +kernel
theorem dX12_roots_123 : decode cX12_roots 123 = .ok (.istore_n 2, 1) := by decide +kernel
theorem dX12_roots_124 : decode cX12_roots 124 = .ok (.iload_n 2, 1) := by decide +kernel
theorem dX12_roots_125 : decode cX12_roots 125 = .ok (.aload_n 0, 1) := by decide +kernel
theorem dX12_roots_126 : decode cX12_roots 126 = .ok (.getfield 86, 3) := by decide +kernel
theorem dX12_roots_129 : decode cX12_roots 129 = .ok (.if_icmp .ge 21, 3) := by decide +kernel
theorem dX12_roots_132 : decode cX12_roots 132 = .ok (.aload_n 0, 1) := by decide +kernel
theorem dX12_roots_133 : decode cX12_roots 133 = .ok (.aload_n 0, 1) := by decide +kernel
theorem dX12_roots_134 : decode cX12_roots 134 = .ok (.getfield 32, 3) := by decide +kernel
theorem dX12_roots_137 : decode cX12_roots 137 = .ok (.iload_n 2, 1) := by decide +kernel
theorem dX12_roots_138 : decode cX12_roots 138 = .ok (.aaload, 1) := by decide +kernel
theorem dX12_roots_139 : decode cX12_roots 139 = .ok (.iload_n 1, 1) := by decide +kernel
theorem dX12_roots_140 : decode cX12_roots 140 = .ok (.invokevirtual 79, 3) := by decide +kernel
theorem dX12_roots_143 : decode cX12_roots 143 = .ok (.pop, 1) := by decide +kernel
theorem dX12_roots_144 : decode cX12_roots 144 = .ok (.iinc 2 1, 3) := by decide +kernel
theorem dX12_roots_147 : decode cX12_roots 147 = .ok (.goto (-23), 3) := by decide +kernel
theorem dX12_roots_150 : decode cX12_roots 150 = .ok (.return_, 1) := by decide +kernel
theorem dX12_spread_0 : decode cX12_spread 0 = .ok (.iconst 1, 1) := by decide +kernel
theorem dX12_spread_1 : decode cX12_spread 1 = .ok (.istore 4, 2) := by decide +kernel
theorem dX12_spread_3 : decode cX12_spread 3 = .ok (.iload 4, 2) := by decide +kernel
theorem dX12_spread_5 : decode cX12_spread 5 = .ok (.ifCond .eq 236, 3) := by decide +kernel
theorem dX12_spread_8 : decode cX12_spread 8 = .ok (.iconst 0, 1) := by decide +kernel
theorem dX12_spread_9 : decode cX12_spread 9 = .ok (.istore 4, 2) := by decide +kernel
theorem dX12_spread_11 : decode cX12_spread 11 = .ok (.iconst 0, 1) := by decide +kernel
theorem dX12_spread_12 : decode cX12_spread 12 = .ok (.istore 5, 2) := by decide +kernel
theorem dX12_spread_14 : decode cX12_spread 14 = .ok (.iload 5, 2) := by decide +kernel
theorem dX12_spread_16 : decode cX12_spread 16 = .ok (.aload_n 0, 1) := by decide +kernel
theorem dX12_spread_17 : decode cX12_spread 17 = .ok (.getfield 58, 3) := by decide +kernel
theorem dX12_spread_20 : decode cX12_spread 20 = .ok (.if_icmp .ge 218, 3) := by decide +kernel
theorem dX12_spread_23 : decode cX12_spread 23 = .ok (.aload_n 0, 1) := by decide +kernel
theorem dX12_spread_24 : decode cX12_spread 24 = .ok (.getfield 9, 3) := by decide +kernel
theorem dX12_spread_27 : decode cX12_spread 27 = .ok (.iload 5, 2) := by decide +kernel
theorem dX12_spread_29 : decode cX12_spread 29 = .ok (.aaload, 1) := by decide +kernel
theorem dX12_spread_30 : decode cX12_spread 30 = .ok (.astore 6, 2) := by decide +kernel
theorem dX12_spread_32 : decode cX12_spread 32 = .ok (.aload 6, 2) := by decide +kernel
theorem dX12_spread_34 : decode cX12_spread 34 = .ok (.iload_n 1, 1) := by decide +kernel
theorem dX12_spread_35 : decode cX12_spread 35 = .ok (.invokevirtual 72, 3) := by decide +kernel
theorem dX12_spread_38 : decode cX12_spread 38 = .ok (.ifCond .ne 6, 3) := by decide +kernel
theorem dX12_spread_41 : decode cX12_spread 41 = .ok (.goto 191, 3) := by decide +kernel
theorem dX12_spread_44 : decode cX12_spread 44 = .ok (.aload 6, 2) := by decide +kernel
theorem dX12_spread_46 : decode cX12_spread 46 = .ok (.getfield 52, 3) := by decide +kernel
theorem dX12_spread_49 : decode cX12_spread 49 = .ok (.iconst 4, 1) := by decide +kernel
theorem dX12_spread_50 : decode cX12_spread 50 = .ok (.if_icmp .ne 34, 3) := by decide +kernel
theorem dX12_spread_53 : decode cX12_spread 53 = .ok (.iload_n 2, 1) := by decide +kernel
theorem dX12_spread_54 : decode cX12_spread 54 = .ok (.ifCond .ne 30, 3) := by decide +kernel
theorem dX12_spread_57 : decode cX12_spread 57 = .ok (.iload 4, 2) := by decide +kernel
theorem dX12_spread_59 : decode cX12_spread 59 = .ok (.aload_n 0, 1) := by decide +kernel
theorem dX12_spread_60 : decode cX12_spread 60 = .ok (.iload_n 3, 1) := by decide +kernel
theorem dX12_spread_61 : decode cX12_spread 61 = .ok (.ifCond .eq 11, 3) := by decide +kernel
theorem dX12_spread_64 : decode cX12_spread 64 = .ok (.aload 6, 2) := by decide +kernel
theorem dX12_spread_66 : decode cX12_spread 66 = .ok (.getfield 89, 3) := by decide +kernel
theorem dX12_spread_69 : decode cX12_spread 69 = .ok (.goto 8, 3) := by decide +kernel
theorem dX12_spread_72 : decode cX12_spread 72 = .ok (.aload 6, 2) := by decide +kernel
theorem dX12_spread_74 : decode cX12_spread 74 = .ok (.getfield 92, 3) := by decide +kernel
theorem dX12_spread_77 : decode cX12_spread 77 = .ok (.iload_n 1, 1) := by decide +kernel
theorem dX12_spread_78 : decode cX12_spread 78 = .ok (.invokevirtual 79, 3) := by decide +kernel
theorem dX12_spread_81 : decode cX12_spread 81 = .ok (.ior, 1) := by decide +kernel
theorem dX12_spread_82 : decode cX12_spread 82 = .ok (.istore 4, 2) := by decide +kernel
theorem dX12_spread_84 : decode cX12_spread 84 = .ok (.iload_n 3, 1) := by decide +kernel
theorem dX12_spread_85 : decode cX12_spread 85 = .ok (.ifCond .eq 11, 3) := by decide +kernel
theorem dX12_spread_88 : decode cX12_spread 88 = .ok (.aload 6, 2) := by decide +kernel
theorem dX12_spread_90 : decode cX12_spread 90 = .ok (.getfield 95, 3) := by decide +kernel
theorem dX12_spread_93 : decode cX12_spread 93 = .ok (.goto 8, 3) := by decide +kernel
theorem dX12_spread_96 : decode cX12_spread 96 = .ok (.aload 6, 2) := by decide +kernel
theorem dX12_spread_98 : decode cX12_spread 98 = .ok (.getfield 98, 3) := by decide +kernel
theorem dX12_spread_101 : decode cX12_spread 101 = .ok (.astore 7, 2) := by decide +kernel
theorem dX12_spread_103 : decode cX12_spread 103 = .ok (.aload 7, 2) := by decide +kernel
theorem dX12_spread_105 : decode cX12_spread 105 = .ok (.arraylength, 1) := by decide +kernel
theorem dX12_spread_106 : decode cX12_spread 106 = .ok (.istore 8, 2) := by decide +kernel
theorem dX12_spread_108 : decode cX12_spread 108 = .ok (.iconst 0, 1) := by decide +kernel
theorem dX12_spread_109 : decode cX12_spread 109 = .ok (.istore 9, 2) := by decide +kernel
theorem dX12_spread_111 : decode cX12_spread 111 = .ok (.iload 9, 2) := by decide +kernel
theorem dX12_spread_113 : decode cX12_spread 113 = .ok (.iload 8, 2) := by decide +kernel
theorem dX12_spread_115 : decode cX12_spread 115 = .ok (.if_icmp .ge 28, 3) := by decide +kernel
theorem dX12_spread_118 : decode cX12_spread 118 = .ok (.aload 7, 2) := by decide +kernel
theorem dX12_spread_120 : decode cX12_spread 120 = .ok (.iload 9, 2) := by decide +kernel
theorem dX12_spread_122 : decode cX12_spread 122 = .ok (.aaload, 1) := by decide +kernel
theorem dX12_spread_123 : decode cX12_spread 123 = .ok (.astore 10, 2) := by decide +kernel
theorem dX12_spread_125 : decode cX12_spread 125 = .ok (.iload 4, 2) := by decide +kernel
theorem dX12_spread_127 : decode cX12_spread 127 = .ok (.aload_n 0, 1) := by decide +kernel
theorem dX12_spread_128 : decode cX12_spread 128 = .ok (.aload 10, 2) := by decide +kernel
theorem dX12_spread_130 : decode cX12_spread 130 = .ok (.iload_n 1, 1) := by decide +kernel
theorem dX12_spread_131 : decode cX12_spread 131 = .ok (.invokevirtual 79, 3) := by decide +kernel
theorem dX12_spread_134 : decode cX12_spread 134 = .ok (.ior, 1) := by decide +kernel
theorem dX12_spread_135 : decode cX12_spread 135 = .ok (.istore 4, 2) := by decide +kernel
theorem dX12_spread_137 : decode cX12_spread 137 = .ok (.iinc 9 1, 3) := by decide +kernel
theorem dX12_spread_140 : decode cX12_spread 140 = .ok (.goto (-29), 3) := by decide +kernel
theorem dX12_spread_143 : decode cX12_spread 143 = .ok (.iload_n 3, 1) := by decide +kernel
theorem dX12_spread_144 : decode cX12_spread 144 = .ok (.ifCond .eq 11, 3) := by decide +kernel
theorem dX12_spread_147 : decode cX12_spread 147 = .ok (.aload 6, 2) := by decide +kernel
theorem dX12_spread_149 : decode cX12_spread 149 = .ok (.getfield 101, 3) := by decide +kernel
theorem dX12_spread_152 : decode cX12_spread 152 = .ok (.goto 8, 3) := by decide +kernel
theorem dX12_spread_155 : decode cX12_spread 155 = .ok (.aload 6, 2) := by decide +kernel
theorem dX12_spread_157 : decode cX12_spread 157 = .ok (.getfield 104, 3) := by decide +kernel
theorem dX12_spread_160 : decode cX12_spread 160 = .ok (.astore 7, 2) := by decide +kernel
theorem dX12_spread_162 : decode cX12_spread 162 = .ok (.iconst 0, 1) := by decide +kernel
theorem dX12_spread_163 : decode cX12_spread 163 = .ok (.istore 8, 2) := by decide +kernel
theorem dX12_spread_165 : decode cX12_spread 165 = .ok (.iload 8, 2) := by decide +kernel
theorem dX12_spread_167 : decode cX12_spread 167 = .ok (.aload 7, 2) := by decide +kernel
theorem dX12_spread_169 : decode cX12_spread 169 = .ok (.arraylength, 1) := by decide +kernel
theorem dX12_spread_170 : decode cX12_spread 170 = .ok (.if_icmp .ge 62, 3) := by decide +kernel
theorem dX12_spread_173 : decode cX12_spread 173 = .ok (.aload 7, 2) := by decide +kernel
theorem dX12_spread_175 : decode cX12_spread 175 = .ok (.iload 8, 2) := by decide +kernel
theorem dX12_spread_177 : decode cX12_spread 177 = .ok (.aaload, 1) := by decide +kernel
theorem dX12_spread_178 : decode cX12_spread 178 = .ok (.ifnull 48, 3) := by decide +kernel
theorem dX12_spread_181 : decode cX12_spread 181 = .ok (.aload 7, 2) := by decide +kernel
theorem dX12_spread_183 : decode cX12_spread 183 = .ok (.iload 8, 2) := by decide +kernel
theorem dX12_spread_185 : decode cX12_spread 185 = .ok (.aaload, 1) := by decide +kernel
theorem dX12_spread_186 : decode cX12_spread 186 = .ok (.iload_n 1, 1) := by decide +kernel
theorem dX12_spread_187 : decode cX12_spread 187 = .ok (.invokevirtual 72, 3) := by decide +kernel
theorem dX12_spread_190 : decode cX12_spread 190 = .ok (.ifCond .eq 36, 3) := by decide +kernel
theorem dX12_spread_193 : decode cX12_spread 193 = .ok (.iload 4, 2) := by decide +kernel
theorem dX12_spread_195 : decode cX12_spread 195 = .ok (.aload_n 0, 1) := by decide +kernel
theorem dX12_spread_196 : decode cX12_spread 196 = .ok (.iload_n 3, 1) := by decide +kernel
theorem dX12_spread_197 : decode cX12_spread 197 = .ok (.ifCond .eq 14, 3) := by decide +kernel
theorem dX12_spread_200 : decode cX12_spread 200 = .ok (.aload 6, 2) := by decide +kernel
theorem dX12_spread_202 : decode cX12_spread 202 = .ok (.getfield 107, 3) := by decide +kernel
theorem dX12_spread_205 : decode cX12_spread 205 = .ok (.iload 8, 2) := by decide +kernel
theorem dX12_spread_207 : decode cX12_spread 207 = .ok (.aaload, 1) := by decide +kernel
theorem dX12_spread_208 : decode cX12_spread 208 = .ok (.goto 11, 3) := by decide +kernel
theorem dX12_spread_211 : decode cX12_spread 211 = .ok (.aload 6, 2) := by decide +kernel
theorem dX12_spread_213 : decode cX12_spread 213 = .ok (.getfield 110, 3) := by decide +kernel
theorem dX12_spread_216 : decode cX12_spread 216 = .ok (.iload 8, 2) := by decide +kernel
theorem dX12_spread_218 : decode cX12_spread 218 = .ok (.aaload, 1) := by decide +kernel
theorem dX12_spread_219 : decode cX12_spread 219 = .ok (.iload_n 1, 1) := by decide +kernel
theorem dX12_spread_220 : decode cX12_spread 220 = .ok (.invokevirtual 79, 3) := by decide +kernel
theorem dX12_spread_223 : decode cX12_spread 223 = .ok (.ior, 1) := by decide +kernel
theorem dX12_spread_224 : decode cX12_spread 224 = .ok (.istore 4, 2) := by decide +kernel
theorem dX12_spread_226 : decode cX12_spread 226 = .ok (.iinc 8 1, 3) := by decide +kernel
theorem dX12_spread_229 : decode cX12_spread 229 = .ok (.goto (-64), 3) := by decide +kernel
theorem dX12_spread_232 : decode cX12_spread 232 = .ok (.iinc 5 1, 3) := by decide +kernel
theorem dX12_spread_235 : decode cX12_spread 235 = .ok (.goto (-221), 3) := by decide +kernel
theorem dX12_spread_238 : decode cX12_spread 238 = .ok (.goto (-235), 3) := by decide +kernel
theorem dX12_spread_241 : decode cX12_spread 241 = .ok (.return_, 1) := by decide +kernel
theorem dX12_toKeep_0 : decode cX12_toKeep 0 = .ok (.aload_n 0, 1) := by decide +kernel
theorem dX12_toKeep_1 : decode cX12_toKeep 1 = .ok (.iconst 4, 1) := by decide +kernel
theorem dX12_toKeep_2 : decode cX12_toKeep 2 = .ok (.invokevirtual 113, 3) := by decide +kernel
theorem dX12_toKeep_5 : decode cX12_toKeep 5 = .ok (.iconst 0, 1) := by decide +kernel
theorem dX12_toKeep_6 : decode cX12_toKeep 6 = .ok (.istore_n 1, 1) := by decide +kernel
theorem dX12_toKeep_7 : decode cX12_toKeep 7 = .ok (.iload_n 1, 1) := by decide +kernel
theorem dX12_toKeep_8 : decode cX12_toKeep 8 = .ok (.aload_n 0, 1) := by decide +kernel
theorem dX12_toKeep_9 : decode cX12_toKeep 9 = .ok (.getfield 58, 3) := by decide +kernel
theorem dX12_toKeep_12 : decode cX12_toKeep 12 = .ok (.if_icmp .ge 61, 3) := by decide +kernel
theorem dX12_toKeep_15 : decode cX12_toKeep 15 = .ok (.aload_n 0, 1) := by decide +kernel
theorem dX12_toKeep_16 : decode cX12_toKeep 16 = .ok (.getfield 9, 3) := by decide +kernel
theorem dX12_toKeep_19 : decode cX12_toKeep 19 = .ok (.iload_n 1, 1) := by decide +kernel
theorem dX12_toKeep_20 : decode cX12_toKeep 20 = .ok (.aaload, 1) := by decide +kernel
theorem dX12_toKeep_21 : decode cX12_toKeep 21 = .ok (.getfield 124, 3) := by decide +kernel
theorem dX12_toKeep_24 : decode cX12_toKeep 24 = .ok (.ifCond .ne 31, 3) := by decide +kernel
theorem dX12_toKeep_27 : decode cX12_toKeep 27 = .ok (.aload_n 0, 1) := by decide +kernel
theorem dX12_toKeep_28 : decode cX12_toKeep 28 = .ok (.getfield 9, 3) := by decide +kernel
theorem dX12_toKeep_31 : decode cX12_toKeep 31 = .ok (.iload_n 1, 1) := by decide +kernel
theorem dX12_toKeep_32 : decode cX12_toKeep 32 = .ok (.aaload, 1) := by decide +kernel
theorem dX12_toKeep_33 : decode cX12_toKeep 33 = .ok (.getfield 127, 3) := by decide +kernel
theorem dX12_toKeep_36 : decode cX12_toKeep 36 = .ok (.ifCond .eq 31, 3) := by decide +kernel
theorem dX12_toKeep_39 : decode cX12_toKeep 39 = .ok (.aload_n 0, 1) := by decide +kernel
theorem dX12_toKeep_40 : decode cX12_toKeep 40 = .ok (.getfield 9, 3) := by decide +kernel
theorem dX12_toKeep_43 : decode cX12_toKeep 43 = .ok (.iload_n 1, 1) := by decide +kernel
theorem dX12_toKeep_44 : decode cX12_toKeep 44 = .ok (.aaload, 1) := by decide +kernel
theorem dX12_toKeep_45 : decode cX12_toKeep 45 = .ok (.getfield 42, 3) := by decide +kernel
theorem dX12_toKeep_48 : decode cX12_toKeep 48 = .ok (.aload_n 0, 1) := by decide +kernel
theorem dX12_toKeep_49 : decode cX12_toKeep 49 = .ok (.getfield 130, 3) := by decide +kernel
theorem dX12_toKeep_52 : decode cX12_toKeep 52 = .ok (.if_icmp .ge 15, 3) := by decide +kernel
theorem dX12_toKeep_55 : decode cX12_toKeep 55 = .ok (.aload_n 0, 1) := by decide +kernel
theorem dX12_toKeep_56 : decode cX12_toKeep 56 = .ok (.aload_n 0, 1) := by decide +kernel
theorem dX12_toKeep_57 : decode cX12_toKeep 57 = .ok (.getfield 9, 3) := by decide +kernel
theorem dX12_toKeep_60 : decode cX12_toKeep 60 = .ok (.iload_n 1, 1) := by decide +kernel
theorem dX12_toKeep_61 : decode cX12_toKeep 61 = .ok (.aaload, 1) := by decide +kernel
theorem dX12_toKeep_62 : decode cX12_toKeep 62 = .ok (.iconst 4, 1) := by decide +kernel
theorem dX12_toKeep_63 : decode cX12_toKeep 63 = .ok (.invokevirtual 79, 3) := by decide +kernel
theorem dX12_toKeep_66 : decode cX12_toKeep 66 = .ok (.pop, 1) := by decide +kernel
theorem dX12_toKeep_67 : decode cX12_toKeep 67 = .ok (.iinc 1 1, 3) := by decide +kernel
theorem dX12_toKeep_70 : decode cX12_toKeep 70 = .ok (.goto (-63), 3) := by decide +kernel
theorem dX12_toKeep_73 : decode cX12_toKeep 73 = .ok (.aload_n 0, 1) := by decide +kernel
theorem dX12_toKeep_74 : decode cX12_toKeep 74 = .ok (.iconst 4, 1) := by decide +kernel
theorem dX12_toKeep_75 : decode cX12_toKeep 75 = .ok (.iconst 0, 1) := by decide +kernel
theorem dX12_toKeep_76 : decode cX12_toKeep 76 = .ok (.iconst 1, 1) := by decide +kernel
theorem dX12_toKeep_77 : decode cX12_toKeep 77 = .ok (.invokevirtual 120, 3) := by decide +kernel
theorem dX12_toKeep_80 : decode cX12_toKeep 80 = .ok (.aload_n 0, 1) := by decide +kernel
theorem dX12_toKeep_81 : decode cX12_toKeep 81 = .ok (.iconst 4, 1) := by decide +kernel
theorem dX12_toKeep_82 : decode cX12_toKeep 82 = .ok (.invokevirtual 133, 3) := by decide +kernel
theorem dX12_toKeep_85 : decode cX12_toKeep 85 = .ok (.ireturn, 1) := by decide +kernel
theorem dX12_collect_0 : decode cX12_collect 0 = .ok (.iload_n 1, 1) := by decide +kernel
theorem dX12_collect_1 : decode cX12_collect 1 = .ok (.ifCond .ne 26, 3) := by decide +kernel
theorem dX12_collect_4 : decode cX12_collect 4 = .ok (.aload_n 0, 1) := by decide +kernel
theorem dX12_collect_5 : decode cX12_collect 5 = .ok (.iconst 1, 1) := by decide +kernel
theorem dX12_collect_6 : decode cX12_collect 6 = .ok (.invokevirtual 137, 3) := by decide +kernel
theorem dX12_collect_9 : decode cX12_collect 9 = .ok (.aload_n 0, 1) := by decide +kernel
theorem dX12_collect_10 : decode cX12_collect 10 = .ok (.iconst 0, 1) := by decide +kernel
theorem dX12_collect_11 : decode cX12_collect 11 = .ok (.invokevirtual 137, 3) := by decide +kernel
theorem dX12_collect_14 : decode cX12_collect 14 = .ok (.iadd, 1) := by decide +kernel
theorem dX12_collect_15 : decode cX12_collect 15 = .ok (.sipush 320, 3) := by decide +kernel
theorem dX12_collect_18 : decode cX12_collect 18 = .ok (.if_icmp .le 9, 3) := by decide +kernel
theorem dX12_collect_21 : decode cX12_collect 21 = .ok (.aload_n 0, 1) := by decide +kernel
theorem dX12_collect_22 : decode cX12_collect 22 = .ok (.iconst 1, 1) := by decide +kernel
theorem dX12_collect_23 : decode cX12_collect 23 = .ok (.invokevirtual 140, 3) := by decide +kernel
theorem dX12_collect_26 : decode cX12_collect 26 = .ok (.ireturn, 1) := by decide +kernel
theorem dX12_collect_27 : decode cX12_collect 27 = .ok (.iload_n 1, 1) := by decide +kernel
theorem dX12_collect_28 : decode cX12_collect 28 = .ok (.iconst 2, 1) := by decide +kernel
theorem dX12_collect_29 : decode cX12_collect 29 = .ok (.if_icmp .ne 7, 3) := by decide +kernel
theorem dX12_collect_32 : decode cX12_collect 32 = .ok (.iconst 1, 1) := by decide +kernel
theorem dX12_collect_33 : decode cX12_collect 33 = .ok (.goto 4, 3) := by decide +kernel
theorem dX12_collect_36 : decode cX12_collect 36 = .ok (.iconst 0, 1) := by decide +kernel
theorem dX12_collect_37 : decode cX12_collect 37 = .ok (.istore_n 2, 1) := by decide +kernel
theorem dX12_collect_38 : decode cX12_collect 38 = .ok (.aload_n 0, 1) := by decide +kernel
theorem dX12_collect_39 : decode cX12_collect 39 = .ok (.iconst 3, 1) := by decide +kernel
theorem dX12_collect_40 : decode cX12_collect 40 = .ok (.invokevirtual 113, 3) := by decide +kernel
theorem dX12_collect_43 : decode cX12_collect 43 = .ok (.iload_n 1, 1) := by decide +kernel
theorem dX12_collect_44 : decode cX12_collect 44 = .ok (.iconst 3, 1) := by decide +kernel
theorem dX12_collect_45 : decode cX12_collect 45 = .ok (.if_icmp .ne 63, 3) := by decide +kernel
theorem dX12_collect_48 : decode cX12_collect 48 = .ok (.iconst 0, 1) := by decide +kernel
theorem dX12_collect_49 : decode cX12_collect 49 = .ok (.istore_n 3, 1) := by decide +kernel
theorem dX12_collect_50 : decode cX12_collect 50 = .ok (.iload_n 3, 1) := by decide +kernel
theorem dX12_collect_51 : decode cX12_collect 51 = .ok (.aload_n 0, 1) := by decide +kernel
theorem dX12_collect_52 : decode cX12_collect 52 = .ok (.getfield 58, 3) := by decide +kernel
theorem dX12_collect_55 : decode cX12_collect 55 = .ok (.if_icmp .ge 50, 3) := by decide +kernel
theorem dX12_collect_58 : decode cX12_collect 58 = .ok (.aload_n 0, 1) := by decide +kernel
theorem dX12_collect_59 : decode cX12_collect 59 = .ok (.getfield 9, 3) := by decide +kernel
theorem dX12_collect_62 : decode cX12_collect 62 = .ok (.iload_n 3, 1) := by decide +kernel
theorem dX12_collect_63 : decode cX12_collect 63 = .ok (.aaload, 1) := by decide +kernel
theorem dX12_collect_64 : decode cX12_collect 64 = .ok (.iconst 4, 1) := by decide +kernel
theorem dX12_collect_65 : decode cX12_collect 65 = .ok (.invokevirtual 72, 3) := by decide +kernel
theorem dX12_collect_68 : decode cX12_collect 68 = .ok (.ifCond .ne 19, 3) := by decide +kernel
theorem dX12_collect_71 : decode cX12_collect 71 = .ok (.aload_n 0, 1) := by decide +kernel
theorem dX12_collect_72 : decode cX12_collect 72 = .ok (.getfield 9, 3) := by decide +kernel
theorem dX12_collect_75 : decode cX12_collect 75 = .ok (.iload_n 3, 1) := by decide +kernel
theorem dX12_collect_76 : decode cX12_collect 76 = .ok (.aaload, 1) := by decide +kernel
theorem dX12_collect_77 : decode cX12_collect 77 = .ok (.getfield 42, 3) := by decide +kernel
theorem dX12_collect_80 : decode cX12_collect 80 = .ok (.aload_n 0, 1) := by decide +kernel
theorem dX12_collect_81 : decode cX12_collect 81 = .ok (.getfield 130, 3) := by decide +kernel
theorem dX12_collect_84 : decode cX12_collect 84 = .ok (.if_icmp .lt 15, 3) := by decide +kernel
theorem dX12_collect_87 : decode cX12_collect 87 = .ok (.aload_n 0, 1) := by decide +kernel
theorem dX12_collect_88 : decode cX12_collect 88 = .ok (.aload_n 0, 1) := by decide +kernel
theorem dX12_collect_89 : decode cX12_collect 89 = .ok (.getfield 9, 3) := by decide +kernel
theorem dX12_collect_92 : decode cX12_collect 92 = .ok (.iload_n 3, 1) := by decide +kernel
theorem dX12_collect_93 : decode cX12_collect 93 = .ok (.aaload, 1) := by decide +kernel
theorem dX12_collect_94 : decode cX12_collect 94 = .ok (.iconst 1, 1) := by decide +kernel
theorem dX12_collect_95 : decode cX12_collect 95 = .ok (.invokevirtual 79, 3) := by decide +kernel
theorem dX12_collect_98 : decode cX12_collect 98 = .ok (.pop, 1) := by decide +kernel
theorem dX12_collect_99 : decode cX12_collect 99 = .ok (.iinc 3 1, 3) := by decide +kernel
theorem dX12_collect_102 : decode cX12_collect 102 = .ok (.goto (-52), 3) := by decide +kernel
theorem dX12_collect_105 : decode cX12_collect 105 = .ok (.goto 59, 3) := by decide +kernel
theorem dX12_collect_108 : decode cX12_collect 108 = .ok (.aload_n 0, 1) := by decide +kernel
theorem dX12_collect_109 : decode cX12_collect 109 = .ok (.iconst 1, 1) := by decide +kernel
theorem dX12_collect_110 : decode cX12_collect 110 = .ok (.invokevirtual 117, 3) := by decide +kernel
theorem dX12_collect_113 : decode cX12_collect 113 = .ok (.iconst 0, 1) := by decide +kernel
theorem dX12_collect_114 : decode cX12_collect 114 = .ok (.istore_n 3, 1) := by decide +kernel
theorem dX12_collect_115 : decode cX12_collect 115 = .ok (.iload_n 3, 1) := by decide +kernel
theorem dX12_collect_116 : decode cX12_collect 116 = .ok (.aload_n 0, 1) := by decide +kernel
theorem dX12_collect_117 : decode cX12_collect 117 = .ok (.getfield 58, 3) := by decide +kernel
theorem dX12_collect_120 : decode cX12_collect 120 = .ok (.if_icmp .ge 37, 3) := by decide +kernel
theorem dX12_collect_123 : decode cX12_collect 123 = .ok (.iload_n 1, 1) := by decide +kernel
theorem dX12_collect_124 : decode cX12_collect 124 = .ok (.ifCond .ne 27, 3) := by decide +kernel
theorem dX12_collect_127 : decode cX12_collect 127 = .ok (.aload_n 0, 1) := by decide +kernel
theorem dX12_collect_128 : decode cX12_collect 128 = .ok (.getfield 9, 3) := by decide +kernel
theorem dX12_collect_131 : decode cX12_collect 131 = .ok (.iload_n 3, 1) := by decide +kernel
theorem dX12_collect_132 : decode cX12_collect 132 = .ok (.aaload, 1) := by decide +kernel
theorem dX12_collect_133 : decode cX12_collect 133 = .ok (.getfield 61, 3) := by decide +kernel
theorem dX12_collect_136 : decode cX12_collect 136 = .ok (.ifCond .eq 15, 3) := by decide +kernel
theorem dX12_collect_139 : decode cX12_collect 139 = .ok (.aload_n 0, 1) := by decide +kernel
theorem dX12_collect_140 : decode cX12_collect 140 = .ok (.aload_n 0, 1) := by decide +kernel
theorem dX12_collect_141 : decode cX12_collect 141 = .ok (.getfield 9, 3) := by decide +kernel
theorem dX12_collect_144 : decode cX12_collect 144 = .ok (.iload_n 3, 1) := by decide +kernel
theorem dX12_collect_145 : decode cX12_collect 145 = .ok (.aaload, 1) := by decide +kernel
theorem dX12_collect_146 : decode cX12_collect 146 = .ok (.iconst 1, 1) := by decide +kernel
theorem dX12_collect_147 : decode cX12_collect 147 = .ok (.invokevirtual 79, 3) := by decide +kernel
theorem dX12_collect_150 : decode cX12_collect 150 = .ok (.pop, 1) := by decide +kernel
theorem dX12_collect_151 : decode cX12_collect 151 = .ok (.iinc 3 1, 3) := by decide +kernel
theorem dX12_collect_154 : decode cX12_collect 154 = .ok (.goto (-39), 3) := by decide +kernel
theorem dX12_collect_157 : decode cX12_collect 157 = .ok (.aload_n 0, 1) := by decide +kernel
theorem dX12_collect_158 : decode cX12_collect 158 = .ok (.iconst 1, 1) := by decide +kernel
theorem dX12_collect_159 : decode cX12_collect 159 = .ok (.iload_n 2, 1) := by decide +kernel
theorem dX12_collect_160 : decode cX12_collect 160 = .ok (.iconst 0, 1) := by decide +kernel
theorem dX12_collect_161 : decode cX12_collect 161 = .ok (.invokevirtual 120, 3) := by decide +kernel
theorem dX12_collect_164 : decode cX12_collect 164 = .ok (.iconst 0, 1) := by decide +kernel
theorem dX12_collect_165 : decode cX12_collect 165 = .ok (.istore_n 3, 1) := by decide +kernel
theorem dX12_collect_166 : decode cX12_collect 166 = .ok (.iload_n 3, 1) := by decide +kernel
theorem dX12_collect_167 : decode cX12_collect 167 = .ok (.aload_n 0, 1) := by decide +kernel
theorem dX12_collect_168 : decode cX12_collect 168 = .ok (.getfield 58, 3) := by decide +kernel
theorem dX12_collect_171 : decode cX12_collect 171 = .ok (.if_icmp .ge 88, 3) := by decide +kernel
theorem dX12_collect_174 : decode cX12_collect 174 = .ok (.aload_n 0, 1) := by decide +kernel
theorem dX12_collect_175 : decode cX12_collect 175 = .ok (.getfield 9, 3) := by decide +kernel
theorem dX12_collect_178 : decode cX12_collect 178 = .ok (.iload_n 3, 1) := by decide +kernel
theorem dX12_collect_179 : decode cX12_collect 179 = .ok (.aaload, 1) := by decide +kernel
theorem dX12_collect_180 : decode cX12_collect 180 = .ok (.astore 4, 2) := by decide +kernel
theorem dX12_collect_182 : decode cX12_collect 182 = .ok (.aload 4, 2) := by decide +kernel
theorem dX12_collect_184 : decode cX12_collect 184 = .ok (.iconst 1, 1) := by decide +kernel
theorem dX12_collect_185 : decode cX12_collect 185 = .ok (.invokevirtual 72, 3) := by decide +kernel
theorem dX12_collect_188 : decode cX12_collect 188 = .ok (.ifCond .eq 14, 3) := by decide +kernel
theorem dX12_collect_191 : decode cX12_collect 191 = .ok (.aload_n 0, 1) := by decide +kernel
theorem dX12_collect_192 : decode cX12_collect 192 = .ok (.aload 4, 2) := by decide +kernel
theorem dX12_collect_194 : decode cX12_collect 194 = .ok (.iconst 2, 1) := by decide +kernel
theorem dX12_collect_195 : decode cX12_collect 195 = .ok (.invokevirtual 79, 3) := by decide +kernel
theorem dX12_collect_198 : decode cX12_collect 198 = .ok (.pop, 1) := by decide +kernel
theorem dX12_collect_199 : decode cX12_collect 199 = .ok (.goto 54, 3) := by decide +kernel
theorem dX12_collect_202 : decode cX12_collect 202 = .ok (.aload 4, 2) := by decide +kernel
theorem dX12_collect_204 : decode cX12_collect 204 = .ok (.getfield 143, 3) := by decide +kernel
theorem dX12_collect_207 : decode cX12_collect 207 = .ok (.ifCond .eq 46, 3) := by decide +kernel
theorem dX12_collect_210 : decode cX12_collect 210 = .ok (.aload 4, 2) := by decide +kernel
theorem dX12_collect_212 : decode cX12_collect 212 = .ok (.getfield 146, 3) := by decide +kernel
theorem dX12_collect_215 : decode cX12_collect 215 = .ok (.ifCond .ne 38, 3) := by decide +kernel
theorem dX12_collect_218 : decode cX12_collect 218 = .ok (.aload 4, 2) := by decide +kernel
theorem dX12_collect_220 : decode cX12_collect 220 = .ok (.iconst 1, 1) := by decide +kernel
theorem dX12_collect_221 : decode cX12_collect 221 = .ok (.putfield 146, 3) := by decide +kernel
theorem dX12_collect_224 : decode cX12_collect 224 = .ok (.aload_n 0, 1) := by decide +kernel
theorem dX12_collect_225 : decode cX12_collect 225 = .ok (.getfield 32, 3) := by decide +kernel
theorem dX12_collect_228 : decode cX12_collect 228 = .ok (.aload_n 0, 1) := by decide +kernel
theorem dX12_collect_229 : decode cX12_collect 229 = .ok (.getfield 86, 3) := by decide +kernel
theorem dX12_collect_232 : decode cX12_collect 232 = .ok (.aload 4, 2) := by decide +kernel
theorem dX12_collect_234 : decode cX12_collect 234 = .ok (.aastore, 1) := by decide +kernel
theorem dX12_collect_235 : decode cX12_collect 235 = .ok (.aload_n 0, 1) := by decide +kernel
theorem dX12_collect_236 : decode cX12_collect 236 = .ok (.dup, 1) := by decide +kernel
theorem dX12_collect_237 : decode cX12_collect 237 = .ok (.getfield 86, 3) := by decide +kernel
theorem dX12_collect_240 : decode cX12_collect 240 = .ok (.iconst 1, 1) := by decide +kernel
theorem dX12_collect_241 : decode cX12_collect 241 = .ok (.iadd, 1) := by decide +kernel
theorem dX12_collect_242 : decode cX12_collect 242 = .ok (.putfield 86, 3) := by decide +kernel
theorem dX12_collect_245 : decode cX12_collect 245 = .ok (.aload_n 0, 1) := by decide +kernel
theorem dX12_collect_246 : decode cX12_collect 246 = .ok (.aload 4, 2) := by decide +kernel
theorem dX12_collect_248 : decode cX12_collect 248 = .ok (.iconst 2, 1) := by decide +kernel
theorem dX12_collect_249 : decode cX12_collect 249 = .ok (.invokevirtual 79, 3) := by decide +kernel
theorem dX12_collect_252 : decode cX12_collect 252 = .ok (.pop, 1) := by decide +kernel
theorem dX12_collect_253 : decode cX12_collect 253 = .ok (.iinc 3 1, 3) := by decide +kernel
theorem dX12_collect_256 : decode cX12_collect 256 = .ok (.goto (-90), 3) := by decide +kernel
theorem dX12_collect_259 : decode cX12_collect 259 = .ok (.aload_n 0, 1) := by decide +kernel
theorem dX12_collect_260 : decode cX12_collect 260 = .ok (.iconst 2, 1) := by decide +kernel
theorem dX12_collect_261 : decode cX12_collect 261 = .ok (.iload_n 2, 1) := by decide +kernel
theorem dX12_collect_262 : decode cX12_collect 262 = .ok (.iconst 0, 1) := by decide +kernel
theorem dX12_collect_263 : decode cX12_collect 263 = .ok (.invokevirtual 120, 3) := by decide +kernel
theorem dX12_collect_266 : decode cX12_collect 266 = .ok (.iconst 0, 1) := by decide +kernel
theorem dX12_collect_267 : decode cX12_collect 267 = .ok (.istore_n 3, 1) := by decide +kernel
theorem dX12_collect_268 : decode cX12_collect 268 = .ok (.aload_n 0, 1) := by decide +kernel
theorem dX12_collect_269 : decode cX12_collect 269 = .ok (.getfield 58, 3) := by decide +kernel
theorem dX12_collect_272 : decode cX12_collect 272 = .ok (.istore 4, 2) := by decide +kernel
theorem dX12_collect_274 : decode cX12_collect 274 = .ok (.iconst 0, 1) := by decide +kernel
theorem dX12_collect_275 : decode cX12_collect 275 = .ok (.istore 5, 2) := by decide +kernel
theorem dX12_collect_277 : decode cX12_collect 277 = .ok (.iload 5, 2) := by decide +kernel
theorem dX12_collect_279 : decode cX12_collect 279 = .ok (.iload 4, 2) := by decide +kernel
theorem dX12_collect_281 : decode cX12_collect 281 = .ok (.if_icmp .ge 47, 3) := by decide +kernel
theorem dX12_collect_284 : decode cX12_collect 284 = .ok (.aload_n 0, 1) := by decide +kernel
theorem dX12_collect_285 : decode cX12_collect 285 = .ok (.getfield 9, 3) := by decide +kernel
theorem dX12_collect_288 : decode cX12_collect 288 = .ok (.iload 5, 2) := by decide +kernel
theorem dX12_collect_290 : decode cX12_collect 290 = .ok (.aaload, 1) := by decide +kernel
theorem dX12_collect_291 : decode cX12_collect 291 = .ok (.astore 6, 2) := by decide +kernel
theorem dX12_collect_293 : decode cX12_collect 293 = .ok (.aload 6, 2) := by decide +kernel
theorem dX12_collect_295 : decode cX12_collect 295 = .ok (.iconst 2, 1) := by decide +kernel
theorem dX12_collect_296 : decode cX12_collect 296 = .ok (.invokevirtual 72, 3) := by decide +kernel
theorem dX12_collect_299 : decode cX12_collect 299 = .ok (.ifCond .ne 6, 3) := by decide +kernel
theorem dX12_collect_302 : decode cX12_collect 302 = .ok (.goto 20, 3) := by decide +kernel
theorem dX12_collect_305 : decode cX12_collect 305 = .ok (.aload_n 0, 1) := by decide +kernel
theorem dX12_collect_306 : decode cX12_collect 306 = .ok (.aload 6, 2) := by decide +kernel
theorem dX12_collect_308 : decode cX12_collect 308 = .ok (.invokevirtual 149, 3) := by decide +kernel
theorem dX12_collect_311 : decode cX12_collect 311 = .ok (.aload_n 0, 1) := by decide +kernel
theorem dX12_collect_312 : decode cX12_collect 312 = .ok (.getfield 9, 3) := by decide +kernel
theorem dX12_collect_315 : decode cX12_collect 315 = .ok (.iload_n 3, 1) := by decide +kernel
theorem dX12_collect_316 : decode cX12_collect 316 = .ok (.aload 6, 2) := by decide +kernel
theorem dX12_collect_318 : decode cX12_collect 318 = .ok (.aastore, 1) := by decide +kernel
theorem dX12_collect_319 : decode cX12_collect 319 = .ok (.iinc 3 1, 3) := by decide +kernel
theorem dX12_collect_322 : decode cX12_collect 322 = .ok (.iinc 5 1, 3) := by decide +kernel
theorem dX12_collect_325 : decode cX12_collect 325 = .ok (.goto (-48), 3) := by decide +kernel
theorem dX12_collect_328 : decode cX12_collect 328 = .ok (.aload_n 0, 1) := by decide +kernel
theorem dX12_collect_329 : decode cX12_collect 329 = .ok (.iload_n 3, 1) := by decide +kernel
theorem dX12_collect_330 : decode cX12_collect 330 = .ok (.putfield 58, 3) := by decide +kernel
theorem dX12_collect_333 : decode cX12_collect 333 = .ok (.aload_n 0, 1) := by decide +kernel
theorem dX12_collect_334 : decode cX12_collect 334 = .ok (.iload_n 1, 1) := by decide +kernel
theorem dX12_collect_335 : decode cX12_collect 335 = .ok (.ifCond .ne 7, 3) := by decide +kernel
theorem dX12_collect_338 : decode cX12_collect 338 = .ok (.iconst 1, 1) := by decide +kernel
theorem dX12_collect_339 : decode cX12_collect 339 = .ok (.goto 4, 3) := by decide +kernel
theorem dX12_collect_342 : decode cX12_collect 342 = .ok (.iconst 0, 1) := by decide +kernel
theorem dX12_collect_343 : decode cX12_collect 343 = .ok (.invokevirtual 153, 3) := by decide +kernel
theorem dX12_collect_346 : decode cX12_collect 346 = .ok (.iload 4, 2) := by decide +kernel
theorem dX12_collect_348 : decode cX12_collect 348 = .ok (.iload_n 3, 1) := by decide +kernel
theorem dX12_collect_349 : decode cX12_collect 349 = .ok (.isub, 1) := by decide +kernel
theorem dX12_collect_350 : decode cX12_collect 350 = .ok (.ireturn, 1) := by decide +kernel
theorem dX12_loosen_0 : decode cX12_loosen 0 = .ok (.aload_n 1, 1) := by decide +kernel
theorem dX12_loosen_1 : decode cX12_loosen 1 = .ok (.getfield 92, 3) := by decide +kernel
theorem dX12_loosen_4 : decode cX12_loosen 4 = .ok (.ifnull 58, 3) := by decide +kernel
theorem dX12_loosen_7 : decode cX12_loosen 7 = .ok (.aload_n 1, 1) := by decide +kernel
theorem dX12_loosen_8 : decode cX12_loosen 8 = .ok (.getfield 92, 3) := by decide +kernel
theorem dX12_loosen_11 : decode cX12_loosen 11 = .ok (.aload_n 1, 1) := by decide +kernel
theorem dX12_loosen_12 : decode cX12_loosen 12 = .ok (.getfield 52, 3) := by decide +kernel
theorem dX12_loosen_15 : decode cX12_loosen 15 = .ok (.iconst 5, 1) := by decide +kernel
theorem dX12_loosen_16 : decode cX12_loosen 16 = .ok (.if_icmp .ne 7, 3) := by decide +kernel
theorem dX12_loosen_19 : decode cX12_loosen 19 = .ok (.iconst 2, 1) := by decide +kernel
theorem dX12_loosen_20 : decode cX12_loosen 20 = .ok (.goto 4, 3) := by decide +kernel
theorem dX12_loosen_23 : decode cX12_loosen 23 = .ok (.iconst 1, 1) := by decide +kernel
theorem dX12_loosen_24 : decode cX12_loosen 24 = .ok (.invokevirtual 72, 3) := by decide +kernel
theorem dX12_loosen_27 : decode cX12_loosen 27 = .ok (.ifCond .ne 35, 3) := by decide +kernel
theorem dX12_loosen_30 : decode cX12_loosen 30 = .ok (.aload_n 1, 1) := by decide +kernel
theorem dX12_loosen_31 : decode cX12_loosen 31 = .ok (.aconst_null, 1) := by decide +kernel
theorem dX12_loosen_32 : decode cX12_loosen 32 = .ok (.putfield 92, 3) := by decide +kernel
theorem dX12_loosen_35 : decode cX12_loosen 35 = .ok (.aload_n 1, 1) := by decide +kernel
theorem dX12_loosen_36 : decode cX12_loosen 36 = .ok (.getfield 157, 3) := by decide +kernel
theorem dX12_loosen_39 : decode cX12_loosen 39 = .ok (.ifCond .eq 23, 3) := by decide +kernel
theorem dX12_loosen_42 : decode cX12_loosen 42 = .ok (.aload_n 0, 1) := by decide +kernel
theorem dX12_loosen_43 : decode cX12_loosen 43 = .ok (.getfield 29, 3) := by decide +kernel
theorem dX12_loosen_46 : decode cX12_loosen 46 = .ok (.aload_n 0, 1) := by decide +kernel
theorem dX12_loosen_47 : decode cX12_loosen 47 = .ok (.getfield 83, 3) := by decide +kernel
theorem dX12_loosen_50 : decode cX12_loosen 50 = .ok (.aload_n 1, 1) := by decide +kernel
theorem dX12_loosen_51 : decode cX12_loosen 51 = .ok (.aastore, 1) := by decide +kernel
theorem dX12_loosen_52 : decode cX12_loosen 52 = .ok (.aload_n 0, 1) := by decide +kernel
theorem dX12_loosen_53 : decode cX12_loosen 53 = .ok (.dup, 1) := by decide +kernel
theorem dX12_loosen_54 : decode cX12_loosen 54 = .ok (.getfield 83, 3) := by decide +kernel
theorem dX12_loosen_57 : decode cX12_loosen 57 = .ok (.iconst 1, 1) := by decide +kernel
theorem dX12_loosen_58 : decode cX12_loosen 58 = .ok (.iadd, 1) := by decide +kernel
theorem dX12_loosen_59 : decode cX12_loosen 59 = .ok (.putfield 83, 3) := by decide +kernel
theorem dX12_loosen_62 : decode cX12_loosen 62 = .ok (.iconst 0, 1) := by decide +kernel
theorem dX12_loosen_63 : decode cX12_loosen 63 = .ok (.istore_n 2, 1) := by decide +kernel
theorem dX12_loosen_64 : decode cX12_loosen 64 = .ok (.iload_n 2, 1) := by decide +kernel
theorem dX12_loosen_65 : decode cX12_loosen 65 = .ok (.aload_n 1, 1) := by decide +kernel
theorem dX12_loosen_66 : decode cX12_loosen 66 = .ok (.getfield 104, 3) := by decide +kernel
theorem dX12_loosen_69 : decode cX12_loosen 69 = .ok (.arraylength, 1) := by decide +kernel
theorem dX12_loosen_70 : decode cX12_loosen 70 = .ok (.if_icmp .ge 48, 3) := by decide +kernel
theorem dX12_loosen_73 : decode cX12_loosen 73 = .ok (.aload_n 1, 1) := by decide +kernel
theorem dX12_loosen_74 : decode cX12_loosen 74 = .ok (.getfield 104, 3) := by decide +kernel
theorem dX12_loosen_77 : decode cX12_loosen 77 = .ok (.iload_n 2, 1) := by decide +kernel
theorem dX12_loosen_78 : decode cX12_loosen 78 = .ok (.aaload, 1) := by decide +kernel
theorem dX12_loosen_79 : decode cX12_loosen 79 = .ok (.ifnull 33, 3) := by decide +kernel
theorem dX12_loosen_82 : decode cX12_loosen 82 = .ok (.aload_n 1, 1) := by decide +kernel
theorem dX12_loosen_83 : decode cX12_loosen 83 = .ok (.getfield 104, 3) := by decide +kernel
theorem dX12_loosen_86 : decode cX12_loosen 86 = .ok (.iload_n 2, 1) := by decide +kernel
theorem dX12_loosen_87 : decode cX12_loosen 87 = .ok (.aaload, 1) := by decide +kernel
theorem dX12_loosen_88 : decode cX12_loosen 88 = .ok (.iconst 2, 1) := by decide +kernel
theorem dX12_loosen_89 : decode cX12_loosen 89 = .ok (.invokevirtual 72, 3) := by decide +kernel
theorem dX12_loosen_92 : decode cX12_loosen 92 = .ok (.ifCond .eq 6, 3) := by decide +kernel
theorem dX12_loosen_95 : decode cX12_loosen 95 = .ok (.goto 17, 3) := by decide +kernel
theorem dX12_loosen_98 : decode cX12_loosen 98 = .ok (.aload_n 1, 1) := by decide +kernel
theorem dX12_loosen_99 : decode cX12_loosen 99 = .ok (.getfield 104, 3) := by decide +kernel
theorem dX12_loosen_102 : decode cX12_loosen 102 = .ok (.iload_n 2, 1) := by decide +kernel
theorem dX12_loosen_103 : decode cX12_loosen 103 = .ok (.aconst_null, 1) := by decide +kernel
theorem dX12_loosen_104 : decode cX12_loosen 104 = .ok (.aastore, 1) := by decide +kernel
theorem dX12_loosen_105 : decode cX12_loosen 105 = .ok (.aload_n 1, 1) := by decide +kernel
theorem dX12_loosen_106 : decode cX12_loosen 106 = .ok (.getfield 110, 3) := by decide +kernel
theorem dX12_loosen_109 : decode cX12_loosen 109 = .ok (.iload_n 2, 1) := by decide +kernel
theorem dX12_loosen_110 : decode cX12_loosen 110 = .ok (.aconst_null, 1) := by decide +kernel
theorem dX12_loosen_111 : decode cX12_loosen 111 = .ok (.aastore, 1) := by decide +kernel
theorem dX12_loosen_112 : decode cX12_loosen 112 = .ok (.iinc 2 1, 3) := by decide +kernel
theorem dX12_loosen_115 : decode cX12_loosen 115 = .ok (.goto (-51), 3) := by decide +kernel
theorem dX12_loosen_118 : decode cX12_loosen 118 = .ok (.return_, 1) := by decide +kernel
theorem dX12_age_0 : decode cX12_age 0 = .ok (.aload_n 0, 1) := by decide +kernel
theorem dX12_age_1 : decode cX12_age 1 = .ok (.dup, 1) := by decide +kernel
theorem dX12_age_2 : decode cX12_age 2 = .ok (.getfield 160, 3) := by decide +kernel
theorem dX12_age_5 : decode cX12_age 5 = .ok (.iload_n 1, 1) := by decide +kernel
theorem dX12_age_6 : decode cX12_age 6 = .ok (.ifCond .eq 7, 3) := by decide +kernel
theorem dX12_age_9 : decode cX12_age 9 = .ok (.iconst 1, 1) := by decide +kernel
theorem dX12_age_10 : decode cX12_age 10 = .ok (.goto 4, 3) := by decide +kernel
theorem dX12_age_13 : decode cX12_age 13 = .ok (.iconst 0, 1) := by decide +kernel
theorem dX12_age_14 : decode cX12_age 14 = .ok (.iadd, 1) := by decide +kernel
theorem dX12_age_15 : decode cX12_age 15 = .ok (.putfield 160, 3) := by decide +kernel
theorem dX12_age_18 : decode cX12_age 18 = .ok (.aload_n 0, 1) := by decide +kernel
theorem dX12_age_19 : decode cX12_age 19 = .ok (.dup, 1) := by decide +kernel
theorem dX12_age_20 : decode cX12_age 20 = .ok (.getfield 163, 3) := by decide +kernel
theorem dX12_age_23 : decode cX12_age 23 = .ok (.iload_n 1, 1) := by decide +kernel
theorem dX12_age_24 : decode cX12_age 24 = .ok (.ifCond .eq 7, 3) := by decide +kernel
theorem dX12_age_27 : decode cX12_age 27 = .ok (.iconst 0, 1) := by decide +kernel
theorem dX12_age_28 : decode cX12_age 28 = .ok (.goto 4, 3) := by decide +kernel
theorem dX12_age_31 : decode cX12_age 31 = .ok (.iconst 1, 1) := by decide +kernel
theorem dX12_age_32 : decode cX12_age 32 = .ok (.iadd, 1) := by decide +kernel
theorem dX12_age_33 : decode cX12_age 33 = .ok (.putfield 163, 3) := by decide +kernel
theorem dX12_age_36 : decode cX12_age 36 = .ok (.iconst 0, 1) := by decide +kernel
theorem dX12_age_37 : decode cX12_age 37 = .ok (.istore_n 2, 1) := by decide +kernel
theorem dX12_age_38 : decode cX12_age 38 = .ok (.iload_n 2, 1) := by decide +kernel
theorem dX12_age_39 : decode cX12_age 39 = .ok (.aload_n 0, 1) := by decide +kernel
theorem dX12_age_40 : decode cX12_age 40 = .ok (.getfield 58, 3) := by decide +kernel
theorem dX12_age_43 : decode cX12_age 43 = .ok (.if_icmp .ge 92, 3) := by decide +kernel
theorem dX12_age_46 : decode cX12_age 46 = .ok (.aload_n 0, 1) := by decide +kernel
theorem dX12_age_47 : decode cX12_age 47 = .ok (.getfield 9, 3) := by decide +kernel
theorem dX12_age_50 : decode cX12_age 50 = .ok (.iload_n 2, 1) := by decide +kernel
theorem dX12_age_51 : decode cX12_age 51 = .ok (.aaload, 1) := by decide +kernel
theorem dX12_age_52 : decode cX12_age 52 = .ok (.astore_n 3, 1) := by decide +kernel
theorem dX12_age_53 : decode cX12_age 53 = .ok (.aload_n 3, 1) := by decide +kernel
theorem dX12_age_54 : decode cX12_age 54 = .ok (.getfield 61, 3) := by decide +kernel
theorem dX12_age_57 : decode cX12_age 57 = .ok (.ifCond .eq 6, 3) := by decide +kernel
theorem dX12_age_60 : decode cX12_age 60 = .ok (.goto 69, 3) := by decide +kernel
theorem dX12_age_63 : decode cX12_age 63 = .ok (.aload_n 3, 1) := by decide +kernel
theorem dX12_age_64 : decode cX12_age 64 = .ok (.dup, 1) := by decide +kernel
theorem dX12_age_65 : decode cX12_age 65 = .ok (.getfield 166, 3) := by decide +kernel
theorem dX12_age_68 : decode cX12_age 68 = .ok (.iload_n 1, 1) := by decide +kernel
theorem dX12_age_69 : decode cX12_age 69 = .ok (.ifCond .eq 7, 3) := by decide +kernel
theorem dX12_age_72 : decode cX12_age 72 = .ok (.iconst 1, 1) := by decide +kernel
theorem dX12_age_73 : decode cX12_age 73 = .ok (.goto 4, 3) := by decide +kernel
theorem dX12_age_76 : decode cX12_age 76 = .ok (.iconst 0, 1) := by decide +kernel
theorem dX12_age_77 : decode cX12_age 77 = .ok (.iadd, 1) := by decide +kernel
theorem dX12_age_78 : decode cX12_age 78 = .ok (.putfield 166, 3) := by decide +kernel
theorem dX12_age_81 : decode cX12_age 81 = .ok (.aload_n 3, 1) := by decide +kernel
theorem dX12_age_82 : decode cX12_age 82 = .ok (.iload_n 1, 1) := by decide +kernel
theorem dX12_age_83 : decode cX12_age 83 = .ok (.ifCond .eq 22, 3) := by decide +kernel
theorem dX12_age_86 : decode cX12_age 86 = .ok (.aload_n 3, 1) := by decide +kernel
theorem dX12_age_87 : decode cX12_age 87 = .ok (.getfield 166, 3) := by decide +kernel
theorem dX12_age_90 : decode cX12_age 90 = .ok (.aload_n 0, 1) := by decide +kernel
theorem dX12_age_91 : decode cX12_age 91 = .ok (.getfield 35, 3) := by decide +kernel
theorem dX12_age_94 : decode cX12_age 94 = .ok (.if_icmp .lt 7, 3) := by decide +kernel
theorem dX12_age_97 : decode cX12_age 97 = .ok (.iconst 1, 1) := by decide +kernel
theorem dX12_age_98 : decode cX12_age 98 = .ok (.goto 28, 3) := by decide +kernel
theorem dX12_age_101 : decode cX12_age 101 = .ok (.iconst 0, 1) := by decide +kernel
theorem dX12_age_102 : decode cX12_age 102 = .ok (.goto 24, 3) := by decide +kernel
theorem dX12_age_105 : decode cX12_age 105 = .ok (.aload_n 0, 1) := by decide +kernel
theorem dX12_age_106 : decode cX12_age 106 = .ok (.iconst 1, 1) := by decide +kernel
theorem dX12_age_107 : decode cX12_age 107 = .ok (.invokevirtual 137, 3) := by decide +kernel
theorem dX12_age_110 : decode cX12_age 110 = .ok (.aload_n 3, 1) := by decide +kernel
theorem dX12_age_111 : decode cX12_age 111 = .ok (.getfield 65, 3) := by decide +kernel
theorem dX12_age_114 : decode cX12_age 114 = .ok (.iadd, 1) := by decide +kernel
theorem dX12_age_115 : decode cX12_age 115 = .ok (.sipush 320, 3) := by decide +kernel
theorem dX12_age_118 : decode cX12_age 118 = .ok (.if_icmp .gt 7, 3) := by decide +kernel
theorem dX12_age_121 : decode cX12_age 121 = .ok (.iconst 1, 1) := by decide +kernel
theorem dX12_age_122 : decode cX12_age 122 = .ok (.goto 4, 3) := by decide +kernel
theorem dX12_age_125 : decode cX12_age 125 = .ok (.iconst 0, 1) := by decide +kernel
theorem dX12_age_126 : decode cX12_age 126 = .ok (.putfield 61, 3) := by decide +kernel
theorem dX12_age_129 : decode cX12_age 129 = .ok (.iinc 2 1, 3) := by decide +kernel
theorem dX12_age_132 : decode cX12_age 132 = .ok (.goto (-94), 3) := by decide +kernel
theorem dX12_age_135 : decode cX12_age 135 = .ok (.return_, 1) := by decide +kernel
theorem dX12_begin_0 : decode cX12_begin 0 = .ok (.aload_n 0, 1) := by decide +kernel
theorem dX12_begin_1 : decode cX12_begin 1 = .ok (.bipush 16, 2) := by decide +kernel
theorem dX12_begin_3 : decode cX12_begin 3 = .ok (.invokevirtual 113, 3) := by decide +kernel
theorem dX12_begin_6 : decode cX12_begin 6 = .ok (.aload_n 0, 1) := by decide +kernel
theorem dX12_begin_7 : decode cX12_begin 7 = .ok (.bipush 16, 2) := by decide +kernel
theorem dX12_begin_9 : decode cX12_begin 9 = .ok (.invokevirtual 117, 3) := by decide +kernel
theorem dX12_begin_12 : decode cX12_begin 12 = .ok (.iconst 0, 1) := by decide +kernel
theorem dX12_begin_13 : decode cX12_begin 13 = .ok (.istore_n 1, 1) := by decide +kernel
theorem dX12_begin_14 : decode cX12_begin 14 = .ok (.iload_n 1, 1) := by decide +kernel
theorem dX12_begin_15 : decode cX12_begin 15 = .ok (.aload_n 0, 1) := by decide +kernel
theorem dX12_begin_16 : decode cX12_begin 16 = .ok (.getfield 58, 3) := by decide +kernel
theorem dX12_begin_19 : decode cX12_begin 19 = .ok (.if_icmp .ge 72, 3) := by decide +kernel
theorem dX12_begin_22 : decode cX12_begin 22 = .ok (.aload_n 0, 1) := by decide +kernel
theorem dX12_begin_23 : decode cX12_begin 23 = .ok (.getfield 9, 3) := by decide +kernel
theorem dX12_begin_26 : decode cX12_begin 26 = .ok (.iload_n 1, 1) := by decide +kernel
theorem dX12_begin_27 : decode cX12_begin 27 = .ok (.aaload, 1) := by decide +kernel
theorem dX12_begin_28 : decode cX12_begin 28 = .ok (.astore_n 2, 1) := by decide +kernel
theorem dX12_begin_29 : decode cX12_begin 29 = .ok (.aload_n 2, 1) := by decide +kernel
theorem dX12_begin_30 : decode cX12_begin 30 = .ok (.aload_n 2, 1) := by decide +kernel
theorem dX12_begin_31 : decode cX12_begin 31 = .ok (.bipush 16, 2) := by decide +kernel
theorem dX12_begin_33 : decode cX12_begin 33 = .ok (.invokevirtual 72, 3) := by decide +kernel
theorem dX12_begin_36 : decode cX12_begin 36 = .ok (.putfield 124, 3) := by decide +kernel
theorem dX12_begin_39 : decode cX12_begin 39 = .ok (.aload_n 2, 1) := by decide +kernel
theorem dX12_begin_40 : decode cX12_begin 40 = .ok (.iconst 0, 1) := by decide +kernel
theorem dX12_begin_41 : decode cX12_begin 41 = .ok (.putfield 127, 3) := by decide +kernel
theorem dX12_begin_44 : decode cX12_begin 44 = .ok (.aload_n 2, 1) := by decide +kernel
theorem dX12_begin_45 : decode cX12_begin 45 = .ok (.aload_n 2, 1) := by decide +kernel
theorem dX12_begin_46 : decode cX12_begin 46 = .ok (.getfield 98, 3) := by decide +kernel
theorem dX12_begin_49 : decode cX12_begin 49 = .ok (.invokestatic 172, 3) := by decide +kernel
theorem dX12_begin_52 : decode cX12_begin 52 = .ok (.putfield 95, 3) := by decide +kernel
theorem dX12_begin_55 : decode cX12_begin 55 = .ok (.aload_n 2, 1) := by decide +kernel
theorem dX12_begin_56 : decode cX12_begin 56 = .ok (.aload_n 2, 1) := by decide +kernel
theorem dX12_begin_57 : decode cX12_begin 57 = .ok (.getfield 104, 3) := by decide +kernel
theorem dX12_begin_60 : decode cX12_begin 60 = .ok (.invokestatic 172, 3) := by decide +kernel
theorem dX12_begin_63 : decode cX12_begin 63 = .ok (.putfield 101, 3) := by decide +kernel
theorem dX12_begin_66 : decode cX12_begin 66 = .ok (.aload_n 2, 1) := by decide +kernel
theorem dX12_begin_67 : decode cX12_begin 67 = .ok (.aload_n 2, 1) := by decide +kernel
theorem dX12_begin_68 : decode cX12_begin 68 = .ok (.getfield 110, 3) := by decide +kernel
theorem dX12_begin_71 : decode cX12_begin 71 = .ok (.invokestatic 172, 3) := by decide +kernel
theorem dX12_begin_74 : decode cX12_begin 74 = .ok (.putfield 107, 3) := by decide +kernel
theorem dX12_begin_77 : decode cX12_begin 77 = .ok (.aload_n 2, 1) := by decide +kernel
theorem dX12_begin_78 : decode cX12_begin 78 = .ok (.aload_n 2, 1) := by decide +kernel
theorem dX12_begin_79 : decode cX12_begin 79 = .ok (.getfield 92, 3) := by decide +kernel
theorem dX12_begin_82 : decode cX12_begin 82 = .ok (.putfield 89, 3) := by decide +kernel
theorem dX12_begin_85 : decode cX12_begin 85 = .ok (.iinc 1 1, 3) := by decide +kernel
theorem dX12_begin_88 : decode cX12_begin 88 = .ok (.goto (-74), 3) := by decide +kernel
theorem dX12_begin_91 : decode cX12_begin 91 = .ok (.aload_n 0, 1) := by decide +kernel
theorem dX12_begin_92 : decode cX12_begin 92 = .ok (.iconst 1, 1) := by decide +kernel
theorem dX12_begin_93 : decode cX12_begin 93 = .ok (.putfield 176, 3) := by decide +kernel
theorem dX12_begin_96 : decode cX12_begin 96 = .ok (.aload_n 0, 1) := by decide +kernel
theorem dX12_begin_97 : decode cX12_begin 97 = .ok (.aload_n 0, 1) := by decide +kernel
theorem dX12_begin_98 : decode cX12_begin 98 = .ok (.getfield 179, 3) := by decide +kernel
theorem dX12_begin_101 : decode cX12_begin 101 = .ok (.putfield 130, 3) := by decide +kernel
theorem dX12_begin_104 : decode cX12_begin 104 = .ok (.aload_n 0, 1) := by decide +kernel
theorem dX12_begin_105 : decode cX12_begin 105 = .ok (.iconst 0, 1) := by decide +kernel
theorem dX12_begin_106 : decode cX12_begin 106 = .ok (.putfield 182, 3) := by decide +kernel
theorem dX12_begin_109 : decode cX12_begin 109 = .ok (.aload_n 0, 1) := by decide +kernel
theorem dX12_begin_110 : decode cX12_begin 110 = .ok (.bipush 16, 2) := by decide +kernel
theorem dX12_begin_112 : decode cX12_begin 112 = .ok (.invokevirtual 133, 3) := by decide +kernel
theorem dX12_begin_115 : decode cX12_begin 115 = .ok (.ireturn, 1) := by decide +kernel
theorem dX12_row_0 : decode cX12_row 0 = .ok (.aload_n 0, 1) := by decide +kernel
theorem dX12_row_1 : decode cX12_row 1 = .ok (.arraylength, 1) := by decide +kernel
theorem dX12_row_2 : decode cX12_row 2 = .ok (.anewarray 7, 3) := by decide +kernel
theorem dX12_row_5 : decode cX12_row 5 = .ok (.astore_n 1, 1) := by decide +kernel
theorem dX12_row_6 : decode cX12_row 6 = .ok (.iconst 0, 1) := by decide +kernel
theorem dX12_row_7 : decode cX12_row 7 = .ok (.istore_n 2, 1) := by decide +kernel
theorem dX12_row_8 : decode cX12_row 8 = .ok (.iload_n 2, 1) := by decide +kernel
theorem dX12_row_9 : decode cX12_row 9 = .ok (.aload_n 0, 1) := by decide +kernel
theorem dX12_row_10 : decode cX12_row 10 = .ok (.arraylength, 1) := by decide +kernel
theorem dX12_row_11 : decode cX12_row 11 = .ok (.if_icmp .ge 15, 3) := by decide +kernel
theorem dX12_row_14 : decode cX12_row 14 = .ok (.aload_n 1, 1) := by decide +kernel
theorem dX12_row_15 : decode cX12_row 15 = .ok (.iload_n 2, 1) := by decide +kernel
theorem dX12_row_16 : decode cX12_row 16 = .ok (.aload_n 0, 1) := by decide +kernel
theorem dX12_row_17 : decode cX12_row 17 = .ok (.iload_n 2, 1) := by decide +kernel
theorem dX12_row_18 : decode cX12_row 18 = .ok (.aaload, 1) := by decide +kernel
theorem dX12_row_19 : decode cX12_row 19 = .ok (.aastore, 1) := by decide +kernel
theorem dX12_row_20 : decode cX12_row 20 = .ok (.iinc 2 1, 3) := by decide +kernel
theorem dX12_row_23 : decode cX12_row 23 = .ok (.goto (-15), 3) := by decide +kernel
theorem dX12_row_26 : decode cX12_row 26 = .ok (.aload_n 1, 1) := by decide +kernel
theorem dX12_row_27 : decode cX12_row 27 = .ok (.areturn, 1) := by decide +kernel
theorem dX12_end_0 : decode cX12_end 0 = .ok (.aload_n 0, 1) := by decide +kernel
theorem dX12_end_1 : decode cX12_end 1 = .ok (.invokevirtual 185, 3) := by decide +kernel
theorem dX12_end_4 : decode cX12_end 4 = .ok (.pop, 1) := by decide +kernel
theorem dX12_end_5 : decode cX12_end 5 = .ok (.aload_n 0, 1) := by decide +kernel
theorem dX12_end_6 : decode cX12_end 6 = .ok (.iconst 0, 1) := by decide +kernel
theorem dX12_end_7 : decode cX12_end 7 = .ok (.putfield 176, 3) := by decide +kernel
theorem dX12_end_10 : decode cX12_end 10 = .ok (.aload_n 0, 1) := by decide +kernel
theorem dX12_end_11 : decode cX12_end 11 = .ok (.iconst 3, 1) := by decide +kernel
theorem dX12_end_12 : decode cX12_end 12 = .ok (.invokevirtual 140, 3) := by decide +kernel
theorem dX12_end_15 : decode cX12_end 15 = .ok (.pop, 1) := by decide +kernel
theorem dX12_end_16 : decode cX12_end 16 = .ok (.return_, 1) := by decide +kernel
theorem dX12_read_0 : decode cX12_read 0 = .ok (.aload_n 0, 1) := by decide +kernel
theorem dX12_read_1 : decode cX12_read 1 = .ok (.getfield 176, 3) := by decide +kernel
theorem dX12_read_4 : decode cX12_read 4 = .ok (.ifCond .eq 12, 3) := by decide +kernel
theorem dX12_read_7 : decode cX12_read 7 = .ok (.aload_n 1, 1) := by decide +kernel
theorem dX12_read_8 : decode cX12_read 8 = .ok (.ifnull 8, 3) := by decide +kernel
theorem dX12_read_11 : decode cX12_read 11 = .ok (.aload_n 1, 1) := by decide +kernel
theorem dX12_read_12 : decode cX12_read 12 = .ok (.iconst 1, 1) := by decide +kernel
theorem dX12_read_13 : decode cX12_read 13 = .ok (.putfield 127, 3) := by decide +kernel
theorem dX12_read_16 : decode cX12_read 16 = .ok (.aload_n 1, 1) := by decide +kernel
theorem dX12_read_17 : decode cX12_read 17 = .ok (.areturn, 1) := by decide +kernel
theorem dX12_fits_0 : decode cX12_fits 0 = .ok (.iload_n 1, 1) := by decide +kernel
theorem dX12_fits_1 : decode cX12_fits 1 = .ok (.bipush 32, 2) := by decide +kernel
theorem dX12_fits_3 : decode cX12_fits 3 = .ok (.if_icmp .le 24, 3) := by decide +kernel
theorem dX12_fits_6 : decode cX12_fits 6 = .ok (.aload_n 0, 1) := by decide +kernel
theorem dX12_fits_7 : decode cX12_fits 7 = .ok (.iconst 1, 1) := by decide +kernel
theorem dX12_fits_8 : decode cX12_fits 8 = .ok (.invokevirtual 137, 3) := by decide +kernel
theorem dX12_fits_11 : decode cX12_fits 11 = .ok (.iload_n 1, 1) := by decide +kernel
theorem dX12_fits_12 : decode cX12_fits 12 = .ok (.iadd, 1) := by decide +kernel
theorem dX12_fits_13 : decode cX12_fits 13 = .ok (.sipush 320, 3) := by decide +kernel
theorem dX12_fits_16 : decode cX12_fits 16 = .ok (.if_icmp .gt 7, 3) := by decide +kernel
theorem dX12_fits_19 : decode cX12_fits 19 = .ok (.iconst 1, 1) := by decide +kernel
theorem dX12_fits_20 : decode cX12_fits 20 = .ok (.goto 24, 3) := by decide +kernel
theorem dX12_fits_23 : decode cX12_fits 23 = .ok (.iconst 0, 1) := by decide +kernel
theorem dX12_fits_24 : decode cX12_fits 24 = .ok (.goto 20, 3) := by decide +kernel
theorem dX12_fits_27 : decode cX12_fits 27 = .ok (.aload_n 0, 1) := by decide +kernel
theorem dX12_fits_28 : decode cX12_fits 28 = .ok (.iconst 0, 1) := by decide +kernel
theorem dX12_fits_29 : decode cX12_fits 29 = .ok (.invokevirtual 137, 3) := by decide +kernel
theorem dX12_fits_32 : decode cX12_fits 32 = .ok (.iload_n 1, 1) := by decide +kernel
theorem dX12_fits_33 : decode cX12_fits 33 = .ok (.iadd, 1) := by decide +kernel
theorem dX12_fits_34 : decode cX12_fits 34 = .ok (.bipush 96, 2) := by decide +kernel
theorem dX12_fits_36 : decode cX12_fits 36 = .ok (.if_icmp .gt 7, 3) := by decide +kernel
theorem dX12_fits_39 : decode cX12_fits 39 = .ok (.iconst 1, 1) := by decide +kernel
theorem dX12_fits_40 : decode cX12_fits 40 = .ok (.goto 4, 3) := by decide +kernel
theorem dX12_fits_43 : decode cX12_fits 43 = .ok (.iconst 0, 1) := by decide +kernel
theorem dX12_fits_44 : decode cX12_fits 44 = .ok (.ireturn, 1) := by decide +kernel
theorem dX12_room_0 : decode cX12_room 0 = .ok (.aload_n 0, 1) := by decide +kernel
theorem dX12_room_1 : decode cX12_room 1 = .ok (.iload_n 1, 1) := by decide +kernel
theorem dX12_room_2 : decode cX12_room 2 = .ok (.invokevirtual 189, 3) := by decide +kernel
theorem dX12_room_5 : decode cX12_room 5 = .ok (.ifCond .eq 5, 3) := by decide +kernel
theorem dX12_room_8 : decode cX12_room 8 = .ok (.iconst 1, 1) := by decide +kernel
theorem dX12_room_9 : decode cX12_room 9 = .ok (.ireturn, 1) := by decide +kernel
theorem dX12_room_10 : decode cX12_room 10 = .ok (.aload_n 0, 1) := by decide +kernel
theorem dX12_room_11 : decode cX12_room 11 = .ok (.getfield 176, 3) := by decide +kernel
theorem dX12_room_14 : decode cX12_room 14 = .ok (.ifCond .eq 7, 3) := by decide +kernel
theorem dX12_room_17 : decode cX12_room 17 = .ok (.aload_n 0, 1) := by decide +kernel
theorem dX12_room_18 : decode cX12_room 18 = .ok (.invokevirtual 192, 3) := by decide +kernel
theorem dX12_room_21 : decode cX12_room 21 = .ok (.iconst 0, 1) := by decide +kernel
theorem dX12_room_22 : decode cX12_room 22 = .ok (.istore_n 2, 1) := by decide +kernel
theorem dX12_room_23 : decode cX12_room 23 = .ok (.iload_n 2, 1) := by decide +kernel
theorem dX12_room_24 : decode cX12_room 24 = .ok (.iconst 3, 1) := by decide +kernel
theorem dX12_room_25 : decode cX12_room 25 = .ok (.if_icmp .ge 23, 3) := by decide +kernel
theorem dX12_room_28 : decode cX12_room 28 = .ok (.aload_n 0, 1) := by decide +kernel
theorem dX12_room_29 : decode cX12_room 29 = .ok (.iload_n 1, 1) := by decide +kernel
theorem dX12_room_30 : decode cX12_room 30 = .ok (.invokevirtual 189, 3) := by decide +kernel
theorem dX12_room_33 : decode cX12_room 33 = .ok (.ifCond .ne 15, 3) := by decide +kernel
theorem dX12_room_36 : decode cX12_room 36 = .ok (.aload_n 0, 1) := by decide +kernel
theorem dX12_room_37 : decode cX12_room 37 = .ok (.iload_n 2, 1) := by decide +kernel
theorem dX12_room_38 : decode cX12_room 38 = .ok (.invokevirtual 140, 3) := by decide +kernel
theorem dX12_room_41 : decode cX12_room 41 = .ok (.pop, 1) := by decide +kernel
theorem dX12_room_42 : decode cX12_room 42 = .ok (.iinc 2 1, 3) := by decide +kernel
theorem dX12_room_45 : decode cX12_room 45 = .ok (.goto (-22), 3) := by decide +kernel
theorem dX12_room_48 : decode cX12_room 48 = .ok (.aload_n 0, 1) := by decide +kernel
theorem dX12_room_49 : decode cX12_room 49 = .ok (.iload_n 1, 1) := by decide +kernel
theorem dX12_room_50 : decode cX12_room 50 = .ok (.invokevirtual 189, 3) := by decide +kernel
theorem dX12_room_53 : decode cX12_room 53 = .ok (.ireturn, 1) := by decide +kernel
theorem dX12_due_0 : decode cX12_due 0 = .ok (.iload_n 1, 1) := by decide +kernel
theorem dX12_due_1 : decode cX12_due 1 = .ok (.bipush 7, 2) := by decide +kernel
theorem dX12_due_3 : decode cX12_due 3 = .ok (.if_icmp .ge 13, 3) := by decide +kernel
theorem dX12_due_6 : decode cX12_due 6 = .ok (.aload_n 0, 1) := by decide +kernel
theorem dX12_due_7 : decode cX12_due 7 = .ok (.iload_n 1, 1) := by decide +kernel
theorem dX12_due_8 : decode cX12_due 8 = .ok (.iload_n 2, 1) := by decide +kernel
theorem dX12_due_9 : decode cX12_due 9 = .ok (.iload_n 3, 1) := by decide +kernel
theorem dX12_due_10 : decode cX12_due 10 = .ok (.iload 4, 2) := by decide +kernel
theorem dX12_due_12 : decode cX12_due 12 = .ok (.invokevirtual 195, 3) := by decide +kernel
theorem dX12_due_15 : decode cX12_due 15 = .ok (.ireturn, 1) := by decide +kernel
theorem dX12_due_16 : decode cX12_due 16 = .ok (.iload_n 1, 1) := by decide +kernel
theorem dX12_due_17 : decode cX12_due 17 = .ok (.bipush 14, 2) := by decide +kernel
theorem dX12_due_19 : decode cX12_due 19 = .ok (.if_icmp .ge 13, 3) := by decide +kernel
theorem dX12_due_22 : decode cX12_due 22 = .ok (.aload_n 0, 1) := by decide +kernel
theorem dX12_due_23 : decode cX12_due 23 = .ok (.iload_n 1, 1) := by decide +kernel
theorem dX12_due_24 : decode cX12_due 24 = .ok (.iload_n 2, 1) := by decide +kernel
theorem dX12_due_25 : decode cX12_due 25 = .ok (.iload_n 3, 1) := by decide +kernel
theorem dX12_due_26 : decode cX12_due 26 = .ok (.iload 4, 2) := by decide +kernel
theorem dX12_due_28 : decode cX12_due 28 = .ok (.invokevirtual 199, 3) := by decide +kernel
theorem dX12_due_31 : decode cX12_due 31 = .ok (.ireturn, 1) := by decide +kernel
theorem dX12_due_32 : decode cX12_due 32 = .ok (.iload_n 1, 1) := by decide +kernel
theorem dX12_due_33 : decode cX12_due 33 = .ok (.bipush 20, 2) := by decide +kernel
theorem dX12_due_35 : decode cX12_due 35 = .ok (.if_icmp .ge 13, 3) := by decide +kernel
theorem dX12_due_38 : decode cX12_due 38 = .ok (.aload_n 0, 1) := by decide +kernel
theorem dX12_due_39 : decode cX12_due 39 = .ok (.iload_n 1, 1) := by decide +kernel
theorem dX12_due_40 : decode cX12_due 40 = .ok (.iload_n 2, 1) := by decide +kernel
theorem dX12_due_41 : decode cX12_due 41 = .ok (.iload_n 3, 1) := by decide +kernel
theorem dX12_due_42 : decode cX12_due 42 = .ok (.iload 4, 2) := by decide +kernel
theorem dX12_due_44 : decode cX12_due 44 = .ok (.invokevirtual 202, 3) := by decide +kernel
theorem dX12_due_47 : decode cX12_due 47 = .ok (.ireturn, 1) := by decide +kernel
theorem dX12_due_48 : decode cX12_due 48 = .ok (.iload_n 1, 1) := by decide +kernel
theorem dX12_due_49 : decode cX12_due 49 = .ok (.bipush 28, 2) := by decide +kernel
theorem dX12_due_51 : decode cX12_due 51 = .ok (.if_icmp .ge 13, 3) := by decide +kernel
theorem dX12_due_54 : decode cX12_due 54 = .ok (.aload_n 0, 1) := by decide +kernel
theorem dX12_due_55 : decode cX12_due 55 = .ok (.iload_n 1, 1) := by decide +kernel
theorem dX12_due_56 : decode cX12_due 56 = .ok (.iload_n 2, 1) := by decide +kernel
theorem dX12_due_57 : decode cX12_due 57 = .ok (.iload_n 3, 1) := by decide +kernel
theorem dX12_due_58 : decode cX12_due 58 = .ok (.iload 4, 2) := by decide +kernel
theorem dX12_due_60 : decode cX12_due 60 = .ok (.invokevirtual 205, 3) := by decide +kernel
theorem dX12_due_63 : decode cX12_due 63 = .ok (.ireturn, 1) := by decide +kernel
theorem dX12_due_64 : decode cX12_due 64 = .ok (.iload_n 1, 1) := by decide +kernel
theorem dX12_due_65 : decode cX12_due 65 = .ok (.bipush 33, 2) := by decide +kernel
theorem dX12_due_67 : decode cX12_due 67 = .ok (.if_icmp .ge 13, 3) := by decide +kernel
theorem dX12_due_70 : decode cX12_due 70 = .ok (.aload_n 0, 1) := by decide +kernel
theorem dX12_due_71 : decode cX12_due 71 = .ok (.iload_n 1, 1) := by decide +kernel
theorem dX12_due_72 : decode cX12_due 72 = .ok (.iload_n 2, 1) := by decide +kernel
theorem dX12_due_73 : decode cX12_due 73 = .ok (.iload_n 3, 1) := by decide +kernel
theorem dX12_due_74 : decode cX12_due 74 = .ok (.invokevirtual 208, 3) := by decide +kernel
theorem dX12_due_77 : decode cX12_due 77 = .ok (.goto 9, 3) := by decide +kernel
theorem dX12_due_80 : decode cX12_due 80 = .ok (.aload_n 0, 1) := by decide +kernel
theorem dX12_due_81 : decode cX12_due 81 = .ok (.iload_n 1, 1) := by decide +kernel
theorem dX12_due_82 : decode cX12_due 82 = .ok (.iload_n 2, 1) := by decide +kernel
theorem dX12_due_83 : decode cX12_due 83 = .ok (.invokevirtual 212, 3) := by decide +kernel
theorem dX12_due_86 : decode cX12_due 86 = .ok (.ireturn, 1) := by decide +kernel
theorem dX12_dueOfSlots_0 : decode cX12_dueOfSlots 0 = .ok (.iload_n 1, 1) := by decide +kernel
theorem dX12_dueOfSlots_1 : decode cX12_dueOfSlots 1 = .ok (.tableswitch 445 0 5 #[39, 227, 285, 333, 366, 398], 39) := by decide +kernel
theorem dX12_dueOfSlots_40 : decode cX12_dueOfSlots 40 = .ok (.iload_n 2, 1) := by decide +kernel
theorem dX12_dueOfSlots_41 : decode cX12_dueOfSlots 41 = .ok (.iconst (-1), 1) := by decide +kernel
theorem dX12_dueOfSlots_42 : decode cX12_dueOfSlots 42 = .ok (.if_icmp .lt 11, 3) := by decide +kernel
theorem dX12_dueOfSlots_45 : decode cX12_dueOfSlots 45 = .ok (.iload_n 2, 1) := by decide +kernel
theorem dX12_dueOfSlots_46 : decode cX12_dueOfSlots 46 = .ok (.aload_n 0, 1) := by decide +kernel
theorem dX12_dueOfSlots_47 : decode cX12_dueOfSlots 47 = .ok (.getfield 216, 3) := by decide +kernel
theorem dX12_dueOfSlots_50 : decode cX12_dueOfSlots 50 = .ok (.if_icmp .lt 7, 3) := by decide +kernel
theorem dX12_dueOfSlots_53 : decode cX12_dueOfSlots 53 = .ok (.sipush (-1011), 3) := by decide +kernel
theorem dX12_dueOfSlots_56 : decode cX12_dueOfSlots 56 = .ok (.ireturn, 1) := by decide +kernel
theorem dX12_dueOfSlots_57 : decode cX12_dueOfSlots 57 = .ok (.iload_n 3, 1) := by decide +kernel
theorem dX12_dueOfSlots_58 : decode cX12_dueOfSlots 58 = .ok (.iload_n 2, 1) := by decide +kernel
theorem dX12_dueOfSlots_59 : decode cX12_dueOfSlots 59 = .ok (.ifCond .ge 7, 3) := by decide +kernel
theorem dX12_dueOfSlots_62 : decode cX12_dueOfSlots 62 = .ok (.iconst 0, 1) := by decide +kernel
theorem dX12_dueOfSlots_63 : decode cX12_dueOfSlots 63 = .ok (.goto 11, 3) := by decide +kernel
theorem dX12_dueOfSlots_66 : decode cX12_dueOfSlots 66 = .ok (.aload_n 0, 1) := by decide +kernel
theorem dX12_dueOfSlots_67 : decode cX12_dueOfSlots 67 = .ok (.getfield 17, 3) := by decide +kernel
theorem dX12_dueOfSlots_70 : decode cX12_dueOfSlots 70 = .ok (.iload_n 2, 1) := by decide +kernel
theorem dX12_dueOfSlots_71 : decode cX12_dueOfSlots 71 = .ok (.aaload, 1) := by decide +kernel
theorem dX12_dueOfSlots_72 : decode cX12_dueOfSlots 72 = .ok (.iconst 1, 1) := by decide +kernel
theorem dX12_dueOfSlots_73 : decode cX12_dueOfSlots 73 = .ok (.iaload, 1) := by decide +kernel
theorem dX12_dueOfSlots_74 : decode cX12_dueOfSlots 74 = .ok (.iadd, 1) := by decide +kernel
theorem dX12_dueOfSlots_75 : decode cX12_dueOfSlots 75 = .ok (.istore 5, 2) := by decide +kernel
theorem dX12_dueOfSlots_77 : decode cX12_dueOfSlots 77 = .ok (.iload 4, 2) := by decide +kernel
theorem dX12_dueOfSlots_79 : decode cX12_dueOfSlots 79 = .ok (.iconst 2, 1) := by decide +kernel
theorem dX12_dueOfSlots_80 : decode cX12_dueOfSlots 80 = .ok (.idiv, 1) := by decide +kernel
theorem dX12_dueOfSlots_81 : decode cX12_dueOfSlots 81 = .ok (.iload_n 2, 1) := by decide +kernel
theorem dX12_dueOfSlots_82 : decode cX12_dueOfSlots 82 = .ok (.ifCond .ge 7, 3) := by decide +kernel
theorem dX12_dueOfSlots_85 : decode cX12_dueOfSlots 85 = .ok (.iconst 0, 1) := by decide +kernel
theorem dX12_dueOfSlots_86 : decode cX12_dueOfSlots 86 = .ok (.goto 11, 3) := by decide +kernel
theorem dX12_dueOfSlots_89 : decode cX12_dueOfSlots 89 = .ok (.aload_n 0, 1) := by decide +kernel
theorem dX12_dueOfSlots_90 : decode cX12_dueOfSlots 90 = .ok (.getfield 17, 3) := by decide +kernel
theorem dX12_dueOfSlots_93 : decode cX12_dueOfSlots 93 = .ok (.iload_n 2, 1) := by decide +kernel
theorem dX12_dueOfSlots_94 : decode cX12_dueOfSlots 94 = .ok (.aaload, 1) := by decide +kernel
theorem dX12_dueOfSlots_95 : decode cX12_dueOfSlots 95 = .ok (.iconst 2, 1) := by decide +kernel
theorem dX12_dueOfSlots_96 : decode cX12_dueOfSlots 96 = .ok (.iaload, 1) := by decide +kernel
theorem dX12_dueOfSlots_97 : decode cX12_dueOfSlots 97 = .ok (.iadd, 1) := by decide +kernel
theorem dX12_dueOfSlots_98 : decode cX12_dueOfSlots 98 = .ok (.istore 6, 2) := by decide +kernel
theorem dX12_dueOfSlots_100 : decode cX12_dueOfSlots 100 = .ok (.iload_n 3, 1) := by decide +kernel
theorem dX12_dueOfSlots_101 : decode cX12_dueOfSlots 101 = .ok (.ifCond .lt 35, 3) := by decide +kernel
theorem dX12_dueOfSlots_104 : decode cX12_dueOfSlots 104 = .ok (.iload_n 3, 1) := by decide +kernel
theorem dX12_dueOfSlots_105 : decode cX12_dueOfSlots 105 = .ok (.iconst 4, 1) := by decide +kernel
theorem dX12_dueOfSlots_106 : decode cX12_dueOfSlots 106 = .ok (.if_icmp .gt 30, 3) := by decide +kernel
theorem dX12_dueOfSlots_109 : decode cX12_dueOfSlots 109 = .ok (.iload 4, 2) := by decide +kernel
theorem dX12_dueOfSlots_111 : decode cX12_dueOfSlots 111 = .ok (.ifCond .lt 25, 3) := by decide +kernel
theorem dX12_dueOfSlots_114 : decode cX12_dueOfSlots 114 = .ok (.iload 4, 2) := by decide +kernel
theorem dX12_dueOfSlots_116 : decode cX12_dueOfSlots 116 = .ok (.iconst 2, 1) := by decide +kernel
theorem dX12_dueOfSlots_117 : decode cX12_dueOfSlots 117 = .ok (.idiv, 1) := by decide +kernel
theorem dX12_dueOfSlots_118 : decode cX12_dueOfSlots 118 = .ok (.iconst 4, 1) := by decide +kernel
theorem dX12_dueOfSlots_119 : decode cX12_dueOfSlots 119 = .ok (.if_icmp .gt 17, 3) := by decide +kernel
theorem dX12_dueOfSlots_122 : decode cX12_dueOfSlots 122 = .ok (.iload 5, 2) := by decide +kernel
theorem dX12_dueOfSlots_124 : decode cX12_dueOfSlots 124 = .ok (.bipush 8, 2) := by decide +kernel
theorem dX12_dueOfSlots_126 : decode cX12_dueOfSlots 126 = .ok (.if_icmp .gt 10, 3) := by decide +kernel
theorem dX12_dueOfSlots_129 : decode cX12_dueOfSlots 129 = .ok (.iload 6, 2) := by decide +kernel
theorem dX12_dueOfSlots_131 : decode cX12_dueOfSlots 131 = .ok (.bipush 8, 2) := by decide +kernel
theorem dX12_dueOfSlots_133 : decode cX12_dueOfSlots 133 = .ok (.if_icmp .le 7, 3) := by decide +kernel
theorem dX12_dueOfSlots_136 : decode cX12_dueOfSlots 136 = .ok (.sipush (-1012), 3) := by decide +kernel
theorem dX12_dueOfSlots_139 : decode cX12_dueOfSlots 139 = .ok (.ireturn, 1) := by decide +kernel
theorem dX12_dueOfSlots_140 : decode cX12_dueOfSlots 140 = .ok (.aload_n 0, 1) := by decide +kernel
theorem dX12_dueOfSlots_141 : decode cX12_dueOfSlots 141 = .ok (.getfield 216, 3) := by decide +kernel
theorem dX12_dueOfSlots_144 : decode cX12_dueOfSlots 144 = .ok (.bipush 12, 2) := by decide +kernel
theorem dX12_dueOfSlots_146 : decode cX12_dueOfSlots 146 = .ok (.if_icmp .ne 7, 3) := by decide +kernel
theorem dX12_dueOfSlots_149 : decode cX12_dueOfSlots 149 = .ok (.sipush (-1013), 3) := by decide +kernel
theorem dX12_dueOfSlots_152 : decode cX12_dueOfSlots 152 = .ok (.ireturn, 1) := by decide +kernel
theorem dX12_dueOfSlots_153 : decode cX12_dueOfSlots 153 = .ok (.aload_n 0, 1) := by decide +kernel
theorem dX12_dueOfSlots_154 : decode cX12_dueOfSlots 154 = .ok (.getfield 17, 3) := by decide +kernel
theorem dX12_dueOfSlots_157 : decode cX12_dueOfSlots 157 = .ok (.aload_n 0, 1) := by decide +kernel
theorem dX12_dueOfSlots_158 : decode cX12_dueOfSlots 158 = .ok (.getfield 216, 3) := by decide +kernel
theorem dX12_dueOfSlots_161 : decode cX12_dueOfSlots 161 = .ok (.iconst 4, 1) := by decide +kernel
theorem dX12_dueOfSlots_162 : decode cX12_dueOfSlots 162 = .ok (.newarray .int, 2) := by decide +kernel
theorem dX12_dueOfSlots_164 : decode cX12_dueOfSlots 164 = .ok (.dup, 1) := by decide +kernel
theorem dX12_dueOfSlots_165 : decode cX12_dueOfSlots 165 = .ok (.iconst 0, 1) := by decide +kernel
theorem dX12_dueOfSlots_166 : decode cX12_dueOfSlots 166 = .ok (.iload_n 2, 1) := by decide +kernel
theorem dX12_dueOfSlots_167 : decode cX12_dueOfSlots 167 = .ok (.iastore, 1) := by decide +kernel
theorem dX12_dueOfSlots_168 : decode cX12_dueOfSlots 168 = .ok (.dup, 1) := by decide +kernel
theorem dX12_dueOfSlots_169 : decode cX12_dueOfSlots 169 = .ok (.iconst 1, 1) := by decide +kernel
theorem dX12_dueOfSlots_170 : decode cX12_dueOfSlots 170 = .ok (.iload 5, 2) := by decide +kernel
theorem dX12_dueOfSlots_172 : decode cX12_dueOfSlots 172 = .ok (.iastore, 1) := by decide +kernel
theorem dX12_dueOfSlots_173 : decode cX12_dueOfSlots 173 = .ok (.dup, 1) := by decide +kernel
theorem dX12_dueOfSlots_174 : decode cX12_dueOfSlots 174 = .ok (.iconst 2, 1) := by decide +kernel
theorem dX12_dueOfSlots_175 : decode cX12_dueOfSlots 175 = .ok (.iload 6, 2) := by decide +kernel
theorem dX12_dueOfSlots_177 : decode cX12_dueOfSlots 177 = .ok (.iastore, 1) := by decide +kernel
theorem dX12_dueOfSlots_178 : decode cX12_dueOfSlots 178 = .ok (.dup, 1) := by decide +kernel
theorem dX12_dueOfSlots_179 : decode cX12_dueOfSlots 179 = .ok (.iconst 3, 1) := by decide +kernel
theorem dX12_dueOfSlots_180 : decode cX12_dueOfSlots 180 = .ok (.iload 4, 2) := by decide +kernel
theorem dX12_dueOfSlots_182 : decode cX12_dueOfSlots 182 = .ok (.iconst 2, 1) := by decide +kernel
theorem dX12_dueOfSlots_183 : decode cX12_dueOfSlots 183 = .ok (.irem, 1) := by decide +kernel
theorem dX12_dueOfSlots_184 : decode cX12_dueOfSlots 184 = .ok (.iconst 1, 1) := by decide +kernel
theorem dX12_dueOfSlots_185 : decode cX12_dueOfSlots 185 = .ok (.if_icmp .eq 19, 3) := by decide +kernel
theorem dX12_dueOfSlots_188 : decode cX12_dueOfSlots 188 = .ok (.iload_n 2, 1) := by decide +kernel
theorem dX12_dueOfSlots_189 : decode cX12_dueOfSlots 189 = .ok (.ifCond .lt 19, 3) := by decide +kernel
theorem dX12_dueOfSlots_192 : decode cX12_dueOfSlots 192 = .ok (.aload_n 0, 1) := by decide +kernel
theorem dX12_dueOfSlots_193 : decode cX12_dueOfSlots 193 = .ok (.getfield 17, 3) := by decide +kernel
theorem dX12_dueOfSlots_196 : decode cX12_dueOfSlots 196 = .ok (.iload_n 2, 1) := by decide +kernel
theorem dX12_dueOfSlots_197 : decode cX12_dueOfSlots 197 = .ok (.aaload, 1) := by decide +kernel
theorem dX12_dueOfSlots_198 : decode cX12_dueOfSlots 198 = .ok (.iconst 3, 1) := by decide +kernel
theorem dX12_dueOfSlots_199 : decode cX12_dueOfSlots 199 = .ok (.iaload, 1) := by decide +kernel
theorem dX12_dueOfSlots_200 : decode cX12_dueOfSlots 200 = .ok (.iconst 1, 1) := by decide +kernel
theorem dX12_dueOfSlots_201 : decode cX12_dueOfSlots 201 = .ok (.if_icmp .ne 7, 3) := by decide +kernel
theorem dX12_dueOfSlots_204 : decode cX12_dueOfSlots 204 = .ok (.iconst 1, 1) := by decide +kernel
theorem dX12_dueOfSlots_205 : decode cX12_dueOfSlots 205 = .ok (.goto 4, 3) := by decide +kernel
theorem dX12_dueOfSlots_208 : decode cX12_dueOfSlots 208 = .ok (.iconst 0, 1) := by decide +kernel
theorem dX12_dueOfSlots_209 : decode cX12_dueOfSlots 209 = .ok (.iastore, 1) := by decide +kernel
theorem dX12_dueOfSlots_210 : decode cX12_dueOfSlots 210 = .ok (.aastore, 1) := by decide +kernel
theorem dX12_dueOfSlots_211 : decode cX12_dueOfSlots 211 = .ok (.aload_n 0, 1) := by decide +kernel
theorem dX12_dueOfSlots_212 : decode cX12_dueOfSlots 212 = .ok (.dup, 1) := by decide +kernel
theorem dX12_dueOfSlots_213 : decode cX12_dueOfSlots 213 = .ok (.getfield 216, 3) := by decide +kernel
theorem dX12_dueOfSlots_216 : decode cX12_dueOfSlots 216 = .ok (.iconst 1, 1) := by decide +kernel
theorem dX12_dueOfSlots_217 : decode cX12_dueOfSlots 217 = .ok (.iadd, 1) := by decide +kernel
theorem dX12_dueOfSlots_218 : decode cX12_dueOfSlots 218 = .ok (.putfield 216, 3) := by decide +kernel
theorem dX12_dueOfSlots_221 : decode cX12_dueOfSlots 221 = .ok (.aload_n 0, 1) := by decide +kernel
theorem dX12_dueOfSlots_222 : decode cX12_dueOfSlots 222 = .ok (.getfield 216, 3) := by decide +kernel
theorem dX12_dueOfSlots_225 : decode cX12_dueOfSlots 225 = .ok (.iconst 1, 1) := by decide +kernel
theorem dX12_dueOfSlots_226 : decode cX12_dueOfSlots 226 = .ok (.isub, 1) := by decide +kernel
theorem dX12_dueOfSlots_227 : decode cX12_dueOfSlots 227 = .ok (.ireturn, 1) := by decide +kernel
theorem dX12_dueOfSlots_228 : decode cX12_dueOfSlots 228 = .ok (.iload_n 2, 1) := by decide +kernel
theorem dX12_dueOfSlots_229 : decode cX12_dueOfSlots 229 = .ok (.iconst 1, 1) := by decide +kernel
theorem dX12_dueOfSlots_230 : decode cX12_dueOfSlots 230 = .ok (.if_icmp .lt 9, 3) := by decide +kernel
theorem dX12_dueOfSlots_233 : decode cX12_dueOfSlots 233 = .ok (.iload_n 2, 1) := by decide +kernel
theorem dX12_dueOfSlots_234 : decode cX12_dueOfSlots 234 = .ok (.bipush 8, 2) := by decide +kernel
theorem dX12_dueOfSlots_236 : decode cX12_dueOfSlots 236 = .ok (.if_icmp .le 7, 3) := by decide +kernel
theorem dX12_dueOfSlots_239 : decode cX12_dueOfSlots 239 = .ok (.sipush (-1012), 3) := by decide +kernel
theorem dX12_dueOfSlots_242 : decode cX12_dueOfSlots 242 = .ok (.ireturn, 1) := by decide +kernel
theorem dX12_dueOfSlots_243 : decode cX12_dueOfSlots 243 = .ok (.aload_n 0, 1) := by decide +kernel
theorem dX12_dueOfSlots_244 : decode cX12_dueOfSlots 244 = .ok (.getfield 45, 3) := by decide +kernel
theorem dX12_dueOfSlots_247 : decode cX12_dueOfSlots 247 = .ok (.bipush 7, 2) := by decide +kernel
theorem dX12_dueOfSlots_249 : decode cX12_dueOfSlots 249 = .ok (.if_icmp .ne 7, 3) := by decide +kernel
theorem dX12_dueOfSlots_252 : decode cX12_dueOfSlots 252 = .ok (.sipush (-1013), 3) := by decide +kernel
theorem dX12_dueOfSlots_255 : decode cX12_dueOfSlots 255 = .ok (.ireturn, 1) := by decide +kernel
theorem dX12_dueOfSlots_256 : decode cX12_dueOfSlots 256 = .ok (.aload_n 0, 1) := by decide +kernel
theorem dX12_dueOfSlots_257 : decode cX12_dueOfSlots 257 = .ok (.dup, 1) := by decide +kernel
theorem dX12_dueOfSlots_258 : decode cX12_dueOfSlots 258 = .ok (.getfield 45, 3) := by decide +kernel
theorem dX12_dueOfSlots_261 : decode cX12_dueOfSlots 261 = .ok (.iconst 1, 1) := by decide +kernel
theorem dX12_dueOfSlots_262 : decode cX12_dueOfSlots 262 = .ok (.iadd, 1) := by decide +kernel
theorem dX12_dueOfSlots_263 : decode cX12_dueOfSlots 263 = .ok (.putfield 45, 3) := by decide +kernel
theorem dX12_dueOfSlots_266 : decode cX12_dueOfSlots 266 = .ok (.aload_n 0, 1) := by decide +kernel
theorem dX12_dueOfSlots_267 : decode cX12_dueOfSlots 267 = .ok (.getfield 22, 3) := by decide +kernel
theorem dX12_dueOfSlots_270 : decode cX12_dueOfSlots 270 = .ok (.aload_n 0, 1) := by decide +kernel
theorem dX12_dueOfSlots_271 : decode cX12_dueOfSlots 271 = .ok (.getfield 45, 3) := by decide +kernel
theorem dX12_dueOfSlots_274 : decode cX12_dueOfSlots 274 = .ok (.iload_n 2, 1) := by decide +kernel
theorem dX12_dueOfSlots_275 : decode cX12_dueOfSlots 275 = .ok (.anewarray 7, 3) := by decide +kernel
theorem dX12_dueOfSlots_278 : decode cX12_dueOfSlots 278 = .ok (.aastore, 1) := by decide +kernel
theorem dX12_dueOfSlots_279 : decode cX12_dueOfSlots 279 = .ok (.aload_n 0, 1) := by decide +kernel
theorem dX12_dueOfSlots_280 : decode cX12_dueOfSlots 280 = .ok (.getfield 45, 3) := by decide +kernel
theorem dX12_dueOfSlots_283 : decode cX12_dueOfSlots 283 = .ok (.iconst 1, 1) := by decide +kernel
theorem dX12_dueOfSlots_284 : decode cX12_dueOfSlots 284 = .ok (.iadd, 1) := by decide +kernel
theorem dX12_dueOfSlots_285 : decode cX12_dueOfSlots 285 = .ok (.ireturn, 1) := by decide +kernel
theorem dX12_dueOfSlots_286 : decode cX12_dueOfSlots 286 = .ok (.aload_n 0, 1) := by decide +kernel
theorem dX12_dueOfSlots_287 : decode cX12_dueOfSlots 287 = .ok (.iload_n 2, 1) := by decide +kernel
theorem dX12_dueOfSlots_288 : decode cX12_dueOfSlots 288 = .ok (.invokevirtual 219, 3) := by decide +kernel
theorem dX12_dueOfSlots_291 : decode cX12_dueOfSlots 291 = .ok (.ifCond .ne 7, 3) := by decide +kernel
theorem dX12_dueOfSlots_294 : decode cX12_dueOfSlots 294 = .ok (.sipush (-1011), 3) := by decide +kernel
theorem dX12_dueOfSlots_297 : decode cX12_dueOfSlots 297 = .ok (.ireturn, 1) := by decide +kernel
theorem dX12_dueOfSlots_298 : decode cX12_dueOfSlots 298 = .ok (.aload_n 0, 1) := by decide +kernel
theorem dX12_dueOfSlots_299 : decode cX12_dueOfSlots 299 = .ok (.getfield 45, 3) := by decide +kernel
theorem dX12_dueOfSlots_302 : decode cX12_dueOfSlots 302 = .ok (.ifCond .ne 7, 3) := by decide +kernel
theorem dX12_dueOfSlots_305 : decode cX12_dueOfSlots 305 = .ok (.sipush (-1013), 3) := by decide +kernel
theorem dX12_dueOfSlots_308 : decode cX12_dueOfSlots 308 = .ok (.ireturn, 1) := by decide +kernel
theorem dX12_dueOfSlots_309 : decode cX12_dueOfSlots 309 = .ok (.aload_n 0, 1) := by decide +kernel
theorem dX12_dueOfSlots_310 : decode cX12_dueOfSlots 310 = .ok (.iload_n 2, 1) := by decide +kernel
theorem dX12_dueOfSlots_311 : decode cX12_dueOfSlots 311 = .ok (.invokevirtual 48, 3) := by decide +kernel
theorem dX12_dueOfSlots_314 : decode cX12_dueOfSlots 314 = .ok (.astore 5, 2) := by decide +kernel
theorem dX12_dueOfSlots_316 : decode cX12_dueOfSlots 316 = .ok (.aload_n 0, 1) := by decide +kernel
theorem dX12_dueOfSlots_317 : decode cX12_dueOfSlots 317 = .ok (.dup, 1) := by decide +kernel
theorem dX12_dueOfSlots_318 : decode cX12_dueOfSlots 318 = .ok (.getfield 45, 3) := by decide +kernel
theorem dX12_dueOfSlots_321 : decode cX12_dueOfSlots 321 = .ok (.iconst 1, 1) := by decide +kernel
theorem dX12_dueOfSlots_322 : decode cX12_dueOfSlots 322 = .ok (.isub, 1) := by decide +kernel
theorem dX12_dueOfSlots_323 : decode cX12_dueOfSlots 323 = .ok (.putfield 45, 3) := by decide +kernel
theorem dX12_dueOfSlots_326 : decode cX12_dueOfSlots 326 = .ok (.aload_n 0, 1) := by decide +kernel
theorem dX12_dueOfSlots_327 : decode cX12_dueOfSlots 327 = .ok (.iconst 0, 1) := by decide +kernel
theorem dX12_dueOfSlots_328 : decode cX12_dueOfSlots 328 = .ok (.aload 5, 2) := by decide +kernel
theorem dX12_dueOfSlots_330 : decode cX12_dueOfSlots 330 = .ok (.invokevirtual 222, 3) := by decide +kernel
theorem dX12_dueOfSlots_333 : decode cX12_dueOfSlots 333 = .ok (.ireturn, 1) := by decide +kernel
theorem dX12_dueOfSlots_334 : decode cX12_dueOfSlots 334 = .ok (.aload_n 0, 1) := by decide +kernel
theorem dX12_dueOfSlots_335 : decode cX12_dueOfSlots 335 = .ok (.iload_n 2, 1) := by decide +kernel
theorem dX12_dueOfSlots_336 : decode cX12_dueOfSlots 336 = .ok (.invokevirtual 219, 3) := by decide +kernel
theorem dX12_dueOfSlots_339 : decode cX12_dueOfSlots 339 = .ok (.ifCond .eq 24, 3) := by decide +kernel
theorem dX12_dueOfSlots_342 : decode cX12_dueOfSlots 342 = .ok (.aload_n 0, 1) := by decide +kernel
theorem dX12_dueOfSlots_343 : decode cX12_dueOfSlots 343 = .ok (.iload_n 3, 1) := by decide +kernel
theorem dX12_dueOfSlots_344 : decode cX12_dueOfSlots 344 = .ok (.invokevirtual 219, 3) := by decide +kernel
theorem dX12_dueOfSlots_347 : decode cX12_dueOfSlots 347 = .ok (.ifCond .eq 16, 3) := by decide +kernel
theorem dX12_dueOfSlots_350 : decode cX12_dueOfSlots 350 = .ok (.aload_n 0, 1) := by decide +kernel
theorem dX12_dueOfSlots_351 : decode cX12_dueOfSlots 351 = .ok (.iload_n 2, 1) := by decide +kernel
theorem dX12_dueOfSlots_352 : decode cX12_dueOfSlots 352 = .ok (.aload_n 0, 1) := by decide +kernel
theorem dX12_dueOfSlots_353 : decode cX12_dueOfSlots 353 = .ok (.iload_n 3, 1) := by decide +kernel
theorem dX12_dueOfSlots_354 : decode cX12_dueOfSlots 354 = .ok (.invokevirtual 48, 3) := by decide +kernel
theorem dX12_dueOfSlots_357 : decode cX12_dueOfSlots 357 = .ok (.invokevirtual 222, 3) := by decide +kernel
theorem dX12_dueOfSlots_360 : decode cX12_dueOfSlots 360 = .ok (.goto 6, 3) := by decide +kernel
theorem dX12_dueOfSlots_363 : decode cX12_dueOfSlots 363 = .ok (.sipush (-1011), 3) := by decide +kernel
theorem dX12_dueOfSlots_366 : decode cX12_dueOfSlots 366 = .ok (.ireturn, 1) := by decide +kernel
theorem dX12_dueOfSlots_367 : decode cX12_dueOfSlots 367 = .ok (.aload_n 0, 1) := by decide +kernel
theorem dX12_dueOfSlots_368 : decode cX12_dueOfSlots 368 = .ok (.iload_n 2, 1) := by decide +kernel
theorem dX12_dueOfSlots_369 : decode cX12_dueOfSlots 369 = .ok (.invokevirtual 219, 3) := by decide +kernel
theorem dX12_dueOfSlots_372 : decode cX12_dueOfSlots 372 = .ok (.ifCond .ne 7, 3) := by decide +kernel
theorem dX12_dueOfSlots_375 : decode cX12_dueOfSlots 375 = .ok (.sipush (-1011), 3) := by decide +kernel
theorem dX12_dueOfSlots_378 : decode cX12_dueOfSlots 378 = .ok (.ireturn, 1) := by decide +kernel
theorem dX12_dueOfSlots_379 : decode cX12_dueOfSlots 379 = .ok (.aload_n 0, 1) := by decide +kernel
theorem dX12_dueOfSlots_380 : decode cX12_dueOfSlots 380 = .ok (.iload_n 2, 1) := by decide +kernel
theorem dX12_dueOfSlots_381 : decode cX12_dueOfSlots 381 = .ok (.invokevirtual 48, 3) := by decide +kernel
theorem dX12_dueOfSlots_384 : decode cX12_dueOfSlots 384 = .ok (.invokestatic 55, 3) := by decide +kernel
theorem dX12_dueOfSlots_387 : decode cX12_dueOfSlots 387 = .ok (.istore 5, 2) := by decide +kernel
theorem dX12_dueOfSlots_389 : decode cX12_dueOfSlots 389 = .ok (.aload_n 0, 1) := by decide +kernel
theorem dX12_dueOfSlots_390 : decode cX12_dueOfSlots 390 = .ok (.iload_n 2, 1) := by decide +kernel
theorem dX12_dueOfSlots_391 : decode cX12_dueOfSlots 391 = .ok (.aconst_null, 1) := by decide +kernel
theorem dX12_dueOfSlots_392 : decode cX12_dueOfSlots 392 = .ok (.invokevirtual 222, 3) := by decide +kernel
theorem dX12_dueOfSlots_395 : decode cX12_dueOfSlots 395 = .ok (.pop, 1) := by decide +kernel
theorem dX12_dueOfSlots_396 : decode cX12_dueOfSlots 396 = .ok (.iload 5, 2) := by decide +kernel
theorem dX12_dueOfSlots_398 : decode cX12_dueOfSlots 398 = .ok (.ireturn, 1) := by decide +kernel
theorem dX12_dueOfSlots_399 : decode cX12_dueOfSlots 399 = .ok (.iload_n 2, 1) := by decide +kernel
theorem dX12_dueOfSlots_400 : decode cX12_dueOfSlots 400 = .ok (.ifCond .lt 17, 3) := by decide +kernel
theorem dX12_dueOfSlots_403 : decode cX12_dueOfSlots 403 = .ok (.iload_n 2, 1) := by decide +kernel
theorem dX12_dueOfSlots_404 : decode cX12_dueOfSlots 404 = .ok (.bipush 7, 2) := by decide +kernel
theorem dX12_dueOfSlots_406 : decode cX12_dueOfSlots 406 = .ok (.if_icmp .gt 11, 3) := by decide +kernel
theorem dX12_dueOfSlots_409 : decode cX12_dueOfSlots 409 = .ok (.aload_n 0, 1) := by decide +kernel
theorem dX12_dueOfSlots_410 : decode cX12_dueOfSlots 410 = .ok (.iload_n 3, 1) := by decide +kernel
theorem dX12_dueOfSlots_411 : decode cX12_dueOfSlots 411 = .ok (.invokevirtual 219, 3) := by decide +kernel
theorem dX12_dueOfSlots_414 : decode cX12_dueOfSlots 414 = .ok (.ifCond .ne 7, 3) := by decide +kernel
theorem dX12_dueOfSlots_417 : decode cX12_dueOfSlots 417 = .ok (.sipush (-1011), 3) := by decide +kernel
theorem dX12_dueOfSlots_420 : decode cX12_dueOfSlots 420 = .ok (.ireturn, 1) := by decide +kernel
theorem dX12_dueOfSlots_421 : decode cX12_dueOfSlots 421 = .ok (.aload_n 0, 1) := by decide +kernel
theorem dX12_dueOfSlots_422 : decode cX12_dueOfSlots 422 = .ok (.getfield 26, 3) := by decide +kernel
theorem dX12_dueOfSlots_425 : decode cX12_dueOfSlots 425 = .ok (.iload_n 2, 1) := by decide +kernel
theorem dX12_dueOfSlots_426 : decode cX12_dueOfSlots 426 = .ok (.aaload, 1) := by decide +kernel
theorem dX12_dueOfSlots_427 : decode cX12_dueOfSlots 427 = .ok (.invokestatic 55, 3) := by decide +kernel
theorem dX12_dueOfSlots_430 : decode cX12_dueOfSlots 430 = .ok (.istore 5, 2) := by decide +kernel
theorem dX12_dueOfSlots_432 : decode cX12_dueOfSlots 432 = .ok (.aload_n 0, 1) := by decide +kernel
theorem dX12_dueOfSlots_433 : decode cX12_dueOfSlots 433 = .ok (.getfield 26, 3) := by decide +kernel
theorem dX12_dueOfSlots_436 : decode cX12_dueOfSlots 436 = .ok (.iload_n 2, 1) := by decide +kernel
theorem dX12_dueOfSlots_437 : decode cX12_dueOfSlots 437 = .ok (.aload_n 0, 1) := by decide +kernel
theorem dX12_dueOfSlots_438 : decode cX12_dueOfSlots 438 = .ok (.iload_n 3, 1) := by decide +kernel
theorem dX12_dueOfSlots_439 : decode cX12_dueOfSlots 439 = .ok (.invokevirtual 48, 3) := by decide +kernel
theorem dX12_dueOfSlots_442 : decode cX12_dueOfSlots 442 = .ok (.aastore, 1) := by decide +kernel
theorem dX12_dueOfSlots_443 : decode cX12_dueOfSlots 443 = .ok (.iload 5, 2) := by decide +kernel
theorem dX12_dueOfSlots_445 : decode cX12_dueOfSlots 445 = .ok (.ireturn, 1) := by decide +kernel
theorem dX12_dueOfSlots_446 : decode cX12_dueOfSlots 446 = .ok (.iload_n 3, 1) := by decide +kernel
theorem dX12_dueOfSlots_447 : decode cX12_dueOfSlots 447 = .ok (.ifCond .lt 17, 3) := by decide +kernel
theorem dX12_dueOfSlots_450 : decode cX12_dueOfSlots 450 = .ok (.iload_n 3, 1) := by decide +kernel
theorem dX12_dueOfSlots_451 : decode cX12_dueOfSlots 451 = .ok (.bipush 7, 2) := by decide +kernel
theorem dX12_dueOfSlots_453 : decode cX12_dueOfSlots 453 = .ok (.if_icmp .gt 11, 3) := by decide +kernel
theorem dX12_dueOfSlots_456 : decode cX12_dueOfSlots 456 = .ok (.aload_n 0, 1) := by decide +kernel
theorem dX12_dueOfSlots_457 : decode cX12_dueOfSlots 457 = .ok (.iload_n 2, 1) := by decide +kernel
theorem dX12_dueOfSlots_458 : decode cX12_dueOfSlots 458 = .ok (.invokevirtual 219, 3) := by decide +kernel
theorem dX12_dueOfSlots_461 : decode cX12_dueOfSlots 461 = .ok (.ifCond .ne 9, 3) := by decide +kernel
theorem dX12_dueOfSlots_464 : decode cX12_dueOfSlots 464 = .ok (.sipush (-1011), 3) := by decide +kernel
theorem dX12_dueOfSlots_467 : decode cX12_dueOfSlots 467 = .ok (.goto 14, 3) := by decide +kernel
theorem dX12_dueOfSlots_470 : decode cX12_dueOfSlots 470 = .ok (.aload_n 0, 1) := by decide +kernel
theorem dX12_dueOfSlots_471 : decode cX12_dueOfSlots 471 = .ok (.iload_n 2, 1) := by decide +kernel
theorem dX12_dueOfSlots_472 : decode cX12_dueOfSlots 472 = .ok (.aload_n 0, 1) := by decide +kernel
theorem dX12_dueOfSlots_473 : decode cX12_dueOfSlots 473 = .ok (.getfield 26, 3) := by decide +kernel
theorem dX12_dueOfSlots_476 : decode cX12_dueOfSlots 476 = .ok (.iload_n 3, 1) := by decide +kernel
theorem dX12_dueOfSlots_477 : decode cX12_dueOfSlots 477 = .ok (.aaload, 1) := by decide +kernel
theorem dX12_dueOfSlots_478 : decode cX12_dueOfSlots 478 = .ok (.invokevirtual 222, 3) := by decide +kernel
theorem dX12_dueOfSlots_481 : decode cX12_dueOfSlots 481 = .ok (.ireturn, 1) := by decide +kernel
theorem dX12_plain_0 : decode cX12_plain 0 = .ok (.new 7, 3) := by decide +kernel
theorem dX12_plain_3 : decode cX12_plain 3 = .ok (.dup, 1) := by decide +kernel
theorem dX12_plain_4 : decode cX12_plain 4 = .ok (.iconst 0, 1) := by decide +kernel
theorem dX12_plain_5 : decode cX12_plain 5 = .ok (.iload_n 1, 1) := by decide +kernel
theorem dX12_plain_6 : decode cX12_plain 6 = .ok (.aload_n 0, 1) := by decide +kernel
theorem dX12_plain_7 : decode cX12_plain 7 = .ok (.getfield 17, 3) := by decide +kernel
theorem dX12_plain_10 : decode cX12_plain 10 = .ok (.iload_n 1, 1) := by decide +kernel
theorem dX12_plain_11 : decode cX12_plain 11 = .ok (.aaload, 1) := by decide +kernel
theorem dX12_plain_12 : decode cX12_plain 12 = .ok (.iconst 1, 1) := by decide +kernel
theorem dX12_plain_13 : decode cX12_plain 13 = .ok (.iaload, 1) := by decide +kernel
theorem dX12_plain_14 : decode cX12_plain 14 = .ok (.aload_n 0, 1) := by decide +kernel
theorem dX12_plain_15 : decode cX12_plain 15 = .ok (.getfield 17, 3) := by decide +kernel
theorem dX12_plain_18 : decode cX12_plain 18 = .ok (.iload_n 1, 1) := by decide +kernel
theorem dX12_plain_19 : decode cX12_plain 19 = .ok (.aaload, 1) := by decide +kernel
theorem dX12_plain_20 : decode cX12_plain 20 = .ok (.iconst 2, 1) := by decide +kernel
theorem dX12_plain_21 : decode cX12_plain 21 = .ok (.iaload, 1) := by decide +kernel
theorem dX12_plain_22 : decode cX12_plain 22 = .ok (.iconst 0, 1) := by decide +kernel
theorem dX12_plain_23 : decode cX12_plain 23 = .ok (.invokespecial 226, 3) := by decide +kernel
theorem dX12_plain_26 : decode cX12_plain 26 = .ok (.astore_n 2, 1) := by decide +kernel
theorem dX12_plain_27 : decode cX12_plain 27 = .ok (.aload_n 2, 1) := by decide +kernel
theorem dX12_plain_28 : decode cX12_plain 28 = .ok (.aload_n 0, 1) := by decide +kernel
theorem dX12_plain_29 : decode cX12_plain 29 = .ok (.getfield 17, 3) := by decide +kernel
theorem dX12_plain_32 : decode cX12_plain 32 = .ok (.iload_n 1, 1) := by decide +kernel
theorem dX12_plain_33 : decode cX12_plain 33 = .ok (.aaload, 1) := by decide +kernel
theorem dX12_plain_34 : decode cX12_plain 34 = .ok (.iconst 3, 1) := by decide +kernel
theorem dX12_plain_35 : decode cX12_plain 35 = .ok (.iaload, 1) := by decide +kernel
theorem dX12_plain_36 : decode cX12_plain 36 = .ok (.iconst 1, 1) := by decide +kernel
theorem dX12_plain_37 : decode cX12_plain 37 = .ok (.if_icmp .ne 7, 3) := by decide +kernel
theorem dX12_plain_40 : decode cX12_plain 40 = .ok (.iconst 1, 1) := by decide +kernel
theorem dX12_plain_41 : decode cX12_plain 41 = .ok (.goto 4, 3) := by decide +kernel
theorem dX12_plain_44 : decode cX12_plain 44 = .ok (.iconst 0, 1) := by decide +kernel
theorem dX12_plain_45 : decode cX12_plain 45 = .ok (.putfield 143, 3) := by decide +kernel
theorem dX12_plain_48 : decode cX12_plain 48 = .ok (.aload_n 2, 1) := by decide +kernel
theorem dX12_plain_49 : decode cX12_plain 49 = .ok (.areturn, 1) := by decide +kernel
theorem dX12_add_0 : decode cX12_add 0 = .ok (.aload_n 1, 1) := by decide +kernel
theorem dX12_add_1 : decode cX12_add 1 = .ok (.aload_n 0, 1) := by decide +kernel
theorem dX12_add_2 : decode cX12_add 2 = .ok (.getfield 179, 3) := by decide +kernel
theorem dX12_add_5 : decode cX12_add 5 = .ok (.putfield 42, 3) := by decide +kernel
theorem dX12_add_8 : decode cX12_add 8 = .ok (.aload_n 1, 1) := by decide +kernel
theorem dX12_add_9 : decode cX12_add 9 = .ok (.iload_n 2, 1) := by decide +kernel
theorem dX12_add_10 : decode cX12_add 10 = .ok (.putfield 61, 3) := by decide +kernel
theorem dX12_add_13 : decode cX12_add 13 = .ok (.aload_n 0, 1) := by decide +kernel
theorem dX12_add_14 : decode cX12_add 14 = .ok (.getfield 9, 3) := by decide +kernel
theorem dX12_add_17 : decode cX12_add 17 = .ok (.aload_n 0, 1) := by decide +kernel
theorem dX12_add_18 : decode cX12_add 18 = .ok (.getfield 58, 3) := by decide +kernel
theorem dX12_add_21 : decode cX12_add 21 = .ok (.aload_n 1, 1) := by decide +kernel
theorem dX12_add_22 : decode cX12_add 22 = .ok (.aastore, 1) := by decide +kernel
theorem dX12_add_23 : decode cX12_add 23 = .ok (.aload_n 0, 1) := by decide +kernel
theorem dX12_add_24 : decode cX12_add 24 = .ok (.dup, 1) := by decide +kernel
theorem dX12_add_25 : decode cX12_add 25 = .ok (.getfield 58, 3) := by decide +kernel
theorem dX12_add_28 : decode cX12_add 28 = .ok (.iconst 1, 1) := by decide +kernel
theorem dX12_add_29 : decode cX12_add 29 = .ok (.iadd, 1) := by decide +kernel
theorem dX12_add_30 : decode cX12_add 30 = .ok (.putfield 58, 3) := by decide +kernel
theorem dX12_add_33 : decode cX12_add 33 = .ok (.aload_n 0, 1) := by decide +kernel
theorem dX12_add_34 : decode cX12_add 34 = .ok (.dup, 1) := by decide +kernel
theorem dX12_add_35 : decode cX12_add 35 = .ok (.getfield 179, 3) := by decide +kernel
theorem dX12_add_38 : decode cX12_add 38 = .ok (.iconst 1, 1) := by decide +kernel
theorem dX12_add_39 : decode cX12_add 39 = .ok (.iadd, 1) := by decide +kernel
theorem dX12_add_40 : decode cX12_add 40 = .ok (.putfield 179, 3) := by decide +kernel
theorem dX12_add_43 : decode cX12_add 43 = .ok (.aload_n 1, 1) := by decide +kernel
theorem dX12_add_44 : decode cX12_add 44 = .ok (.areturn, 1) := by decide +kernel
theorem dX12_born_0 : decode cX12_born 0 = .ok (.aload_n 0, 1) := by decide +kernel
theorem dX12_born_1 : decode cX12_born 1 = .ok (.aload_n 2, 1) := by decide +kernel
theorem dX12_born_2 : decode cX12_born 2 = .ok (.getfield 65, 3) := by decide +kernel
theorem dX12_born_5 : decode cX12_born 5 = .ok (.invokevirtual 229, 3) := by decide +kernel
theorem dX12_born_8 : decode cX12_born 8 = .ok (.ifCond .eq 30, 3) := by decide +kernel
theorem dX12_born_11 : decode cX12_born 11 = .ok (.aload_n 0, 1) := by decide +kernel
theorem dX12_born_12 : decode cX12_born 12 = .ok (.iload_n 1, 1) := by decide +kernel
theorem dX12_born_13 : decode cX12_born 13 = .ok (.aload_n 0, 1) := by decide +kernel
theorem dX12_born_14 : decode cX12_born 14 = .ok (.aload_n 2, 1) := by decide +kernel
theorem dX12_born_15 : decode cX12_born 15 = .ok (.aload_n 2, 1) := by decide +kernel
theorem dX12_born_16 : decode cX12_born 16 = .ok (.getfield 65, 3) := by decide +kernel
theorem dX12_born_19 : decode cX12_born 19 = .ok (.bipush 32, 2) := by decide +kernel
theorem dX12_born_21 : decode cX12_born 21 = .ok (.if_icmp .le 7, 3) := by decide +kernel
theorem dX12_born_24 : decode cX12_born 24 = .ok (.iconst 1, 1) := by decide +kernel
theorem dX12_born_25 : decode cX12_born 25 = .ok (.goto 4, 3) := by decide +kernel
theorem dX12_born_28 : decode cX12_born 28 = .ok (.iconst 0, 1) := by decide +kernel
theorem dX12_born_29 : decode cX12_born 29 = .ok (.invokevirtual 232, 3) := by decide +kernel
theorem dX12_born_32 : decode cX12_born 32 = .ok (.invokevirtual 222, 3) := by decide +kernel
theorem dX12_born_35 : decode cX12_born 35 = .ok (.goto 4, 3) := by decide +kernel
theorem dX12_born_38 : decode cX12_born 38 = .ok (.iconst (-1), 1) := by decide +kernel
theorem dX12_born_39 : decode cX12_born 39 = .ok (.ireturn, 1) := by decide +kernel
theorem dX12_dueOfNew_0 : decode cX12_dueOfNew 0 = .ok (.aload_n 0, 1) := by decide +kernel
theorem dX12_dueOfNew_1 : decode cX12_dueOfNew 1 = .ok (.iload_n 2, 1) := by decide +kernel
theorem dX12_dueOfNew_2 : decode cX12_dueOfNew 2 = .ok (.invokevirtual 219, 3) := by decide +kernel
theorem dX12_dueOfNew_5 : decode cX12_dueOfNew 5 = .ok (.ifCond .ne 7, 3) := by decide +kernel
theorem dX12_dueOfNew_8 : decode cX12_dueOfNew 8 = .ok (.sipush (-1011), 3) := by decide +kernel
theorem dX12_dueOfNew_11 : decode cX12_dueOfNew 11 = .ok (.ireturn, 1) := by decide +kernel
theorem dX12_dueOfNew_12 : decode cX12_dueOfNew 12 = .ok (.iload_n 1, 1) := by decide +kernel
theorem dX12_dueOfNew_13 : decode cX12_dueOfNew 13 = .ok (.tableswitch 176 7 13 #[43, 72, 106, 176, 176, 176, 140], 43) := by decide +kernel
theorem dX12_dueOfNew_56 : decode cX12_dueOfNew 56 = .ok (.iload_n 3, 1) := by decide +kernel
theorem dX12_dueOfNew_57 : decode cX12_dueOfNew 57 = .ok (.ifCond .lt 11, 3) := by decide +kernel
theorem dX12_dueOfNew_60 : decode cX12_dueOfNew 60 = .ok (.iload_n 3, 1) := by decide +kernel
theorem dX12_dueOfNew_61 : decode cX12_dueOfNew 61 = .ok (.aload_n 0, 1) := by decide +kernel
theorem dX12_dueOfNew_62 : decode cX12_dueOfNew 62 = .ok (.getfield 216, 3) := by decide +kernel
theorem dX12_dueOfNew_65 : decode cX12_dueOfNew 65 = .ok (.if_icmp .lt 9, 3) := by decide +kernel
theorem dX12_dueOfNew_68 : decode cX12_dueOfNew 68 = .ok (.sipush (-1012), 3) := by decide +kernel
theorem dX12_dueOfNew_71 : decode cX12_dueOfNew 71 = .ok (.goto 13, 3) := by decide +kernel
theorem dX12_dueOfNew_74 : decode cX12_dueOfNew 74 = .ok (.aload_n 0, 1) := by decide +kernel
theorem dX12_dueOfNew_75 : decode cX12_dueOfNew 75 = .ok (.iload_n 2, 1) := by decide +kernel
theorem dX12_dueOfNew_76 : decode cX12_dueOfNew 76 = .ok (.aload_n 0, 1) := by decide +kernel
theorem dX12_dueOfNew_77 : decode cX12_dueOfNew 77 = .ok (.iload_n 3, 1) := by decide +kernel
theorem dX12_dueOfNew_78 : decode cX12_dueOfNew 78 = .ok (.invokevirtual 236, 3) := by decide +kernel
theorem dX12_dueOfNew_81 : decode cX12_dueOfNew 81 = .ok (.invokevirtual 239, 3) := by decide +kernel
theorem dX12_dueOfNew_84 : decode cX12_dueOfNew 84 = .ok (.ireturn, 1) := by decide +kernel
theorem dX12_dueOfNew_85 : decode cX12_dueOfNew 85 = .ok (.iload_n 3, 1) := by decide +kernel
theorem dX12_dueOfNew_86 : decode cX12_dueOfNew 86 = .ok (.ifCond .lt 9, 3) := by decide +kernel
theorem dX12_dueOfNew_89 : decode cX12_dueOfNew 89 = .ok (.iload_n 3, 1) := by decide +kernel
theorem dX12_dueOfNew_90 : decode cX12_dueOfNew 90 = .ok (.bipush 40, 2) := by decide +kernel
theorem dX12_dueOfNew_92 : decode cX12_dueOfNew 92 = .ok (.if_icmp .le 9, 3) := by decide +kernel
theorem dX12_dueOfNew_95 : decode cX12_dueOfNew 95 = .ok (.sipush (-1012), 3) := by decide +kernel
theorem dX12_dueOfNew_98 : decode cX12_dueOfNew 98 = .ok (.goto 20, 3) := by decide +kernel
theorem dX12_dueOfNew_101 : decode cX12_dueOfNew 101 = .ok (.aload_n 0, 1) := by decide +kernel
theorem dX12_dueOfNew_102 : decode cX12_dueOfNew 102 = .ok (.iload_n 2, 1) := by decide +kernel
theorem dX12_dueOfNew_103 : decode cX12_dueOfNew 103 = .ok (.new 7, 3) := by decide +kernel
theorem dX12_dueOfNew_106 : decode cX12_dueOfNew 106 = .ok (.dup, 1) := by decide +kernel
theorem dX12_dueOfNew_107 : decode cX12_dueOfNew 107 = .ok (.iconst 1, 1) := by decide +kernel
theorem dX12_dueOfNew_108 : decode cX12_dueOfNew 108 = .ok (.iconst (-1), 1) := by decide +kernel
theorem dX12_dueOfNew_109 : decode cX12_dueOfNew 109 = .ok (.iload_n 3, 1) := by decide +kernel
theorem dX12_dueOfNew_110 : decode cX12_dueOfNew 110 = .ok (.iconst 0, 1) := by decide +kernel
theorem dX12_dueOfNew_111 : decode cX12_dueOfNew 111 = .ok (.iconst 0, 1) := by decide +kernel
theorem dX12_dueOfNew_112 : decode cX12_dueOfNew 112 = .ok (.invokespecial 226, 3) := by decide +kernel
theorem dX12_dueOfNew_115 : decode cX12_dueOfNew 115 = .ok (.invokevirtual 239, 3) := by decide +kernel
theorem dX12_dueOfNew_118 : decode cX12_dueOfNew 118 = .ok (.ireturn, 1) := by decide +kernel
theorem dX12_dueOfNew_119 : decode cX12_dueOfNew 119 = .ok (.iload_n 3, 1) := by decide +kernel
theorem dX12_dueOfNew_120 : decode cX12_dueOfNew 120 = .ok (.ifCond .lt 9, 3) := by decide +kernel
theorem dX12_dueOfNew_123 : decode cX12_dueOfNew 123 = .ok (.iload_n 3, 1) := by decide +kernel
theorem dX12_dueOfNew_124 : decode cX12_dueOfNew 124 = .ok (.bipush 120, 2) := by decide +kernel
theorem dX12_dueOfNew_126 : decode cX12_dueOfNew 126 = .ok (.if_icmp .le 9, 3) := by decide +kernel
theorem dX12_dueOfNew_129 : decode cX12_dueOfNew 129 = .ok (.sipush (-1012), 3) := by decide +kernel
theorem dX12_dueOfNew_132 : decode cX12_dueOfNew 132 = .ok (.goto 20, 3) := by decide +kernel
theorem dX12_dueOfNew_135 : decode cX12_dueOfNew 135 = .ok (.aload_n 0, 1) := by decide +kernel
theorem dX12_dueOfNew_136 : decode cX12_dueOfNew 136 = .ok (.iload_n 2, 1) := by decide +kernel
theorem dX12_dueOfNew_137 : decode cX12_dueOfNew 137 = .ok (.new 7, 3) := by decide +kernel
theorem dX12_dueOfNew_140 : decode cX12_dueOfNew 140 = .ok (.dup, 1) := by decide +kernel
theorem dX12_dueOfNew_141 : decode cX12_dueOfNew 141 = .ok (.iconst 2, 1) := by decide +kernel
theorem dX12_dueOfNew_142 : decode cX12_dueOfNew 142 = .ok (.iconst (-1), 1) := by decide +kernel
theorem dX12_dueOfNew_143 : decode cX12_dueOfNew 143 = .ok (.iconst 0, 1) := by decide +kernel
theorem dX12_dueOfNew_144 : decode cX12_dueOfNew 144 = .ok (.iload_n 3, 1) := by decide +kernel
theorem dX12_dueOfNew_145 : decode cX12_dueOfNew 145 = .ok (.iconst 0, 1) := by decide +kernel
theorem dX12_dueOfNew_146 : decode cX12_dueOfNew 146 = .ok (.invokespecial 226, 3) := by decide +kernel
theorem dX12_dueOfNew_149 : decode cX12_dueOfNew 149 = .ok (.invokevirtual 239, 3) := by decide +kernel
theorem dX12_dueOfNew_152 : decode cX12_dueOfNew 152 = .ok (.ireturn, 1) := by decide +kernel
theorem dX12_dueOfNew_153 : decode cX12_dueOfNew 153 = .ok (.iload_n 3, 1) := by decide +kernel
theorem dX12_dueOfNew_154 : decode cX12_dueOfNew 154 = .ok (.iconst 1, 1) := by decide +kernel
theorem dX12_dueOfNew_155 : decode cX12_dueOfNew 155 = .ok (.if_icmp .lt 9, 3) := by decide +kernel
theorem dX12_dueOfNew_158 : decode cX12_dueOfNew 158 = .ok (.iload_n 3, 1) := by decide +kernel
theorem dX12_dueOfNew_159 : decode cX12_dueOfNew 159 = .ok (.bipush 16, 2) := by decide +kernel
theorem dX12_dueOfNew_161 : decode cX12_dueOfNew 161 = .ok (.if_icmp .le 9, 3) := by decide +kernel
theorem dX12_dueOfNew_164 : decode cX12_dueOfNew 164 = .ok (.sipush (-1012), 3) := by decide +kernel
theorem dX12_dueOfNew_167 : decode cX12_dueOfNew 167 = .ok (.goto 21, 3) := by decide +kernel
theorem dX12_dueOfNew_170 : decode cX12_dueOfNew 170 = .ok (.aload_n 0, 1) := by decide +kernel
theorem dX12_dueOfNew_171 : decode cX12_dueOfNew 171 = .ok (.iload_n 2, 1) := by decide +kernel
theorem dX12_dueOfNew_172 : decode cX12_dueOfNew 172 = .ok (.new 7, 3) := by decide +kernel
theorem dX12_dueOfNew_175 : decode cX12_dueOfNew 175 = .ok (.dup, 1) := by decide +kernel
theorem dX12_dueOfNew_176 : decode cX12_dueOfNew 176 = .ok (.bipush 6, 2) := by decide +kernel
theorem dX12_dueOfNew_178 : decode cX12_dueOfNew 178 = .ok (.iconst (-1), 1) := by decide +kernel
theorem dX12_dueOfNew_179 : decode cX12_dueOfNew 179 = .ok (.iconst 0, 1) := by decide +kernel
theorem dX12_dueOfNew_180 : decode cX12_dueOfNew 180 = .ok (.iconst 0, 1) := by decide +kernel
theorem dX12_dueOfNew_181 : decode cX12_dueOfNew 181 = .ok (.iload_n 3, 1) := by decide +kernel
theorem dX12_dueOfNew_182 : decode cX12_dueOfNew 182 = .ok (.invokespecial 226, 3) := by decide +kernel
theorem dX12_dueOfNew_185 : decode cX12_dueOfNew 185 = .ok (.invokevirtual 239, 3) := by decide +kernel
theorem dX12_dueOfNew_188 : decode cX12_dueOfNew 188 = .ok (.ireturn, 1) := by decide +kernel
theorem dX12_dueOfNew_189 : decode cX12_dueOfNew 189 = .ok (.aload_n 0, 1) := by decide +kernel
theorem dX12_dueOfNew_190 : decode cX12_dueOfNew 190 = .ok (.iload_n 3, 1) := by decide +kernel
theorem dX12_dueOfNew_191 : decode cX12_dueOfNew 191 = .ok (.invokevirtual 219, 3) := by decide +kernel
theorem dX12_dueOfNew_194 : decode cX12_dueOfNew 194 = .ok (.ifCond .ne 7, 3) := by decide +kernel
theorem dX12_dueOfNew_197 : decode cX12_dueOfNew 197 = .ok (.sipush (-1011), 3) := by decide +kernel
theorem dX12_dueOfNew_200 : decode cX12_dueOfNew 200 = .ok (.ireturn, 1) := by decide +kernel
theorem dX12_dueOfNew_201 : decode cX12_dueOfNew 201 = .ok (.aload_n 0, 1) := by decide +kernel
theorem dX12_dueOfNew_202 : decode cX12_dueOfNew 202 = .ok (.iload_n 3, 1) := by decide +kernel
theorem dX12_dueOfNew_203 : decode cX12_dueOfNew 203 = .ok (.invokevirtual 48, 3) := by decide +kernel
theorem dX12_dueOfNew_206 : decode cX12_dueOfNew 206 = .ok (.ifnonnull 7, 3) := by decide +kernel
theorem dX12_dueOfNew_209 : decode cX12_dueOfNew 209 = .ok (.sipush (-1012), 3) := by decide +kernel
theorem dX12_dueOfNew_212 : decode cX12_dueOfNew 212 = .ok (.ireturn, 1) := by decide +kernel
theorem dX12_dueOfNew_213 : decode cX12_dueOfNew 213 = .ok (.new 7, 3) := by decide +kernel
theorem dX12_dueOfNew_216 : decode cX12_dueOfNew 216 = .ok (.dup, 1) := by decide +kernel
theorem dX12_dueOfNew_217 : decode cX12_dueOfNew 217 = .ok (.iload_n 1, 1) := by decide +kernel
theorem dX12_dueOfNew_218 : decode cX12_dueOfNew 218 = .ok (.bipush 7, 2) := by decide +kernel
theorem dX12_dueOfNew_220 : decode cX12_dueOfNew 220 = .ok (.isub, 1) := by decide +kernel
theorem dX12_dueOfNew_221 : decode cX12_dueOfNew 221 = .ok (.iconst (-1), 1) := by decide +kernel
theorem dX12_dueOfNew_222 : decode cX12_dueOfNew 222 = .ok (.iconst 0, 1) := by decide +kernel
theorem dX12_dueOfNew_223 : decode cX12_dueOfNew 223 = .ok (.iconst 0, 1) := by decide +kernel
theorem dX12_dueOfNew_224 : decode cX12_dueOfNew 224 = .ok (.iconst 0, 1) := by decide +kernel
theorem dX12_dueOfNew_225 : decode cX12_dueOfNew 225 = .ok (.invokespecial 226, 3) := by decide +kernel
theorem dX12_dueOfNew_228 : decode cX12_dueOfNew 228 = .ok (.astore 5, 2) := by decide +kernel
theorem dX12_dueOfNew_230 : decode cX12_dueOfNew 230 = .ok (.aload 5, 2) := by decide +kernel
theorem dX12_dueOfNew_232 : decode cX12_dueOfNew 232 = .ok (.aload_n 0, 1) := by decide +kernel
theorem dX12_dueOfNew_233 : decode cX12_dueOfNew 233 = .ok (.iload_n 3, 1) := by decide +kernel
theorem dX12_dueOfNew_234 : decode cX12_dueOfNew 234 = .ok (.invokevirtual 48, 3) := by decide +kernel
theorem dX12_dueOfNew_237 : decode cX12_dueOfNew 237 = .ok (.putfield 92, 3) := by decide +kernel
theorem dX12_dueOfNew_240 : decode cX12_dueOfNew 240 = .ok (.aload 5, 2) := by decide +kernel
theorem dX12_dueOfNew_242 : decode cX12_dueOfNew 242 = .ok (.iload_n 1, 1) := by decide +kernel
theorem dX12_dueOfNew_243 : decode cX12_dueOfNew 243 = .ok (.bipush 12, 2) := by decide +kernel
theorem dX12_dueOfNew_245 : decode cX12_dueOfNew 245 = .ok (.if_icmp .eq 9, 3) := by decide +kernel
theorem dX12_dueOfNew_248 : decode cX12_dueOfNew 248 = .ok (.iload 4, 2) := by decide +kernel
theorem dX12_dueOfNew_250 : decode cX12_dueOfNew 250 = .ok (.iconst 1, 1) := by decide +kernel
theorem dX12_dueOfNew_251 : decode cX12_dueOfNew 251 = .ok (.if_icmp .ne 7, 3) := by decide +kernel
theorem dX12_dueOfNew_254 : decode cX12_dueOfNew 254 = .ok (.iconst 1, 1) := by decide +kernel
theorem dX12_dueOfNew_255 : decode cX12_dueOfNew 255 = .ok (.goto 4, 3) := by decide +kernel
theorem dX12_dueOfNew_258 : decode cX12_dueOfNew 258 = .ok (.iconst 0, 1) := by decide +kernel
theorem dX12_dueOfNew_259 : decode cX12_dueOfNew 259 = .ok (.putfield 157, 3) := by decide +kernel
theorem dX12_dueOfNew_262 : decode cX12_dueOfNew 262 = .ok (.aload_n 0, 1) := by decide +kernel
theorem dX12_dueOfNew_263 : decode cX12_dueOfNew 263 = .ok (.iload_n 2, 1) := by decide +kernel
theorem dX12_dueOfNew_264 : decode cX12_dueOfNew 264 = .ok (.aload 5, 2) := by decide +kernel
theorem dX12_dueOfNew_266 : decode cX12_dueOfNew 266 = .ok (.invokevirtual 239, 3) := by decide +kernel
theorem dX12_dueOfNew_269 : decode cX12_dueOfNew 269 = .ok (.ireturn, 1) := by decide +kernel
theorem dX12_dueOfFields_0 : decode cX12_dueOfFields 0 = .ok (.aload_n 0, 1) := by decide +kernel
theorem dX12_dueOfFields_1 : decode cX12_dueOfFields 1 = .ok (.iload_n 2, 1) := by decide +kernel
theorem dX12_dueOfFields_2 : decode cX12_dueOfFields 2 = .ok (.invokevirtual 219, 3) := by decide +kernel
theorem dX12_dueOfFields_5 : decode cX12_dueOfFields 5 = .ok (.ifCond .eq 32, 3) := by decide +kernel
theorem dX12_dueOfFields_8 : decode cX12_dueOfFields 8 = .ok (.iload_n 1, 1) := by decide +kernel
theorem dX12_dueOfFields_9 : decode cX12_dueOfFields 9 = .ok (.bipush 14, 2) := by decide +kernel
theorem dX12_dueOfFields_11 : decode cX12_dueOfFields 11 = .ok (.if_icmp .ne 11, 3) := by decide +kernel
theorem dX12_dueOfFields_14 : decode cX12_dueOfFields 14 = .ok (.aload_n 0, 1) := by decide +kernel
theorem dX12_dueOfFields_15 : decode cX12_dueOfFields 15 = .ok (.iload_n 3, 1) := by decide +kernel
theorem dX12_dueOfFields_16 : decode cX12_dueOfFields 16 = .ok (.invokevirtual 219, 3) := by decide +kernel
theorem dX12_dueOfFields_19 : decode cX12_dueOfFields 19 = .ok (.ifCond .eq 18, 3) := by decide +kernel
theorem dX12_dueOfFields_22 : decode cX12_dueOfFields 22 = .ok (.iload_n 1, 1) := by decide +kernel
theorem dX12_dueOfFields_23 : decode cX12_dueOfFields 23 = .ok (.bipush 15, 2) := by decide +kernel
theorem dX12_dueOfFields_25 : decode cX12_dueOfFields 25 = .ok (.if_icmp .ne 16, 3) := by decide +kernel
theorem dX12_dueOfFields_28 : decode cX12_dueOfFields 28 = .ok (.aload_n 0, 1) := by decide +kernel
theorem dX12_dueOfFields_29 : decode cX12_dueOfFields 29 = .ok (.iload 4, 2) := by decide +kernel
theorem dX12_dueOfFields_31 : decode cX12_dueOfFields 31 = .ok (.invokevirtual 219, 3) := by decide +kernel
theorem dX12_dueOfFields_34 : decode cX12_dueOfFields 34 = .ok (.ifCond .ne 7, 3) := by decide +kernel
theorem dX12_dueOfFields_37 : decode cX12_dueOfFields 37 = .ok (.sipush (-1011), 3) := by decide +kernel
theorem dX12_dueOfFields_40 : decode cX12_dueOfFields 40 = .ok (.ireturn, 1) := by decide +kernel
theorem dX12_dueOfFields_41 : decode cX12_dueOfFields 41 = .ok (.aload_n 0, 1) := by decide +kernel
theorem dX12_dueOfFields_42 : decode cX12_dueOfFields 42 = .ok (.iload_n 1, 1) := by decide +kernel
theorem dX12_dueOfFields_43 : decode cX12_dueOfFields 43 = .ok (.bipush 14, 2) := by decide +kernel
theorem dX12_dueOfFields_45 : decode cX12_dueOfFields 45 = .ok (.if_icmp .ne 7, 3) := by decide +kernel
theorem dX12_dueOfFields_48 : decode cX12_dueOfFields 48 = .ok (.iload_n 3, 1) := by decide +kernel
theorem dX12_dueOfFields_49 : decode cX12_dueOfFields 49 = .ok (.goto 4, 3) := by decide +kernel
theorem dX12_dueOfFields_52 : decode cX12_dueOfFields 52 = .ok (.iload_n 2, 1) := by decide +kernel
theorem dX12_dueOfFields_53 : decode cX12_dueOfFields 53 = .ok (.invokevirtual 48, 3) := by decide +kernel
theorem dX12_dueOfFields_56 : decode cX12_dueOfFields 56 = .ok (.astore 5, 2) := by decide +kernel
theorem dX12_dueOfFields_58 : decode cX12_dueOfFields 58 = .ok (.iload_n 1, 1) := by decide +kernel
theorem dX12_dueOfFields_59 : decode cX12_dueOfFields 59 = .ok (.bipush 14, 2) := by decide +kernel
theorem dX12_dueOfFields_61 : decode cX12_dueOfFields 61 = .ok (.if_icmp .ne 8, 3) := by decide +kernel
theorem dX12_dueOfFields_64 : decode cX12_dueOfFields 64 = .ok (.iload 4, 2) := by decide +kernel
theorem dX12_dueOfFields_66 : decode cX12_dueOfFields 66 = .ok (.goto 4, 3) := by decide +kernel
theorem dX12_dueOfFields_69 : decode cX12_dueOfFields 69 = .ok (.iload_n 3, 1) := by decide +kernel
theorem dX12_dueOfFields_70 : decode cX12_dueOfFields 70 = .ok (.istore 6, 2) := by decide +kernel
theorem dX12_dueOfFields_72 : decode cX12_dueOfFields 72 = .ok (.aload 5, 2) := by decide +kernel
theorem dX12_dueOfFields_74 : decode cX12_dueOfFields 74 = .ok (.ifnonnull 7, 3) := by decide +kernel
theorem dX12_dueOfFields_77 : decode cX12_dueOfFields 77 = .ok (.sipush (-1012), 3) := by decide +kernel
theorem dX12_dueOfFields_80 : decode cX12_dueOfFields 80 = .ok (.ireturn, 1) := by decide +kernel
theorem dX12_dueOfFields_81 : decode cX12_dueOfFields 81 = .ok (.iload_n 1, 1) := by decide +kernel
theorem dX12_dueOfFields_82 : decode cX12_dueOfFields 82 = .ok (.bipush 16, 2) := by decide +kernel
theorem dX12_dueOfFields_84 : decode cX12_dueOfFields 84 = .ok (.if_icmp .ge 73, 3) := by decide +kernel
theorem dX12_dueOfFields_87 : decode cX12_dueOfFields 87 = .ok (.iload 6, 2) := by decide +kernel
theorem dX12_dueOfFields_89 : decode cX12_dueOfFields 89 = .ok (.ifCond .lt 14, 3) := by decide +kernel
theorem dX12_dueOfFields_92 : decode cX12_dueOfFields 92 = .ok (.iload 6, 2) := by decide +kernel
theorem dX12_dueOfFields_94 : decode cX12_dueOfFields 94 = .ok (.aload 5, 2) := by decide +kernel
theorem dX12_dueOfFields_96 : decode cX12_dueOfFields 96 = .ok (.getfield 98, 3) := by decide +kernel
theorem dX12_dueOfFields_99 : decode cX12_dueOfFields 99 = .ok (.arraylength, 1) := by decide +kernel
theorem dX12_dueOfFields_100 : decode cX12_dueOfFields 100 = .ok (.if_icmp .lt 7, 3) := by decide +kernel
theorem dX12_dueOfFields_103 : decode cX12_dueOfFields 103 = .ok (.sipush (-1012), 3) := by decide +kernel
theorem dX12_dueOfFields_106 : decode cX12_dueOfFields 106 = .ok (.ireturn, 1) := by decide +kernel
theorem dX12_dueOfFields_107 : decode cX12_dueOfFields 107 = .ok (.aload 5, 2) := by decide +kernel
theorem dX12_dueOfFields_109 : decode cX12_dueOfFields 109 = .ok (.getfield 98, 3) := by decide +kernel
theorem dX12_dueOfFields_112 : decode cX12_dueOfFields 112 = .ok (.iload 6, 2) := by decide +kernel
theorem dX12_dueOfFields_114 : decode cX12_dueOfFields 114 = .ok (.aaload, 1) := by decide +kernel
theorem dX12_dueOfFields_115 : decode cX12_dueOfFields 115 = .ok (.invokestatic 55, 3) := by decide +kernel
theorem dX12_dueOfFields_118 : decode cX12_dueOfFields 118 = .ok (.istore 7, 2) := by decide +kernel
theorem dX12_dueOfFields_120 : decode cX12_dueOfFields 120 = .ok (.iload_n 1, 1) := by decide +kernel
theorem dX12_dueOfFields_121 : decode cX12_dueOfFields 121 = .ok (.bipush 14, 2) := by decide +kernel
theorem dX12_dueOfFields_123 : decode cX12_dueOfFields 123 = .ok (.if_icmp .ne 17, 3) := by decide +kernel
theorem dX12_dueOfFields_126 : decode cX12_dueOfFields 126 = .ok (.aload_n 0, 1) := by decide +kernel
theorem dX12_dueOfFields_127 : decode cX12_dueOfFields 127 = .ok (.iload_n 2, 1) := by decide +kernel
theorem dX12_dueOfFields_128 : decode cX12_dueOfFields 128 = .ok (.aload 5, 2) := by decide +kernel
theorem dX12_dueOfFields_130 : decode cX12_dueOfFields 130 = .ok (.getfield 98, 3) := by decide +kernel
theorem dX12_dueOfFields_133 : decode cX12_dueOfFields 133 = .ok (.iload 6, 2) := by decide +kernel
theorem dX12_dueOfFields_135 : decode cX12_dueOfFields 135 = .ok (.aaload, 1) := by decide +kernel
theorem dX12_dueOfFields_136 : decode cX12_dueOfFields 136 = .ok (.invokevirtual 222, 3) := by decide +kernel
theorem dX12_dueOfFields_139 : decode cX12_dueOfFields 139 = .ok (.ireturn, 1) := by decide +kernel
theorem dX12_dueOfFields_140 : decode cX12_dueOfFields 140 = .ok (.aload 5, 2) := by decide +kernel
theorem dX12_dueOfFields_142 : decode cX12_dueOfFields 142 = .ok (.getfield 98, 3) := by decide +kernel
theorem dX12_dueOfFields_145 : decode cX12_dueOfFields 145 = .ok (.iload 6, 2) := by decide +kernel
theorem dX12_dueOfFields_147 : decode cX12_dueOfFields 147 = .ok (.aload_n 0, 1) := by decide +kernel
theorem dX12_dueOfFields_148 : decode cX12_dueOfFields 148 = .ok (.iload 4, 2) := by decide +kernel
theorem dX12_dueOfFields_150 : decode cX12_dueOfFields 150 = .ok (.invokevirtual 48, 3) := by decide +kernel
theorem dX12_dueOfFields_153 : decode cX12_dueOfFields 153 = .ok (.aastore, 1) := by decide +kernel
theorem dX12_dueOfFields_154 : decode cX12_dueOfFields 154 = .ok (.iload 7, 2) := by decide +kernel
theorem dX12_dueOfFields_156 : decode cX12_dueOfFields 156 = .ok (.ireturn, 1) := by decide +kernel
theorem dX12_dueOfFields_157 : decode cX12_dueOfFields 157 = .ok (.aload 5, 2) := by decide +kernel
theorem dX12_dueOfFields_159 : decode cX12_dueOfFields 159 = .ok (.getfield 52, 3) := by decide +kernel
theorem dX12_dueOfFields_162 : decode cX12_dueOfFields 162 = .ok (.iload_n 1, 1) := by decide +kernel
theorem dX12_dueOfFields_163 : decode cX12_dueOfFields 163 = .ok (.bipush 18, 2) := by decide +kernel
theorem dX12_dueOfFields_165 : decode cX12_dueOfFields 165 = .ok (.if_icmp .ge 7, 3) := by decide +kernel
theorem dX12_dueOfFields_168 : decode cX12_dueOfFields 168 = .ok (.iconst 0, 1) := by decide +kernel
theorem dX12_dueOfFields_169 : decode cX12_dueOfFields 169 = .ok (.goto 4, 3) := by decide +kernel
theorem dX12_dueOfFields_172 : decode cX12_dueOfFields 172 = .ok (.iconst 2, 1) := by decide +kernel
theorem dX12_dueOfFields_173 : decode cX12_dueOfFields 173 = .ok (.if_icmp .ne 38, 3) := by decide +kernel
theorem dX12_dueOfFields_176 : decode cX12_dueOfFields 176 = .ok (.iload 6, 2) := by decide +kernel
theorem dX12_dueOfFields_178 : decode cX12_dueOfFields 178 = .ok (.ifCond .lt 33, 3) := by decide +kernel
theorem dX12_dueOfFields_181 : decode cX12_dueOfFields 181 = .ok (.iload 6, 2) := by decide +kernel
theorem dX12_dueOfFields_183 : decode cX12_dueOfFields 183 = .ok (.aload 5, 2) := by decide +kernel
theorem dX12_dueOfFields_185 : decode cX12_dueOfFields 185 = .ok (.getfield 242, 3) := by decide +kernel
theorem dX12_dueOfFields_188 : decode cX12_dueOfFields 188 = .ok (.arraylength, 1) := by decide +kernel
theorem dX12_dueOfFields_189 : decode cX12_dueOfFields 189 = .ok (.if_icmp .ge 22, 3) := by decide +kernel
theorem dX12_dueOfFields_192 : decode cX12_dueOfFields 192 = .ok (.iload_n 1, 1) := by decide +kernel
theorem dX12_dueOfFields_193 : decode cX12_dueOfFields 193 = .ok (.bipush 19, 2) := by decide +kernel
theorem dX12_dueOfFields_195 : decode cX12_dueOfFields 195 = .ok (.if_icmp .ne 20, 3) := by decide +kernel
theorem dX12_dueOfFields_198 : decode cX12_dueOfFields 198 = .ok (.iload 4, 2) := by decide +kernel
theorem dX12_dueOfFields_200 : decode cX12_dueOfFields 200 = .ok (.ifCond .lt 11, 3) := by decide +kernel
theorem dX12_dueOfFields_203 : decode cX12_dueOfFields 203 = .ok (.iload 4, 2) := by decide +kernel
theorem dX12_dueOfFields_205 : decode cX12_dueOfFields 205 = .ok (.sipush 255, 3) := by decide +kernel
theorem dX12_dueOfFields_208 : decode cX12_dueOfFields 208 = .ok (.if_icmp .le 7, 3) := by decide +kernel
theorem dX12_dueOfFields_211 : decode cX12_dueOfFields 211 = .ok (.sipush (-1012), 3) := by decide +kernel
theorem dX12_dueOfFields_214 : decode cX12_dueOfFields 214 = .ok (.ireturn, 1) := by decide +kernel
theorem dX12_dueOfFields_215 : decode cX12_dueOfFields 215 = .ok (.iload_n 1, 1) := by decide +kernel
theorem dX12_dueOfFields_216 : decode cX12_dueOfFields 216 = .ok (.bipush 19, 2) := by decide +kernel
theorem dX12_dueOfFields_218 : decode cX12_dueOfFields 218 = .ok (.if_icmp .ne 15, 3) := by decide +kernel
theorem dX12_dueOfFields_221 : decode cX12_dueOfFields 221 = .ok (.aload 5, 2) := by decide +kernel
theorem dX12_dueOfFields_223 : decode cX12_dueOfFields 223 = .ok (.getfield 245, 3) := by decide +kernel
theorem dX12_dueOfFields_226 : decode cX12_dueOfFields 226 = .ok (.ifCond .eq 7, 3) := by decide +kernel
theorem dX12_dueOfFields_229 : decode cX12_dueOfFields 229 = .ok (.sipush (-1013), 3) := by decide +kernel
theorem dX12_dueOfFields_232 : decode cX12_dueOfFields 232 = .ok (.ireturn, 1) := by decide +kernel
theorem dX12_dueOfFields_233 : decode cX12_dueOfFields 233 = .ok (.aload 5, 2) := by decide +kernel
theorem dX12_dueOfFields_235 : decode cX12_dueOfFields 235 = .ok (.getfield 242, 3) := by decide +kernel
theorem dX12_dueOfFields_238 : decode cX12_dueOfFields 238 = .ok (.iload 6, 2) := by decide +kernel
theorem dX12_dueOfFields_240 : decode cX12_dueOfFields 240 = .ok (.iaload, 1) := by decide +kernel
theorem dX12_dueOfFields_241 : decode cX12_dueOfFields 241 = .ok (.istore 7, 2) := by decide +kernel
theorem dX12_dueOfFields_243 : decode cX12_dueOfFields 243 = .ok (.iload_n 1, 1) := by decide +kernel
theorem dX12_dueOfFields_244 : decode cX12_dueOfFields 244 = .ok (.iconst 2, 1) := by decide +kernel
theorem dX12_dueOfFields_245 : decode cX12_dueOfFields 245 = .ok (.irem, 1) := by decide +kernel
theorem dX12_dueOfFields_246 : decode cX12_dueOfFields 246 = .ok (.iconst 1, 1) := by decide +kernel
theorem dX12_dueOfFields_247 : decode cX12_dueOfFields 247 = .ok (.if_icmp .ne 13, 3) := by decide +kernel
theorem dX12_dueOfFields_250 : decode cX12_dueOfFields 250 = .ok (.aload 5, 2) := by decide +kernel
theorem dX12_dueOfFields_252 : decode cX12_dueOfFields 252 = .ok (.getfield 242, 3) := by decide +kernel
theorem dX12_dueOfFields_255 : decode cX12_dueOfFields 255 = .ok (.iload 6, 2) := by decide +kernel
theorem dX12_dueOfFields_257 : decode cX12_dueOfFields 257 = .ok (.iload 4, 2) := by decide +kernel
theorem dX12_dueOfFields_259 : decode cX12_dueOfFields 259 = .ok (.iastore, 1) := by decide +kernel
theorem dX12_dueOfFields_260 : decode cX12_dueOfFields 260 = .ok (.iload 7, 2) := by decide +kernel
theorem dX12_dueOfFields_262 : decode cX12_dueOfFields 262 = .ok (.ireturn, 1) := by decide +kernel
theorem dX12_dueOfReferences_0 : decode cX12_dueOfReferences 0 = .ok (.iload_n 1, 1) := by decide +kernel
theorem dX12_dueOfReferences_1 : decode cX12_dueOfReferences 1 = .ok (.bipush 22, 2) := by decide +kernel
theorem dX12_dueOfReferences_3 : decode cX12_dueOfReferences 3 = .ok (.if_icmp .eq 15, 3) := by decide +kernel
theorem dX12_dueOfReferences_6 : decode cX12_dueOfReferences 6 = .ok (.iload_n 1, 1) := by decide +kernel
theorem dX12_dueOfReferences_7 : decode cX12_dueOfReferences 7 = .ok (.bipush 23, 2) := by decide +kernel
theorem dX12_dueOfReferences_9 : decode cX12_dueOfReferences 9 = .ok (.if_icmp .eq 9, 3) := by decide +kernel
theorem dX12_dueOfReferences_12 : decode cX12_dueOfReferences 12 = .ok (.iload_n 1, 1) := by decide +kernel
theorem dX12_dueOfReferences_13 : decode cX12_dueOfReferences 13 = .ok (.bipush 24, 2) := by decide +kernel
theorem dX12_dueOfReferences_15 : decode cX12_dueOfReferences 15 = .ok (.if_icmp .ne 7, 3) := by decide +kernel
theorem dX12_dueOfReferences_18 : decode cX12_dueOfReferences 18 = .ok (.iconst 1, 1) := by decide +kernel
theorem dX12_dueOfReferences_19 : decode cX12_dueOfReferences 19 = .ok (.goto 4, 3) := by decide +kernel
theorem dX12_dueOfReferences_22 : decode cX12_dueOfReferences 22 = .ok (.iconst 0, 1) := by decide +kernel
theorem dX12_dueOfReferences_23 : decode cX12_dueOfReferences 23 = .ok (.istore 5, 2) := by decide +kernel
theorem dX12_dueOfReferences_25 : decode cX12_dueOfReferences 25 = .ok (.aload_n 0, 1) := by decide +kernel
theorem dX12_dueOfReferences_26 : decode cX12_dueOfReferences 26 = .ok (.iload_n 2, 1) := by decide +kernel
theorem dX12_dueOfReferences_27 : decode cX12_dueOfReferences 27 = .ok (.invokevirtual 219, 3) := by decide +kernel
theorem dX12_dueOfReferences_30 : decode cX12_dueOfReferences 30 = .ok (.ifCond .eq 37, 3) := by decide +kernel
theorem dX12_dueOfReferences_33 : decode cX12_dueOfReferences 33 = .ok (.iload 5, 2) := by decide +kernel
theorem dX12_dueOfReferences_35 : decode cX12_dueOfReferences 35 = .ok (.ifCond .ne 11, 3) := by decide +kernel
theorem dX12_dueOfReferences_38 : decode cX12_dueOfReferences 38 = .ok (.aload_n 0, 1) := by decide +kernel
theorem dX12_dueOfReferences_39 : decode cX12_dueOfReferences 39 = .ok (.iload_n 3, 1) := by decide +kernel
theorem dX12_dueOfReferences_40 : decode cX12_dueOfReferences 40 = .ok (.invokevirtual 219, 3) := by decide +kernel
theorem dX12_dueOfReferences_43 : decode cX12_dueOfReferences 43 = .ok (.ifCond .eq 24, 3) := by decide +kernel
theorem dX12_dueOfReferences_46 : decode cX12_dueOfReferences 46 = .ok (.iload_n 1, 1) := by decide +kernel
theorem dX12_dueOfReferences_47 : decode cX12_dueOfReferences 47 = .ok (.bipush 25, 2) := by decide +kernel
theorem dX12_dueOfReferences_49 : decode cX12_dueOfReferences 49 = .ok (.if_icmp .eq 9, 3) := by decide +kernel
theorem dX12_dueOfReferences_52 : decode cX12_dueOfReferences 52 = .ok (.iload_n 1, 1) := by decide +kernel
theorem dX12_dueOfReferences_53 : decode cX12_dueOfReferences 53 = .ok (.bipush 26, 2) := by decide +kernel
theorem dX12_dueOfReferences_55 : decode cX12_dueOfReferences 55 = .ok (.if_icmp .ne 16, 3) := by decide +kernel
theorem dX12_dueOfReferences_58 : decode cX12_dueOfReferences 58 = .ok (.aload_n 0, 1) := by decide +kernel
theorem dX12_dueOfReferences_59 : decode cX12_dueOfReferences 59 = .ok (.iload 4, 2) := by decide +kernel
theorem dX12_dueOfReferences_61 : decode cX12_dueOfReferences 61 = .ok (.invokevirtual 219, 3) := by decide +kernel
theorem dX12_dueOfReferences_64 : decode cX12_dueOfReferences 64 = .ok (.ifCond .ne 7, 3) := by decide +kernel
theorem dX12_dueOfReferences_67 : decode cX12_dueOfReferences 67 = .ok (.sipush (-1011), 3) := by decide +kernel
theorem dX12_dueOfReferences_70 : decode cX12_dueOfReferences 70 = .ok (.ireturn, 1) := by decide +kernel
theorem dX12_dueOfReferences_71 : decode cX12_dueOfReferences 71 = .ok (.iload_n 1, 1) := by decide +kernel
theorem dX12_dueOfReferences_72 : decode cX12_dueOfReferences 72 = .ok (.tableswitch 333 20 24 #[36, 78, 135, 195, 264], 36) := by decide +kernel
theorem dX12_dueOfReferences_108 : decode cX12_dueOfReferences 108 = .ok (.aload_n 0, 1) := by decide +kernel
theorem dX12_dueOfReferences_109 : decode cX12_dueOfReferences 109 = .ok (.iload_n 3, 1) := by decide +kernel
theorem dX12_dueOfReferences_110 : decode cX12_dueOfReferences 110 = .ok (.invokevirtual 248, 3) := by decide +kernel
theorem dX12_dueOfReferences_113 : decode cX12_dueOfReferences 113 = .ok (.iconst 3, 1) := by decide +kernel
theorem dX12_dueOfReferences_114 : decode cX12_dueOfReferences 114 = .ok (.if_icmp .eq 18, 3) := by decide +kernel
theorem dX12_dueOfReferences_117 : decode cX12_dueOfReferences 117 = .ok (.aload_n 0, 1) := by decide +kernel
theorem dX12_dueOfReferences_118 : decode cX12_dueOfReferences 118 = .ok (.iload_n 3, 1) := by decide +kernel
theorem dX12_dueOfReferences_119 : decode cX12_dueOfReferences 119 = .ok (.invokevirtual 248, 3) := by decide +kernel
theorem dX12_dueOfReferences_122 : decode cX12_dueOfReferences 122 = .ok (.iconst 4, 1) := by decide +kernel
theorem dX12_dueOfReferences_123 : decode cX12_dueOfReferences 123 = .ok (.if_icmp .eq 9, 3) := by decide +kernel
theorem dX12_dueOfReferences_126 : decode cX12_dueOfReferences 126 = .ok (.sipush (-1012), 3) := by decide +kernel
theorem dX12_dueOfReferences_129 : decode cX12_dueOfReferences 129 = .ok (.goto 20, 3) := by decide +kernel
theorem dX12_dueOfReferences_132 : decode cX12_dueOfReferences 132 = .ok (.aload_n 0, 1) := by decide +kernel
theorem dX12_dueOfReferences_133 : decode cX12_dueOfReferences 133 = .ok (.iload_n 2, 1) := by decide +kernel
theorem dX12_dueOfReferences_134 : decode cX12_dueOfReferences 134 = .ok (.aload_n 0, 1) := by decide +kernel
theorem dX12_dueOfReferences_135 : decode cX12_dueOfReferences 135 = .ok (.aload_n 0, 1) := by decide +kernel
theorem dX12_dueOfReferences_136 : decode cX12_dueOfReferences 136 = .ok (.iload_n 3, 1) := by decide +kernel
theorem dX12_dueOfReferences_137 : decode cX12_dueOfReferences 137 = .ok (.invokevirtual 48, 3) := by decide +kernel
theorem dX12_dueOfReferences_140 : decode cX12_dueOfReferences 140 = .ok (.getfield 92, 3) := by decide +kernel
theorem dX12_dueOfReferences_143 : decode cX12_dueOfReferences 143 = .ok (.invokevirtual 250, 3) := by decide +kernel
theorem dX12_dueOfReferences_146 : decode cX12_dueOfReferences 146 = .ok (.invokevirtual 222, 3) := by decide +kernel
theorem dX12_dueOfReferences_149 : decode cX12_dueOfReferences 149 = .ok (.ireturn, 1) := by decide +kernel
theorem dX12_dueOfReferences_150 : decode cX12_dueOfReferences 150 = .ok (.aload_n 0, 1) := by decide +kernel
theorem dX12_dueOfReferences_151 : decode cX12_dueOfReferences 151 = .ok (.iload_n 2, 1) := by decide +kernel
theorem dX12_dueOfReferences_152 : decode cX12_dueOfReferences 152 = .ok (.invokevirtual 248, 3) := by decide +kernel
theorem dX12_dueOfReferences_155 : decode cX12_dueOfReferences 155 = .ok (.iconst 3, 1) := by decide +kernel
theorem dX12_dueOfReferences_156 : decode cX12_dueOfReferences 156 = .ok (.if_icmp .lt 12, 3) := by decide +kernel
theorem dX12_dueOfReferences_159 : decode cX12_dueOfReferences 159 = .ok (.aload_n 0, 1) := by decide +kernel
theorem dX12_dueOfReferences_160 : decode cX12_dueOfReferences 160 = .ok (.iload_n 2, 1) := by decide +kernel
theorem dX12_dueOfReferences_161 : decode cX12_dueOfReferences 161 = .ok (.invokevirtual 248, 3) := by decide +kernel
theorem dX12_dueOfReferences_164 : decode cX12_dueOfReferences 164 = .ok (.iconst 5, 1) := by decide +kernel
theorem dX12_dueOfReferences_165 : decode cX12_dueOfReferences 165 = .ok (.if_icmp .le 9, 3) := by decide +kernel
theorem dX12_dueOfReferences_168 : decode cX12_dueOfReferences 168 = .ok (.sipush (-1012), 3) := by decide +kernel
theorem dX12_dueOfReferences_171 : decode cX12_dueOfReferences 171 = .ok (.goto 35, 3) := by decide +kernel
theorem dX12_dueOfReferences_174 : decode cX12_dueOfReferences 174 = .ok (.aload_n 0, 1) := by decide +kernel
theorem dX12_dueOfReferences_175 : decode cX12_dueOfReferences 175 = .ok (.iload_n 2, 1) := by decide +kernel
theorem dX12_dueOfReferences_176 : decode cX12_dueOfReferences 176 = .ok (.invokevirtual 48, 3) := by decide +kernel
theorem dX12_dueOfReferences_179 : decode cX12_dueOfReferences 179 = .ok (.getfield 92, 3) := by decide +kernel
theorem dX12_dueOfReferences_182 : decode cX12_dueOfReferences 182 = .ok (.ifnull 23, 3) := by decide +kernel
theorem dX12_dueOfReferences_185 : decode cX12_dueOfReferences 185 = .ok (.aload_n 0, 1) := by decide +kernel
theorem dX12_dueOfReferences_186 : decode cX12_dueOfReferences 186 = .ok (.iload_n 2, 1) := by decide +kernel
theorem dX12_dueOfReferences_187 : decode cX12_dueOfReferences 187 = .ok (.invokevirtual 48, 3) := by decide +kernel
theorem dX12_dueOfReferences_190 : decode cX12_dueOfReferences 190 = .ok (.getfield 92, 3) := by decide +kernel
theorem dX12_dueOfReferences_193 : decode cX12_dueOfReferences 193 = .ok (.aload_n 0, 1) := by decide +kernel
theorem dX12_dueOfReferences_194 : decode cX12_dueOfReferences 194 = .ok (.iload_n 3, 1) := by decide +kernel
theorem dX12_dueOfReferences_195 : decode cX12_dueOfReferences 195 = .ok (.invokevirtual 48, 3) := by decide +kernel
theorem dX12_dueOfReferences_198 : decode cX12_dueOfReferences 198 = .ok (.if_acmp .ne 7, 3) := by decide +kernel
theorem dX12_dueOfReferences_201 : decode cX12_dueOfReferences 201 = .ok (.iconst 1, 1) := by decide +kernel
theorem dX12_dueOfReferences_202 : decode cX12_dueOfReferences 202 = .ok (.goto 4, 3) := by decide +kernel
theorem dX12_dueOfReferences_205 : decode cX12_dueOfReferences 205 = .ok (.iconst 0, 1) := by decide +kernel
theorem dX12_dueOfReferences_206 : decode cX12_dueOfReferences 206 = .ok (.ireturn, 1) := by decide +kernel
theorem dX12_dueOfReferences_207 : decode cX12_dueOfReferences 207 = .ok (.aload_n 0, 1) := by decide +kernel
theorem dX12_dueOfReferences_208 : decode cX12_dueOfReferences 208 = .ok (.iload_n 2, 1) := by decide +kernel
theorem dX12_dueOfReferences_209 : decode cX12_dueOfReferences 209 = .ok (.invokevirtual 248, 3) := by decide +kernel
theorem dX12_dueOfReferences_212 : decode cX12_dueOfReferences 212 = .ok (.iconst 3, 1) := by decide +kernel
theorem dX12_dueOfReferences_213 : decode cX12_dueOfReferences 213 = .ok (.if_icmp .lt 12, 3) := by decide +kernel
theorem dX12_dueOfReferences_216 : decode cX12_dueOfReferences 216 = .ok (.aload_n 0, 1) := by decide +kernel
theorem dX12_dueOfReferences_217 : decode cX12_dueOfReferences 217 = .ok (.iload_n 2, 1) := by decide +kernel
theorem dX12_dueOfReferences_218 : decode cX12_dueOfReferences 218 = .ok (.invokevirtual 248, 3) := by decide +kernel
theorem dX12_dueOfReferences_221 : decode cX12_dueOfReferences 221 = .ok (.iconst 5, 1) := by decide +kernel
theorem dX12_dueOfReferences_222 : decode cX12_dueOfReferences 222 = .ok (.if_icmp .le 7, 3) := by decide +kernel
theorem dX12_dueOfReferences_225 : decode cX12_dueOfReferences 225 = .ok (.sipush (-1012), 3) := by decide +kernel
theorem dX12_dueOfReferences_228 : decode cX12_dueOfReferences 228 = .ok (.ireturn, 1) := by decide +kernel
theorem dX12_dueOfReferences_229 : decode cX12_dueOfReferences 229 = .ok (.aload_n 0, 1) := by decide +kernel
theorem dX12_dueOfReferences_230 : decode cX12_dueOfReferences 230 = .ok (.iload_n 2, 1) := by decide +kernel
theorem dX12_dueOfReferences_231 : decode cX12_dueOfReferences 231 = .ok (.invokevirtual 48, 3) := by decide +kernel
theorem dX12_dueOfReferences_234 : decode cX12_dueOfReferences 234 = .ok (.getfield 92, 3) := by decide +kernel
theorem dX12_dueOfReferences_237 : decode cX12_dueOfReferences 237 = .ok (.ifnull 7, 3) := by decide +kernel
theorem dX12_dueOfReferences_240 : decode cX12_dueOfReferences 240 = .ok (.iconst 1, 1) := by decide +kernel
theorem dX12_dueOfReferences_241 : decode cX12_dueOfReferences 241 = .ok (.goto 4, 3) := by decide +kernel
theorem dX12_dueOfReferences_244 : decode cX12_dueOfReferences 244 = .ok (.iconst 0, 1) := by decide +kernel
theorem dX12_dueOfReferences_245 : decode cX12_dueOfReferences 245 = .ok (.istore 6, 2) := by decide +kernel
theorem dX12_dueOfReferences_247 : decode cX12_dueOfReferences 247 = .ok (.aload_n 0, 1) := by decide +kernel
theorem dX12_dueOfReferences_248 : decode cX12_dueOfReferences 248 = .ok (.iload_n 2, 1) := by decide +kernel
theorem dX12_dueOfReferences_249 : decode cX12_dueOfReferences 249 = .ok (.invokevirtual 48, 3) := by decide +kernel
theorem dX12_dueOfReferences_252 : decode cX12_dueOfReferences 252 = .ok (.aconst_null, 1) := by decide +kernel
theorem dX12_dueOfReferences_253 : decode cX12_dueOfReferences 253 = .ok (.putfield 92, 3) := by decide +kernel
theorem dX12_dueOfReferences_256 : decode cX12_dueOfReferences 256 = .ok (.iload 6, 2) := by decide +kernel
theorem dX12_dueOfReferences_258 : decode cX12_dueOfReferences 258 = .ok (.ifCond .eq 7, 3) := by decide +kernel
theorem dX12_dueOfReferences_261 : decode cX12_dueOfReferences 261 = .ok (.iconst 1, 1) := by decide +kernel
theorem dX12_dueOfReferences_262 : decode cX12_dueOfReferences 262 = .ok (.goto 4, 3) := by decide +kernel
theorem dX12_dueOfReferences_265 : decode cX12_dueOfReferences 265 = .ok (.iconst 0, 1) := by decide +kernel
theorem dX12_dueOfReferences_266 : decode cX12_dueOfReferences 266 = .ok (.ireturn, 1) := by decide +kernel
theorem dX12_dueOfReferences_267 : decode cX12_dueOfReferences 267 = .ok (.aload_n 0, 1) := by decide +kernel
theorem dX12_dueOfReferences_268 : decode cX12_dueOfReferences 268 = .ok (.getfield 83, 3) := by decide +kernel
theorem dX12_dueOfReferences_271 : decode cX12_dueOfReferences 271 = .ok (.ifCond .ne 5, 3) := by decide +kernel
theorem dX12_dueOfReferences_274 : decode cX12_dueOfReferences 274 = .ok (.iconst (-1), 1) := by decide +kernel
theorem dX12_dueOfReferences_275 : decode cX12_dueOfReferences 275 = .ok (.ireturn, 1) := by decide +kernel
theorem dX12_dueOfReferences_276 : decode cX12_dueOfReferences 276 = .ok (.aload_n 0, 1) := by decide +kernel
theorem dX12_dueOfReferences_277 : decode cX12_dueOfReferences 277 = .ok (.getfield 29, 3) := by decide +kernel
theorem dX12_dueOfReferences_280 : decode cX12_dueOfReferences 280 = .ok (.iconst 0, 1) := by decide +kernel
theorem dX12_dueOfReferences_281 : decode cX12_dueOfReferences 281 = .ok (.aaload, 1) := by decide +kernel
theorem dX12_dueOfReferences_282 : decode cX12_dueOfReferences 282 = .ok (.astore 6, 2) := by decide +kernel
theorem dX12_dueOfReferences_284 : decode cX12_dueOfReferences 284 = .ok (.aload_n 0, 1) := by decide +kernel
theorem dX12_dueOfReferences_285 : decode cX12_dueOfReferences 285 = .ok (.dup, 1) := by decide +kernel
theorem dX12_dueOfReferences_286 : decode cX12_dueOfReferences 286 = .ok (.getfield 83, 3) := by decide +kernel
theorem dX12_dueOfReferences_289 : decode cX12_dueOfReferences 289 = .ok (.iconst 1, 1) := by decide +kernel
theorem dX12_dueOfReferences_290 : decode cX12_dueOfReferences 290 = .ok (.isub, 1) := by decide +kernel
theorem dX12_dueOfReferences_291 : decode cX12_dueOfReferences 291 = .ok (.putfield 83, 3) := by decide +kernel
theorem dX12_dueOfReferences_294 : decode cX12_dueOfReferences 294 = .ok (.iconst 0, 1) := by decide +kernel
theorem dX12_dueOfReferences_295 : decode cX12_dueOfReferences 295 = .ok (.istore 7, 2) := by decide +kernel
theorem dX12_dueOfReferences_297 : decode cX12_dueOfReferences 297 = .ok (.iload 7, 2) := by decide +kernel
theorem dX12_dueOfReferences_299 : decode cX12_dueOfReferences 299 = .ok (.aload_n 0, 1) := by decide +kernel
theorem dX12_dueOfReferences_300 : decode cX12_dueOfReferences 300 = .ok (.getfield 83, 3) := by decide +kernel
theorem dX12_dueOfReferences_303 : decode cX12_dueOfReferences 303 = .ok (.if_icmp .ge 25, 3) := by decide +kernel
theorem dX12_dueOfReferences_306 : decode cX12_dueOfReferences 306 = .ok (.aload_n 0, 1) := by decide +kernel
theorem dX12_dueOfReferences_307 : decode cX12_dueOfReferences 307 = .ok (.getfield 29, 3) := by decide +kernel
theorem dX12_dueOfReferences_310 : decode cX12_dueOfReferences 310 = .ok (.iload 7, 2) := by decide +kernel
theorem dX12_dueOfReferences_312 : decode cX12_dueOfReferences 312 = .ok (.aload_n 0, 1) := by decide +kernel
theorem dX12_dueOfReferences_313 : decode cX12_dueOfReferences 313 = .ok (.getfield 29, 3) := by decide +kernel
theorem dX12_dueOfReferences_316 : decode cX12_dueOfReferences 316 = .ok (.iload 7, 2) := by decide +kernel
theorem dX12_dueOfReferences_318 : decode cX12_dueOfReferences 318 = .ok (.iconst 1, 1) := by decide +kernel
theorem dX12_dueOfReferences_319 : decode cX12_dueOfReferences 319 = .ok (.iadd, 1) := by decide +kernel
theorem dX12_dueOfReferences_320 : decode cX12_dueOfReferences 320 = .ok (.aaload, 1) := by decide +kernel
theorem dX12_dueOfReferences_321 : decode cX12_dueOfReferences 321 = .ok (.aastore, 1) := by decide +kernel
theorem dX12_dueOfReferences_322 : decode cX12_dueOfReferences 322 = .ok (.iinc 7 1, 3) := by decide +kernel
theorem dX12_dueOfReferences_325 : decode cX12_dueOfReferences 325 = .ok (.goto (-28), 3) := by decide +kernel
theorem dX12_dueOfReferences_328 : decode cX12_dueOfReferences 328 = .ok (.aload_n 0, 1) := by decide +kernel
theorem dX12_dueOfReferences_329 : decode cX12_dueOfReferences 329 = .ok (.iload_n 2, 1) := by decide +kernel
theorem dX12_dueOfReferences_330 : decode cX12_dueOfReferences 330 = .ok (.aload 6, 2) := by decide +kernel
theorem dX12_dueOfReferences_332 : decode cX12_dueOfReferences 332 = .ok (.invokevirtual 222, 3) := by decide +kernel
theorem dX12_dueOfReferences_335 : decode cX12_dueOfReferences 335 = .ok (.ireturn, 1) := by decide +kernel
theorem dX12_dueOfReferences_336 : decode cX12_dueOfReferences 336 = .ok (.aload_n 0, 1) := by decide +kernel
theorem dX12_dueOfReferences_337 : decode cX12_dueOfReferences 337 = .ok (.getfield 86, 3) := by decide +kernel
theorem dX12_dueOfReferences_340 : decode cX12_dueOfReferences 340 = .ok (.ifCond .ne 5, 3) := by decide +kernel
theorem dX12_dueOfReferences_343 : decode cX12_dueOfReferences 343 = .ok (.iconst (-1), 1) := by decide +kernel
theorem dX12_dueOfReferences_344 : decode cX12_dueOfReferences 344 = .ok (.ireturn, 1) := by decide +kernel
theorem dX12_dueOfReferences_345 : decode cX12_dueOfReferences 345 = .ok (.aload_n 0, 1) := by decide +kernel
theorem dX12_dueOfReferences_346 : decode cX12_dueOfReferences 346 = .ok (.getfield 32, 3) := by decide +kernel
theorem dX12_dueOfReferences_349 : decode cX12_dueOfReferences 349 = .ok (.iconst 0, 1) := by decide +kernel
theorem dX12_dueOfReferences_350 : decode cX12_dueOfReferences 350 = .ok (.aaload, 1) := by decide +kernel
theorem dX12_dueOfReferences_351 : decode cX12_dueOfReferences 351 = .ok (.astore 6, 2) := by decide +kernel
theorem dX12_dueOfReferences_353 : decode cX12_dueOfReferences 353 = .ok (.aload_n 0, 1) := by decide +kernel
theorem dX12_dueOfReferences_354 : decode cX12_dueOfReferences 354 = .ok (.dup, 1) := by decide +kernel
theorem dX12_dueOfReferences_355 : decode cX12_dueOfReferences 355 = .ok (.getfield 86, 3) := by decide +kernel
theorem dX12_dueOfReferences_358 : decode cX12_dueOfReferences 358 = .ok (.iconst 1, 1) := by decide +kernel
theorem dX12_dueOfReferences_359 : decode cX12_dueOfReferences 359 = .ok (.isub, 1) := by decide +kernel
theorem dX12_dueOfReferences_360 : decode cX12_dueOfReferences 360 = .ok (.putfield 86, 3) := by decide +kernel
theorem dX12_dueOfReferences_363 : decode cX12_dueOfReferences 363 = .ok (.iconst 0, 1) := by decide +kernel
theorem dX12_dueOfReferences_364 : decode cX12_dueOfReferences 364 = .ok (.istore 7, 2) := by decide +kernel
theorem dX12_dueOfReferences_366 : decode cX12_dueOfReferences 366 = .ok (.iload 7, 2) := by decide +kernel
theorem dX12_dueOfReferences_368 : decode cX12_dueOfReferences 368 = .ok (.aload_n 0, 1) := by decide +kernel
theorem dX12_dueOfReferences_369 : decode cX12_dueOfReferences 369 = .ok (.getfield 86, 3) := by decide +kernel
theorem dX12_dueOfReferences_372 : decode cX12_dueOfReferences 372 = .ok (.if_icmp .ge 25, 3) := by decide +kernel
theorem dX12_dueOfReferences_375 : decode cX12_dueOfReferences 375 = .ok (.aload_n 0, 1) := by decide +kernel
theorem dX12_dueOfReferences_376 : decode cX12_dueOfReferences 376 = .ok (.getfield 32, 3) := by decide +kernel
theorem dX12_dueOfReferences_379 : decode cX12_dueOfReferences 379 = .ok (.iload 7, 2) := by decide +kernel
theorem dX12_dueOfReferences_381 : decode cX12_dueOfReferences 381 = .ok (.aload_n 0, 1) := by decide +kernel
theorem dX12_dueOfReferences_382 : decode cX12_dueOfReferences 382 = .ok (.getfield 32, 3) := by decide +kernel
theorem dX12_dueOfReferences_385 : decode cX12_dueOfReferences 385 = .ok (.iload 7, 2) := by decide +kernel
theorem dX12_dueOfReferences_387 : decode cX12_dueOfReferences 387 = .ok (.iconst 1, 1) := by decide +kernel
theorem dX12_dueOfReferences_388 : decode cX12_dueOfReferences 388 = .ok (.iadd, 1) := by decide +kernel
theorem dX12_dueOfReferences_389 : decode cX12_dueOfReferences 389 = .ok (.aaload, 1) := by decide +kernel
theorem dX12_dueOfReferences_390 : decode cX12_dueOfReferences 390 = .ok (.aastore, 1) := by decide +kernel
theorem dX12_dueOfReferences_391 : decode cX12_dueOfReferences 391 = .ok (.iinc 7 1, 3) := by decide +kernel
theorem dX12_dueOfReferences_394 : decode cX12_dueOfReferences 394 = .ok (.goto (-28), 3) := by decide +kernel
theorem dX12_dueOfReferences_397 : decode cX12_dueOfReferences 397 = .ok (.aload_n 0, 1) := by decide +kernel
theorem dX12_dueOfReferences_398 : decode cX12_dueOfReferences 398 = .ok (.iload_n 2, 1) := by decide +kernel
theorem dX12_dueOfReferences_399 : decode cX12_dueOfReferences 399 = .ok (.aload 6, 2) := by decide +kernel
theorem dX12_dueOfReferences_401 : decode cX12_dueOfReferences 401 = .ok (.invokevirtual 222, 3) := by decide +kernel
theorem dX12_dueOfReferences_404 : decode cX12_dueOfReferences 404 = .ok (.ireturn, 1) := by decide +kernel
theorem dX12_dueOfReferences_405 : decode cX12_dueOfReferences 405 = .ok (.aload_n 0, 1) := by decide +kernel
theorem dX12_dueOfReferences_406 : decode cX12_dueOfReferences 406 = .ok (.iload_n 1, 1) := by decide +kernel
theorem dX12_dueOfReferences_407 : decode cX12_dueOfReferences 407 = .ok (.iload_n 2, 1) := by decide +kernel
theorem dX12_dueOfReferences_408 : decode cX12_dueOfReferences 408 = .ok (.iload_n 3, 1) := by decide +kernel
theorem dX12_dueOfReferences_409 : decode cX12_dueOfReferences 409 = .ok (.iload 4, 2) := by decide +kernel
theorem dX12_dueOfReferences_411 : decode cX12_dueOfReferences 411 = .ok (.invokevirtual 254, 3) := by decide +kernel
theorem dX12_dueOfReferences_414 : decode cX12_dueOfReferences 414 = .ok (.ireturn, 1) := by decide +kernel
theorem dX12_dueOfTable_0 : decode cX12_dueOfTable 0 = .ok (.aload_n 0, 1) := by decide +kernel
theorem dX12_dueOfTable_1 : decode cX12_dueOfTable 1 = .ok (.iload_n 1, 1) := by decide +kernel
theorem dX12_dueOfTable_2 : decode cX12_dueOfTable 2 = .ok (.bipush 26, 2) := by decide +kernel
theorem dX12_dueOfTable_4 : decode cX12_dueOfTable 4 = .ok (.if_icmp .ne 7, 3) := by decide +kernel
theorem dX12_dueOfTable_7 : decode cX12_dueOfTable 7 = .ok (.iload_n 3, 1) := by decide +kernel
theorem dX12_dueOfTable_8 : decode cX12_dueOfTable 8 = .ok (.goto 4, 3) := by decide +kernel
theorem dX12_dueOfTable_11 : decode cX12_dueOfTable 11 = .ok (.iload_n 2, 1) := by decide +kernel
theorem dX12_dueOfTable_12 : decode cX12_dueOfTable 12 = .ok (.invokevirtual 48, 3) := by decide +kernel
theorem dX12_dueOfTable_15 : decode cX12_dueOfTable 15 = .ok (.astore 5, 2) := by decide +kernel
theorem dX12_dueOfTable_17 : decode cX12_dueOfTable 17 = .ok (.aload_n 0, 1) := by decide +kernel
theorem dX12_dueOfTable_18 : decode cX12_dueOfTable 18 = .ok (.iload_n 1, 1) := by decide +kernel
theorem dX12_dueOfTable_19 : decode cX12_dueOfTable 19 = .ok (.bipush 26, 2) := by decide +kernel
theorem dX12_dueOfTable_21 : decode cX12_dueOfTable 21 = .ok (.if_icmp .ne 8, 3) := by decide +kernel
theorem dX12_dueOfTable_24 : decode cX12_dueOfTable 24 = .ok (.iload 4, 2) := by decide +kernel
theorem dX12_dueOfTable_26 : decode cX12_dueOfTable 26 = .ok (.goto 4, 3) := by decide +kernel
theorem dX12_dueOfTable_29 : decode cX12_dueOfTable 29 = .ok (.iload_n 3, 1) := by decide +kernel
theorem dX12_dueOfTable_30 : decode cX12_dueOfTable 30 = .ok (.invokevirtual 48, 3) := by decide +kernel
theorem dX12_dueOfTable_33 : decode cX12_dueOfTable 33 = .ok (.astore 6, 2) := by decide +kernel
theorem dX12_dueOfTable_35 : decode cX12_dueOfTable 35 = .ok (.aload 5, 2) := by decide +kernel
theorem dX12_dueOfTable_37 : decode cX12_dueOfTable 37 = .ok (.ifnull 18, 3) := by decide +kernel
theorem dX12_dueOfTable_40 : decode cX12_dueOfTable 40 = .ok (.aload 5, 2) := by decide +kernel
theorem dX12_dueOfTable_42 : decode cX12_dueOfTable 42 = .ok (.getfield 52, 3) := by decide +kernel
theorem dX12_dueOfTable_45 : decode cX12_dueOfTable 45 = .ok (.bipush 6, 2) := by decide +kernel
theorem dX12_dueOfTable_47 : decode cX12_dueOfTable 47 = .ok (.if_icmp .ne 8, 3) := by decide +kernel
theorem dX12_dueOfTable_50 : decode cX12_dueOfTable 50 = .ok (.aload 6, 2) := by decide +kernel
theorem dX12_dueOfTable_52 : decode cX12_dueOfTable 52 = .ok (.ifnonnull 7, 3) := by decide +kernel
theorem dX12_dueOfTable_55 : decode cX12_dueOfTable 55 = .ok (.sipush (-1012), 3) := by decide +kernel
theorem dX12_dueOfTable_58 : decode cX12_dueOfTable 58 = .ok (.ireturn, 1) := by decide +kernel
theorem dX12_dueOfTable_59 : decode cX12_dueOfTable 59 = .ok (.aload 5, 2) := by decide +kernel
theorem dX12_dueOfTable_61 : decode cX12_dueOfTable 61 = .ok (.aload 6, 2) := by decide +kernel
theorem dX12_dueOfTable_63 : decode cX12_dueOfTable 63 = .ok (.invokevirtual 257, 3) := by decide +kernel
theorem dX12_dueOfTable_66 : decode cX12_dueOfTable 66 = .ok (.istore 7, 2) := by decide +kernel
theorem dX12_dueOfTable_68 : decode cX12_dueOfTable 68 = .ok (.iload_n 1, 1) := by decide +kernel
theorem dX12_dueOfTable_69 : decode cX12_dueOfTable 69 = .ok (.bipush 26, 2) := by decide +kernel
theorem dX12_dueOfTable_71 : decode cX12_dueOfTable 71 = .ok (.if_icmp .ne 26, 3) := by decide +kernel
theorem dX12_dueOfTable_74 : decode cX12_dueOfTable 74 = .ok (.aload_n 0, 1) := by decide +kernel
theorem dX12_dueOfTable_75 : decode cX12_dueOfTable 75 = .ok (.iload_n 2, 1) := by decide +kernel
theorem dX12_dueOfTable_76 : decode cX12_dueOfTable 76 = .ok (.iload 7, 2) := by decide +kernel
theorem dX12_dueOfTable_78 : decode cX12_dueOfTable 78 = .ok (.ifCond .ge 7, 3) := by decide +kernel
theorem dX12_dueOfTable_81 : decode cX12_dueOfTable 81 = .ok (.aconst_null, 1) := by decide +kernel
theorem dX12_dueOfTable_82 : decode cX12_dueOfTable 82 = .ok (.goto 11, 3) := by decide +kernel
theorem dX12_dueOfTable_85 : decode cX12_dueOfTable 85 = .ok (.aload 5, 2) := by decide +kernel
theorem dX12_dueOfTable_87 : decode cX12_dueOfTable 87 = .ok (.getfield 110, 3) := by decide +kernel
theorem dX12_dueOfTable_90 : decode cX12_dueOfTable 90 = .ok (.iload 7, 2) := by decide +kernel
theorem dX12_dueOfTable_92 : decode cX12_dueOfTable 92 = .ok (.aaload, 1) := by decide +kernel
theorem dX12_dueOfTable_93 : decode cX12_dueOfTable 93 = .ok (.invokevirtual 222, 3) := by decide +kernel
theorem dX12_dueOfTable_96 : decode cX12_dueOfTable 96 = .ok (.ireturn, 1) := by decide +kernel
theorem dX12_dueOfTable_97 : decode cX12_dueOfTable 97 = .ok (.iload 7, 2) := by decide +kernel
theorem dX12_dueOfTable_99 : decode cX12_dueOfTable 99 = .ok (.ifCond .lt 7, 3) := by decide +kernel
theorem dX12_dueOfTable_102 : decode cX12_dueOfTable 102 = .ok (.iconst 1, 1) := by decide +kernel
theorem dX12_dueOfTable_103 : decode cX12_dueOfTable 103 = .ok (.goto 4, 3) := by decide +kernel
theorem dX12_dueOfTable_106 : decode cX12_dueOfTable 106 = .ok (.iconst 0, 1) := by decide +kernel
theorem dX12_dueOfTable_107 : decode cX12_dueOfTable 107 = .ok (.istore 8, 2) := by decide +kernel
theorem dX12_dueOfTable_109 : decode cX12_dueOfTable 109 = .ok (.iload_n 1, 1) := by decide +kernel
theorem dX12_dueOfTable_110 : decode cX12_dueOfTable 110 = .ok (.bipush 25, 2) := by decide +kernel
theorem dX12_dueOfTable_112 : decode cX12_dueOfTable 112 = .ok (.if_icmp .ne 16, 3) := by decide +kernel
theorem dX12_dueOfTable_115 : decode cX12_dueOfTable 115 = .ok (.iload 7, 2) := by decide +kernel
theorem dX12_dueOfTable_117 : decode cX12_dueOfTable 117 = .ok (.ifCond .ge 11, 3) := by decide +kernel
theorem dX12_dueOfTable_120 : decode cX12_dueOfTable 120 = .ok (.aload 5, 2) := by decide +kernel
theorem dX12_dueOfTable_122 : decode cX12_dueOfTable 122 = .ok (.aconst_null, 1) := by decide +kernel
theorem dX12_dueOfTable_123 : decode cX12_dueOfTable 123 = .ok (.invokevirtual 257, 3) := by decide +kernel
theorem dX12_dueOfTable_126 : decode cX12_dueOfTable 126 = .ok (.istore 7, 2) := by decide +kernel
theorem dX12_dueOfTable_128 : decode cX12_dueOfTable 128 = .ok (.iload 7, 2) := by decide +kernel
theorem dX12_dueOfTable_130 : decode cX12_dueOfTable 130 = .ok (.ifCond .ge 5, 3) := by decide +kernel
theorem dX12_dueOfTable_133 : decode cX12_dueOfTable 133 = .ok (.iconst 0, 1) := by decide +kernel
theorem dX12_dueOfTable_134 : decode cX12_dueOfTable 134 = .ok (.ireturn, 1) := by decide +kernel
theorem dX12_dueOfTable_135 : decode cX12_dueOfTable 135 = .ok (.aload 5, 2) := by decide +kernel
theorem dX12_dueOfTable_137 : decode cX12_dueOfTable 137 = .ok (.getfield 104, 3) := by decide +kernel
theorem dX12_dueOfTable_140 : decode cX12_dueOfTable 140 = .ok (.iload 7, 2) := by decide +kernel
theorem dX12_dueOfTable_142 : decode cX12_dueOfTable 142 = .ok (.iload_n 1, 1) := by decide +kernel
theorem dX12_dueOfTable_143 : decode cX12_dueOfTable 143 = .ok (.bipush 25, 2) := by decide +kernel
theorem dX12_dueOfTable_145 : decode cX12_dueOfTable 145 = .ok (.if_icmp .ne 8, 3) := by decide +kernel
theorem dX12_dueOfTable_148 : decode cX12_dueOfTable 148 = .ok (.aload 6, 2) := by decide +kernel
theorem dX12_dueOfTable_150 : decode cX12_dueOfTable 150 = .ok (.goto 4, 3) := by decide +kernel
theorem dX12_dueOfTable_153 : decode cX12_dueOfTable 153 = .ok (.aconst_null, 1) := by decide +kernel
theorem dX12_dueOfTable_154 : decode cX12_dueOfTable 154 = .ok (.aastore, 1) := by decide +kernel
theorem dX12_dueOfTable_155 : decode cX12_dueOfTable 155 = .ok (.aload 5, 2) := by decide +kernel
theorem dX12_dueOfTable_157 : decode cX12_dueOfTable 157 = .ok (.getfield 110, 3) := by decide +kernel
theorem dX12_dueOfTable_160 : decode cX12_dueOfTable 160 = .ok (.iload 7, 2) := by decide +kernel
theorem dX12_dueOfTable_162 : decode cX12_dueOfTable 162 = .ok (.iload_n 1, 1) := by decide +kernel
theorem dX12_dueOfTable_163 : decode cX12_dueOfTable 163 = .ok (.bipush 25, 2) := by decide +kernel
theorem dX12_dueOfTable_165 : decode cX12_dueOfTable 165 = .ok (.if_icmp .ne 12, 3) := by decide +kernel
theorem dX12_dueOfTable_168 : decode cX12_dueOfTable 168 = .ok (.aload_n 0, 1) := by decide +kernel
theorem dX12_dueOfTable_169 : decode cX12_dueOfTable 169 = .ok (.iload 4, 2) := by decide +kernel
theorem dX12_dueOfTable_171 : decode cX12_dueOfTable 171 = .ok (.invokevirtual 48, 3) := by decide +kernel
theorem dX12_dueOfTable_174 : decode cX12_dueOfTable 174 = .ok (.goto 4, 3) := by decide +kernel
theorem dX12_dueOfTable_177 : decode cX12_dueOfTable 177 = .ok (.aconst_null, 1) := by decide +kernel
theorem dX12_dueOfTable_178 : decode cX12_dueOfTable 178 = .ok (.aastore, 1) := by decide +kernel
theorem dX12_dueOfTable_179 : decode cX12_dueOfTable 179 = .ok (.iload_n 1, 1) := by decide +kernel
theorem dX12_dueOfTable_180 : decode cX12_dueOfTable 180 = .ok (.bipush 25, 2) := by decide +kernel
theorem dX12_dueOfTable_182 : decode cX12_dueOfTable 182 = .ok (.if_icmp .eq 8, 3) := by decide +kernel
theorem dX12_dueOfTable_185 : decode cX12_dueOfTable 185 = .ok (.iload 8, 2) := by decide +kernel
theorem dX12_dueOfTable_187 : decode cX12_dueOfTable 187 = .ok (.ifCond .eq 7, 3) := by decide +kernel
theorem dX12_dueOfTable_190 : decode cX12_dueOfTable 190 = .ok (.iconst 1, 1) := by decide +kernel
theorem dX12_dueOfTable_191 : decode cX12_dueOfTable 191 = .ok (.goto 4, 3) := by decide +kernel
theorem dX12_dueOfTable_194 : decode cX12_dueOfTable 194 = .ok (.iconst 0, 1) := by decide +kernel
theorem dX12_dueOfTable_195 : decode cX12_dueOfTable 195 = .ok (.ireturn, 1) := by decide +kernel
theorem dX12_only_0 : decode cX12_only 0 = .ok (.iconst 0, 1) := by decide +kernel
theorem dX12_only_1 : decode cX12_only 1 = .ok (.istore 4, 2) := by decide +kernel
theorem dX12_only_3 : decode cX12_only 3 = .ok (.iload 4, 2) := by decide +kernel
theorem dX12_only_5 : decode cX12_only 5 = .ok (.aload_n 0, 1) := by decide +kernel
theorem dX12_only_6 : decode cX12_only 6 = .ok (.getfield 58, 3) := by decide +kernel
theorem dX12_only_9 : decode cX12_only 9 = .ok (.if_icmp .ge 46, 3) := by decide +kernel
theorem dX12_only_12 : decode cX12_only 12 = .ok (.aload_n 0, 1) := by decide +kernel
theorem dX12_only_13 : decode cX12_only 13 = .ok (.getfield 9, 3) := by decide +kernel
theorem dX12_only_16 : decode cX12_only 16 = .ok (.iload 4, 2) := by decide +kernel
theorem dX12_only_18 : decode cX12_only 18 = .ok (.aaload, 1) := by decide +kernel
theorem dX12_only_19 : decode cX12_only 19 = .ok (.getfield 245, 3) := by decide +kernel
theorem dX12_only_22 : decode cX12_only 22 = .ok (.ifCond .eq 27, 3) := by decide +kernel
theorem dX12_only_25 : decode cX12_only 25 = .ok (.aload_n 0, 1) := by decide +kernel
theorem dX12_only_26 : decode cX12_only 26 = .ok (.getfield 9, 3) := by decide +kernel
theorem dX12_only_29 : decode cX12_only 29 = .ok (.iload 4, 2) := by decide +kernel
theorem dX12_only_31 : decode cX12_only 31 = .ok (.aaload, 1) := by decide +kernel
theorem dX12_only_32 : decode cX12_only 32 = .ok (.aload_n 1, 1) := by decide +kernel
theorem dX12_only_33 : decode cX12_only 33 = .ok (.iload_n 2, 1) := by decide +kernel
theorem dX12_only_34 : decode cX12_only 34 = .ok (.iload_n 3, 1) := by decide +kernel
theorem dX12_only_35 : decode cX12_only 35 = .ok (.invokevirtual 260, 3) := by decide +kernel
theorem dX12_only_38 : decode cX12_only 38 = .ok (.ifCond .eq 11, 3) := by decide +kernel
theorem dX12_only_41 : decode cX12_only 41 = .ok (.aload_n 0, 1) := by decide +kernel
theorem dX12_only_42 : decode cX12_only 42 = .ok (.getfield 9, 3) := by decide +kernel
theorem dX12_only_45 : decode cX12_only 45 = .ok (.iload 4, 2) := by decide +kernel
theorem dX12_only_47 : decode cX12_only 47 = .ok (.aaload, 1) := by decide +kernel
theorem dX12_only_48 : decode cX12_only 48 = .ok (.areturn, 1) := by decide +kernel
theorem dX12_only_49 : decode cX12_only 49 = .ok (.iinc 4 1, 3) := by decide +kernel
theorem dX12_only_52 : decode cX12_only 52 = .ok (.goto (-49), 3) := by decide +kernel
theorem dX12_only_55 : decode cX12_only 55 = .ok (.aconst_null, 1) := by decide +kernel
theorem dX12_only_56 : decode cX12_only 56 = .ok (.areturn, 1) := by decide +kernel
theorem dX12_dueOfNets_0 : decode cX12_dueOfNets 0 = .ok (.aload_n 0, 1) := by decide +kernel
theorem dX12_dueOfNets_1 : decode cX12_dueOfNets 1 = .ok (.iload_n 2, 1) := by decide +kernel
theorem dX12_dueOfNets_2 : decode cX12_dueOfNets 2 = .ok (.invokevirtual 219, 3) := by decide +kernel
theorem dX12_dueOfNets_5 : decode cX12_dueOfNets 5 = .ok (.ifCond .eq 23, 3) := by decide +kernel
theorem dX12_dueOfNets_8 : decode cX12_dueOfNets 8 = .ok (.iload_n 1, 1) := by decide +kernel
theorem dX12_dueOfNets_9 : decode cX12_dueOfNets 9 = .ok (.bipush 28, 2) := by decide +kernel
theorem dX12_dueOfNets_11 : decode cX12_dueOfNets 11 = .ok (.if_icmp .eq 9, 3) := by decide +kernel
theorem dX12_dueOfNets_14 : decode cX12_dueOfNets 14 = .ok (.iload_n 1, 1) := by decide +kernel
theorem dX12_dueOfNets_15 : decode cX12_dueOfNets 15 = .ok (.bipush 29, 2) := by decide +kernel
theorem dX12_dueOfNets_17 : decode cX12_dueOfNets 17 = .ok (.if_icmp .ne 30, 3) := by decide +kernel
theorem dX12_dueOfNets_20 : decode cX12_dueOfNets 20 = .ok (.aload_n 0, 1) := by decide +kernel
theorem dX12_dueOfNets_21 : decode cX12_dueOfNets 21 = .ok (.iload_n 3, 1) := by decide +kernel
theorem dX12_dueOfNets_22 : decode cX12_dueOfNets 22 = .ok (.invokevirtual 219, 3) := by decide +kernel
theorem dX12_dueOfNets_25 : decode cX12_dueOfNets 25 = .ok (.ifCond .ne 22, 3) := by decide +kernel
theorem dX12_dueOfNets_28 : decode cX12_dueOfNets 28 = .ok (.iload_n 1, 1) := by decide +kernel
theorem dX12_dueOfNets_29 : decode cX12_dueOfNets 29 = .ok (.bipush 31, 2) := by decide +kernel
theorem dX12_dueOfNets_31 : decode cX12_dueOfNets 31 = .ok (.if_icmp .ne 12, 3) := by decide +kernel
theorem dX12_dueOfNets_34 : decode cX12_dueOfNets 34 = .ok (.aload_n 0, 1) := by decide +kernel
theorem dX12_dueOfNets_35 : decode cX12_dueOfNets 35 = .ok (.iload_n 2, 1) := by decide +kernel
theorem dX12_dueOfNets_36 : decode cX12_dueOfNets 36 = .ok (.iload_n 3, 1) := by decide +kernel
theorem dX12_dueOfNets_37 : decode cX12_dueOfNets 37 = .ok (.invokevirtual 264, 3) := by decide +kernel
theorem dX12_dueOfNets_40 : decode cX12_dueOfNets 40 = .ok (.goto 6, 3) := by decide +kernel
theorem dX12_dueOfNets_43 : decode cX12_dueOfNets 43 = .ok (.sipush (-1011), 3) := by decide +kernel
theorem dX12_dueOfNets_46 : decode cX12_dueOfNets 46 = .ok (.ireturn, 1) := by decide +kernel
theorem dX12_dueOfNets_47 : decode cX12_dueOfNets 47 = .ok (.iload_n 1, 1) := by decide +kernel
theorem dX12_dueOfNets_48 : decode cX12_dueOfNets 48 = .ok (.tableswitch 202 28 31 #[32, 108, 142, 195], 32) := by decide +kernel
theorem dX12_dueOfNets_80 : decode cX12_dueOfNets 80 = .ok (.aload_n 0, 1) := by decide +kernel
theorem dX12_dueOfNets_81 : decode cX12_dueOfNets 81 = .ok (.iload_n 3, 1) := by decide +kernel
theorem dX12_dueOfNets_82 : decode cX12_dueOfNets 82 = .ok (.invokevirtual 248, 3) := by decide +kernel
theorem dX12_dueOfNets_85 : decode cX12_dueOfNets 85 = .ok (.iconst 2, 1) := by decide +kernel
theorem dX12_dueOfNets_86 : decode cX12_dueOfNets 86 = .ok (.if_icmp .eq 7, 3) := by decide +kernel
theorem dX12_dueOfNets_89 : decode cX12_dueOfNets 89 = .ok (.sipush (-1012), 3) := by decide +kernel
theorem dX12_dueOfNets_92 : decode cX12_dueOfNets 92 = .ok (.ireturn, 1) := by decide +kernel
theorem dX12_dueOfNets_93 : decode cX12_dueOfNets 93 = .ok (.aload_n 0, 1) := by decide +kernel
theorem dX12_dueOfNets_94 : decode cX12_dueOfNets 94 = .ok (.aload_n 0, 1) := by decide +kernel
theorem dX12_dueOfNets_95 : decode cX12_dueOfNets 95 = .ok (.iload_n 3, 1) := by decide +kernel
theorem dX12_dueOfNets_96 : decode cX12_dueOfNets 96 = .ok (.invokevirtual 48, 3) := by decide +kernel
theorem dX12_dueOfNets_99 : decode cX12_dueOfNets 99 = .ok (.getfield 242, 3) := by decide +kernel
theorem dX12_dueOfNets_102 : decode cX12_dueOfNets 102 = .ok (.iconst 0, 1) := by decide +kernel
theorem dX12_dueOfNets_103 : decode cX12_dueOfNets 103 = .ok (.aload_n 0, 1) := by decide +kernel
theorem dX12_dueOfNets_104 : decode cX12_dueOfNets 104 = .ok (.iload_n 3, 1) := by decide +kernel
theorem dX12_dueOfNets_105 : decode cX12_dueOfNets 105 = .ok (.invokevirtual 48, 3) := by decide +kernel
theorem dX12_dueOfNets_108 : decode cX12_dueOfNets 108 = .ok (.getfield 242, 3) := by decide +kernel
theorem dX12_dueOfNets_111 : decode cX12_dueOfNets 111 = .ok (.arraylength, 1) := by decide +kernel
theorem dX12_dueOfNets_112 : decode cX12_dueOfNets 112 = .ok (.invokevirtual 267, 3) := by decide +kernel
theorem dX12_dueOfNets_115 : decode cX12_dueOfNets 115 = .ok (.astore 4, 2) := by decide +kernel
theorem dX12_dueOfNets_117 : decode cX12_dueOfNets 117 = .ok (.aload 4, 2) := by decide +kernel
theorem dX12_dueOfNets_119 : decode cX12_dueOfNets 119 = .ok (.ifnonnull 12, 3) := by decide +kernel
theorem dX12_dueOfNets_122 : decode cX12_dueOfNets 122 = .ok (.aload_n 0, 1) := by decide +kernel
theorem dX12_dueOfNets_123 : decode cX12_dueOfNets 123 = .ok (.iload_n 3, 1) := by decide +kernel
theorem dX12_dueOfNets_124 : decode cX12_dueOfNets 124 = .ok (.invokevirtual 48, 3) := by decide +kernel
theorem dX12_dueOfNets_127 : decode cX12_dueOfNets 127 = .ok (.iconst 1, 1) := by decide +kernel
theorem dX12_dueOfNets_128 : decode cX12_dueOfNets 128 = .ok (.putfield 245, 3) := by decide +kernel
theorem dX12_dueOfNets_131 : decode cX12_dueOfNets 131 = .ok (.aload_n 0, 1) := by decide +kernel
theorem dX12_dueOfNets_132 : decode cX12_dueOfNets 132 = .ok (.iload_n 2, 1) := by decide +kernel
theorem dX12_dueOfNets_133 : decode cX12_dueOfNets 133 = .ok (.aload 4, 2) := by decide +kernel
theorem dX12_dueOfNets_135 : decode cX12_dueOfNets 135 = .ok (.ifnonnull 11, 3) := by decide +kernel
theorem dX12_dueOfNets_138 : decode cX12_dueOfNets 138 = .ok (.aload_n 0, 1) := by decide +kernel
theorem dX12_dueOfNets_139 : decode cX12_dueOfNets 139 = .ok (.iload_n 3, 1) := by decide +kernel
theorem dX12_dueOfNets_140 : decode cX12_dueOfNets 140 = .ok (.invokevirtual 48, 3) := by decide +kernel
theorem dX12_dueOfNets_143 : decode cX12_dueOfNets 143 = .ok (.goto 9, 3) := by decide +kernel
theorem dX12_dueOfNets_146 : decode cX12_dueOfNets 146 = .ok (.aload_n 0, 1) := by decide +kernel
theorem dX12_dueOfNets_147 : decode cX12_dueOfNets 147 = .ok (.aload 4, 2) := by decide +kernel
theorem dX12_dueOfNets_149 : decode cX12_dueOfNets 149 = .ok (.invokevirtual 250, 3) := by decide +kernel
theorem dX12_dueOfNets_152 : decode cX12_dueOfNets 152 = .ok (.invokevirtual 222, 3) := by decide +kernel
theorem dX12_dueOfNets_155 : decode cX12_dueOfNets 155 = .ok (.ireturn, 1) := by decide +kernel
theorem dX12_dueOfNets_156 : decode cX12_dueOfNets 156 = .ok (.aload_n 0, 1) := by decide +kernel
theorem dX12_dueOfNets_157 : decode cX12_dueOfNets 157 = .ok (.iload_n 3, 1) := by decide +kernel
theorem dX12_dueOfNets_158 : decode cX12_dueOfNets 158 = .ok (.invokevirtual 248, 3) := by decide +kernel
theorem dX12_dueOfNets_161 : decode cX12_dueOfNets 161 = .ok (.ifCond .lt 12, 3) := by decide +kernel
theorem dX12_dueOfNets_164 : decode cX12_dueOfNets 164 = .ok (.aload_n 0, 1) := by decide +kernel
theorem dX12_dueOfNets_165 : decode cX12_dueOfNets 165 = .ok (.iload_n 3, 1) := by decide +kernel
theorem dX12_dueOfNets_166 : decode cX12_dueOfNets 166 = .ok (.invokevirtual 248, 3) := by decide +kernel
theorem dX12_dueOfNets_169 : decode cX12_dueOfNets 169 = .ok (.iconst 2, 1) := by decide +kernel
theorem dX12_dueOfNets_170 : decode cX12_dueOfNets 170 = .ok (.if_icmp .le 9, 3) := by decide +kernel
theorem dX12_dueOfNets_173 : decode cX12_dueOfNets 173 = .ok (.sipush (-1012), 3) := by decide +kernel
theorem dX12_dueOfNets_176 : decode cX12_dueOfNets 176 = .ok (.goto 13, 3) := by decide +kernel
theorem dX12_dueOfNets_179 : decode cX12_dueOfNets 179 = .ok (.aload_n 0, 1) := by decide +kernel
theorem dX12_dueOfNets_180 : decode cX12_dueOfNets 180 = .ok (.iload_n 2, 1) := by decide +kernel
theorem dX12_dueOfNets_181 : decode cX12_dueOfNets 181 = .ok (.aload_n 0, 1) := by decide +kernel
theorem dX12_dueOfNets_182 : decode cX12_dueOfNets 182 = .ok (.iload_n 3, 1) := by decide +kernel
theorem dX12_dueOfNets_183 : decode cX12_dueOfNets 183 = .ok (.invokevirtual 48, 3) := by decide +kernel
theorem dX12_dueOfNets_186 : decode cX12_dueOfNets 186 = .ok (.invokevirtual 271, 3) := by decide +kernel
theorem dX12_dueOfNets_189 : decode cX12_dueOfNets 189 = .ok (.ireturn, 1) := by decide +kernel
theorem dX12_dueOfNets_190 : decode cX12_dueOfNets 190 = .ok (.aload_n 0, 1) := by decide +kernel
theorem dX12_dueOfNets_191 : decode cX12_dueOfNets 191 = .ok (.iload_n 2, 1) := by decide +kernel
theorem dX12_dueOfNets_192 : decode cX12_dueOfNets 192 = .ok (.invokevirtual 248, 3) := by decide +kernel
theorem dX12_dueOfNets_195 : decode cX12_dueOfNets 195 = .ok (.ifCond .lt 12, 3) := by decide +kernel
theorem dX12_dueOfNets_198 : decode cX12_dueOfNets 198 = .ok (.aload_n 0, 1) := by decide +kernel
theorem dX12_dueOfNets_199 : decode cX12_dueOfNets 199 = .ok (.iload_n 2, 1) := by decide +kernel
theorem dX12_dueOfNets_200 : decode cX12_dueOfNets 200 = .ok (.invokevirtual 248, 3) := by decide +kernel
theorem dX12_dueOfNets_203 : decode cX12_dueOfNets 203 = .ok (.iconst 2, 1) := by decide +kernel
theorem dX12_dueOfNets_204 : decode cX12_dueOfNets 204 = .ok (.if_icmp .le 7, 3) := by decide +kernel
theorem dX12_dueOfNets_207 : decode cX12_dueOfNets 207 = .ok (.sipush (-1012), 3) := by decide +kernel
theorem dX12_dueOfNets_210 : decode cX12_dueOfNets 210 = .ok (.ireturn, 1) := by decide +kernel
theorem dX12_dueOfNets_211 : decode cX12_dueOfNets 211 = .ok (.aload_n 0, 1) := by decide +kernel
theorem dX12_dueOfNets_212 : decode cX12_dueOfNets 212 = .ok (.aload_n 0, 1) := by decide +kernel
theorem dX12_dueOfNets_213 : decode cX12_dueOfNets 213 = .ok (.iload_n 2, 1) := by decide +kernel
theorem dX12_dueOfNets_214 : decode cX12_dueOfNets 214 = .ok (.invokevirtual 48, 3) := by decide +kernel
theorem dX12_dueOfNets_217 : decode cX12_dueOfNets 217 = .ok (.invokevirtual 274, 3) := by decide +kernel
theorem dX12_dueOfNets_220 : decode cX12_dueOfNets 220 = .ok (.astore 4, 2) := by decide +kernel
theorem dX12_dueOfNets_222 : decode cX12_dueOfNets 222 = .ok (.aload 4, 2) := by decide +kernel
theorem dX12_dueOfNets_224 : decode cX12_dueOfNets 224 = .ok (.arraylength, 1) := by decide +kernel
theorem dX12_dueOfNets_225 : decode cX12_dueOfNets 225 = .ok (.sipush 400, 3) := by decide +kernel
theorem dX12_dueOfNets_228 : decode cX12_dueOfNets 228 = .ok (.if_icmp .le 5, 3) := by decide +kernel
theorem dX12_dueOfNets_231 : decode cX12_dueOfNets 231 = .ok (.iconst (-1), 1) := by decide +kernel
theorem dX12_dueOfNets_232 : decode cX12_dueOfNets 232 = .ok (.ireturn, 1) := by decide +kernel
theorem dX12_dueOfNets_233 : decode cX12_dueOfNets 233 = .ok (.aload_n 0, 1) := by decide +kernel
theorem dX12_dueOfNets_234 : decode cX12_dueOfNets 234 = .ok (.aload 4, 2) := by decide +kernel
theorem dX12_dueOfNets_236 : decode cX12_dueOfNets 236 = .ok (.putfield 39, 3) := by decide +kernel
theorem dX12_dueOfNets_239 : decode cX12_dueOfNets 239 = .ok (.aload 4, 2) := by decide +kernel
theorem dX12_dueOfNets_241 : decode cX12_dueOfNets 241 = .ok (.arraylength, 1) := by decide +kernel
theorem dX12_dueOfNets_242 : decode cX12_dueOfNets 242 = .ok (.ireturn, 1) := by decide +kernel
theorem dX12_dueOfNets_243 : decode cX12_dueOfNets 243 = .ok (.aload_n 0, 1) := by decide +kernel
theorem dX12_dueOfNets_244 : decode cX12_dueOfNets 244 = .ok (.iload_n 2, 1) := by decide +kernel
theorem dX12_dueOfNets_245 : decode cX12_dueOfNets 245 = .ok (.iload_n 3, 1) := by decide +kernel
theorem dX12_dueOfNets_246 : decode cX12_dueOfNets 246 = .ok (.invokevirtual 264, 3) := by decide +kernel
theorem dX12_dueOfNets_249 : decode cX12_dueOfNets 249 = .ok (.ireturn, 1) := by decide +kernel
theorem dX12_dueOfNets_250 : decode cX12_dueOfNets 250 = .ok (.aload_n 0, 1) := by decide +kernel
theorem dX12_dueOfNets_251 : decode cX12_dueOfNets 251 = .ok (.iload_n 2, 1) := by decide +kernel
theorem dX12_dueOfNets_252 : decode cX12_dueOfNets 252 = .ok (.invokevirtual 278, 3) := by decide +kernel
theorem dX12_dueOfNets_255 : decode cX12_dueOfNets 255 = .ok (.ireturn, 1) := by decide +kernel
theorem dX12_dueOfChange_0 : decode cX12_dueOfChange 0 = .ok (.iload_n 1, 1) := by decide +kernel
theorem dX12_dueOfChange_1 : decode cX12_dueOfChange 1 = .ok (.ifCond .lt 12, 3) := by decide +kernel
theorem dX12_dueOfChange_4 : decode cX12_dueOfChange 4 = .ok (.iload_n 1, 1) := by decide +kernel
theorem dX12_dueOfChange_5 : decode cX12_dueOfChange 5 = .ok (.aload_n 0, 1) := by decide +kernel
theorem dX12_dueOfChange_6 : decode cX12_dueOfChange 6 = .ok (.getfield 39, 3) := by decide +kernel
theorem dX12_dueOfChange_9 : decode cX12_dueOfChange 9 = .ok (.arraylength, 1) := by decide +kernel
theorem dX12_dueOfChange_10 : decode cX12_dueOfChange 10 = .ok (.if_icmp .lt 7, 3) := by decide +kernel
theorem dX12_dueOfChange_13 : decode cX12_dueOfChange 13 = .ok (.sipush (-1011), 3) := by decide +kernel
theorem dX12_dueOfChange_16 : decode cX12_dueOfChange 16 = .ok (.ireturn, 1) := by decide +kernel
theorem dX12_dueOfChange_17 : decode cX12_dueOfChange 17 = .ok (.aload_n 0, 1) := by decide +kernel
theorem dX12_dueOfChange_18 : decode cX12_dueOfChange 18 = .ok (.getfield 39, 3) := by decide +kernel
theorem dX12_dueOfChange_21 : decode cX12_dueOfChange 21 = .ok (.iload_n 1, 1) := by decide +kernel
theorem dX12_dueOfChange_22 : decode cX12_dueOfChange 22 = .ok (.iaload, 1) := by decide +kernel
theorem dX12_dueOfChange_23 : decode cX12_dueOfChange 23 = .ok (.istore_n 3, 1) := by decide +kernel
theorem dX12_dueOfChange_24 : decode cX12_dueOfChange 24 = .ok (.aload_n 0, 1) := by decide +kernel
theorem dX12_dueOfChange_25 : decode cX12_dueOfChange 25 = .ok (.getfield 39, 3) := by decide +kernel
theorem dX12_dueOfChange_28 : decode cX12_dueOfChange 28 = .ok (.iload_n 1, 1) := by decide +kernel
theorem dX12_dueOfChange_29 : decode cX12_dueOfChange 29 = .ok (.iload_n 2, 1) := by decide +kernel
theorem dX12_dueOfChange_30 : decode cX12_dueOfChange 30 = .ok (.iastore, 1) := by decide +kernel
theorem dX12_dueOfChange_31 : decode cX12_dueOfChange 31 = .ok (.iload_n 3, 1) := by decide +kernel
theorem dX12_dueOfChange_32 : decode cX12_dueOfChange 32 = .ok (.ireturn, 1) := by decide +kernel
theorem dX12_copied_0 : decode cX12_copied 0 = .ok (.aload_n 2, 1) := by decide +kernel
theorem dX12_copied_1 : decode cX12_copied 1 = .ok (.getfield 245, 3) := by decide +kernel
theorem dX12_copied_4 : decode cX12_copied 4 = .ok (.ifCond .eq 10, 3) := by decide +kernel
theorem dX12_copied_7 : decode cX12_copied 7 = .ok (.aload_n 0, 1) := by decide +kernel
theorem dX12_copied_8 : decode cX12_copied 8 = .ok (.iload_n 1, 1) := by decide +kernel
theorem dX12_copied_9 : decode cX12_copied 9 = .ok (.aload_n 2, 1) := by decide +kernel
theorem dX12_copied_10 : decode cX12_copied 10 = .ok (.invokevirtual 222, 3) := by decide +kernel
theorem dX12_copied_13 : decode cX12_copied 13 = .ok (.ireturn, 1) := by decide +kernel
theorem dX12_copied_14 : decode cX12_copied 14 = .ok (.aload_n 0, 1) := by decide +kernel
theorem dX12_copied_15 : decode cX12_copied 15 = .ok (.bipush 8, 2) := by decide +kernel
theorem dX12_copied_17 : decode cX12_copied 17 = .ok (.invokevirtual 113, 3) := by decide +kernel
theorem dX12_copied_20 : decode cX12_copied 20 = .ok (.aload_n 0, 1) := by decide +kernel
theorem dX12_copied_21 : decode cX12_copied 21 = .ok (.aload_n 2, 1) := by decide +kernel
theorem dX12_copied_22 : decode cX12_copied 22 = .ok (.bipush 8, 2) := by decide +kernel
theorem dX12_copied_24 : decode cX12_copied 24 = .ok (.invokevirtual 79, 3) := by decide +kernel
theorem dX12_copied_27 : decode cX12_copied 27 = .ok (.pop, 1) := by decide +kernel
theorem dX12_copied_28 : decode cX12_copied 28 = .ok (.iconst 1, 1) := by decide +kernel
theorem dX12_copied_29 : decode cX12_copied 29 = .ok (.istore_n 3, 1) := by decide +kernel
theorem dX12_copied_30 : decode cX12_copied 30 = .ok (.iload_n 3, 1) := by decide +kernel
theorem dX12_copied_31 : decode cX12_copied 31 = .ok (.ifCond .eq 114, 3) := by decide +kernel
theorem dX12_copied_34 : decode cX12_copied 34 = .ok (.iconst 0, 1) := by decide +kernel
theorem dX12_copied_35 : decode cX12_copied 35 = .ok (.istore_n 3, 1) := by decide +kernel
theorem dX12_copied_36 : decode cX12_copied 36 = .ok (.iconst 0, 1) := by decide +kernel
theorem dX12_copied_37 : decode cX12_copied 37 = .ok (.istore 4, 2) := by decide +kernel
theorem dX12_copied_39 : decode cX12_copied 39 = .ok (.iload 4, 2) := by decide +kernel
theorem dX12_copied_41 : decode cX12_copied 41 = .ok (.aload_n 0, 1) := by decide +kernel
theorem dX12_copied_42 : decode cX12_copied 42 = .ok (.getfield 58, 3) := by decide +kernel
theorem dX12_copied_45 : decode cX12_copied 45 = .ok (.if_icmp .ge 97, 3) := by decide +kernel
theorem dX12_copied_48 : decode cX12_copied 48 = .ok (.aload_n 0, 1) := by decide +kernel
theorem dX12_copied_49 : decode cX12_copied 49 = .ok (.getfield 9, 3) := by decide +kernel
theorem dX12_copied_52 : decode cX12_copied 52 = .ok (.iload 4, 2) := by decide +kernel
theorem dX12_copied_54 : decode cX12_copied 54 = .ok (.aaload, 1) := by decide +kernel
theorem dX12_copied_55 : decode cX12_copied 55 = .ok (.bipush 8, 2) := by decide +kernel
theorem dX12_copied_57 : decode cX12_copied 57 = .ok (.invokevirtual 72, 3) := by decide +kernel
theorem dX12_copied_60 : decode cX12_copied 60 = .ok (.ifCond .eq 76, 3) := by decide +kernel
theorem dX12_copied_63 : decode cX12_copied 63 = .ok (.aload_n 0, 1) := by decide +kernel
theorem dX12_copied_64 : decode cX12_copied 64 = .ok (.getfield 9, 3) := by decide +kernel
theorem dX12_copied_67 : decode cX12_copied 67 = .ok (.iload 4, 2) := by decide +kernel
theorem dX12_copied_69 : decode cX12_copied 69 = .ok (.aaload, 1) := by decide +kernel
theorem dX12_copied_70 : decode cX12_copied 70 = .ok (.getfield 98, 3) := by decide +kernel
theorem dX12_copied_73 : decode cX12_copied 73 = .ok (.astore 5, 2) := by decide +kernel
theorem dX12_copied_75 : decode cX12_copied 75 = .ok (.aload 5, 2) := by decide +kernel
theorem dX12_copied_77 : decode cX12_copied 77 = .ok (.arraylength, 1) := by decide +kernel
theorem dX12_copied_78 : decode cX12_copied 78 = .ok (.istore 6, 2) := by decide +kernel
theorem dX12_copied_80 : decode cX12_copied 80 = .ok (.iconst 0, 1) := by decide +kernel
theorem dX12_copied_81 : decode cX12_copied 81 = .ok (.istore 7, 2) := by decide +kernel
theorem dX12_copied_83 : decode cX12_copied 83 = .ok (.iload 7, 2) := by decide +kernel
theorem dX12_copied_85 : decode cX12_copied 85 = .ok (.iload 6, 2) := by decide +kernel
theorem dX12_copied_87 : decode cX12_copied 87 = .ok (.if_icmp .ge 49, 3) := by decide +kernel
theorem dX12_copied_90 : decode cX12_copied 90 = .ok (.aload 5, 2) := by decide +kernel
theorem dX12_copied_92 : decode cX12_copied 92 = .ok (.iload 7, 2) := by decide +kernel
theorem dX12_copied_94 : decode cX12_copied 94 = .ok (.aaload, 1) := by decide +kernel
theorem dX12_copied_95 : decode cX12_copied 95 = .ok (.astore 8, 2) := by decide +kernel
theorem dX12_copied_97 : decode cX12_copied 97 = .ok (.iload_n 3, 1) := by decide +kernel
theorem dX12_copied_98 : decode cX12_copied 98 = .ok (.aload 8, 2) := by decide +kernel
theorem dX12_copied_100 : decode cX12_copied 100 = .ok (.ifnull 27, 3) := by decide +kernel
theorem dX12_copied_103 : decode cX12_copied 103 = .ok (.aload 8, 2) := by decide +kernel
theorem dX12_copied_105 : decode cX12_copied 105 = .ok (.getfield 52, 3) := by decide +kernel
theorem dX12_copied_108 : decode cX12_copied 108 = .ok (.iconst 3, 1) := by decide +kernel
theorem dX12_copied_109 : decode cX12_copied 109 = .ok (.if_icmp .ge 18, 3) := by decide +kernel
theorem dX12_copied_112 : decode cX12_copied 112 = .ok (.aload_n 0, 1) := by decide +kernel
theorem dX12_copied_113 : decode cX12_copied 113 = .ok (.aload 8, 2) := by decide +kernel
theorem dX12_copied_115 : decode cX12_copied 115 = .ok (.bipush 8, 2) := by decide +kernel
theorem dX12_copied_117 : decode cX12_copied 117 = .ok (.invokevirtual 79, 3) := by decide +kernel
theorem dX12_copied_120 : decode cX12_copied 120 = .ok (.ifCond .eq 7, 3) := by decide +kernel
theorem dX12_copied_123 : decode cX12_copied 123 = .ok (.iconst 1, 1) := by decide +kernel
theorem dX12_copied_124 : decode cX12_copied 124 = .ok (.goto 4, 3) := by decide +kernel
theorem dX12_copied_127 : decode cX12_copied 127 = .ok (.iconst 0, 1) := by decide +kernel
theorem dX12_copied_128 : decode cX12_copied 128 = .ok (.ior, 1) := by decide +kernel
theorem dX12_copied_129 : decode cX12_copied 129 = .ok (.istore_n 3, 1) := by decide +kernel
theorem dX12_copied_130 : decode cX12_copied 130 = .ok (.iinc 7 1, 3) := by decide +kernel
theorem dX12_copied_133 : decode cX12_copied 133 = .ok (.goto (-50), 3) := by decide +kernel
theorem dX12_copied_136 : decode cX12_copied 136 = .ok (.iinc 4 1, 3) := by decide +kernel
theorem dX12_copied_139 : decode cX12_copied 139 = .ok (.goto (-100), 3) := by decide +kernel
theorem dX12_copied_142 : decode cX12_copied 142 = .ok (.goto (-112), 3) := by decide +kernel
theorem dX12_copied_145 : decode cX12_copied 145 = .ok (.iconst 0, 1) := by decide +kernel
theorem dX12_copied_146 : decode cX12_copied 146 = .ok (.istore 4, 2) := by decide +kernel
theorem dX12_copied_148 : decode cX12_copied 148 = .ok (.iconst 0, 1) := by decide +kernel
theorem dX12_copied_149 : decode cX12_copied 149 = .ok (.istore 5, 2) := by decide +kernel
theorem dX12_copied_151 : decode cX12_copied 151 = .ok (.iload 5, 2) := by decide +kernel
theorem dX12_copied_153 : decode cX12_copied 153 = .ok (.aload_n 0, 1) := by decide +kernel
theorem dX12_copied_154 : decode cX12_copied 154 = .ok (.getfield 58, 3) := by decide +kernel
theorem dX12_copied_157 : decode cX12_copied 157 = .ok (.if_icmp .ge 56, 3) := by decide +kernel
theorem dX12_copied_160 : decode cX12_copied 160 = .ok (.iload 4, 2) := by decide +kernel
theorem dX12_copied_162 : decode cX12_copied 162 = .ok (.aload_n 0, 1) := by decide +kernel
theorem dX12_copied_163 : decode cX12_copied 163 = .ok (.getfield 9, 3) := by decide +kernel
theorem dX12_copied_166 : decode cX12_copied 166 = .ok (.iload 5, 2) := by decide +kernel
theorem dX12_copied_168 : decode cX12_copied 168 = .ok (.aaload, 1) := by decide +kernel
theorem dX12_copied_169 : decode cX12_copied 169 = .ok (.bipush 8, 2) := by decide +kernel
theorem dX12_copied_171 : decode cX12_copied 171 = .ok (.invokevirtual 72, 3) := by decide +kernel
theorem dX12_copied_174 : decode cX12_copied 174 = .ok (.ifCond .eq 29, 3) := by decide +kernel
theorem dX12_copied_177 : decode cX12_copied 177 = .ok (.aload_n 0, 1) := by decide +kernel
theorem dX12_copied_178 : decode cX12_copied 178 = .ok (.getfield 9, 3) := by decide +kernel
theorem dX12_copied_181 : decode cX12_copied 181 = .ok (.iload 5, 2) := by decide +kernel
theorem dX12_copied_183 : decode cX12_copied 183 = .ok (.aaload, 1) := by decide +kernel
theorem dX12_copied_184 : decode cX12_copied 184 = .ok (.getfield 245, 3) := by decide +kernel
theorem dX12_copied_187 : decode cX12_copied 187 = .ok (.ifCond .ne 16, 3) := by decide +kernel
theorem dX12_copied_190 : decode cX12_copied 190 = .ok (.aload_n 0, 1) := by decide +kernel
theorem dX12_copied_191 : decode cX12_copied 191 = .ok (.getfield 9, 3) := by decide +kernel
theorem dX12_copied_194 : decode cX12_copied 194 = .ok (.iload 5, 2) := by decide +kernel
theorem dX12_copied_196 : decode cX12_copied 196 = .ok (.aaload, 1) := by decide +kernel
theorem dX12_copied_197 : decode cX12_copied 197 = .ok (.getfield 65, 3) := by decide +kernel
theorem dX12_copied_200 : decode cX12_copied 200 = .ok (.goto 4, 3) := by decide +kernel
theorem dX12_copied_203 : decode cX12_copied 203 = .ok (.iconst 0, 1) := by decide +kernel
theorem dX12_copied_204 : decode cX12_copied 204 = .ok (.iadd, 1) := by decide +kernel
theorem dX12_copied_205 : decode cX12_copied 205 = .ok (.istore 4, 2) := by decide +kernel
theorem dX12_copied_207 : decode cX12_copied 207 = .ok (.iinc 5 1, 3) := by decide +kernel
theorem dX12_copied_210 : decode cX12_copied 210 = .ok (.goto (-59), 3) := by decide +kernel
theorem dX12_copied_213 : decode cX12_copied 213 = .ok (.aload_n 0, 1) := by decide +kernel
theorem dX12_copied_214 : decode cX12_copied 214 = .ok (.iload 4, 2) := by decide +kernel
theorem dX12_copied_216 : decode cX12_copied 216 = .ok (.invokevirtual 229, 3) := by decide +kernel
theorem dX12_copied_219 : decode cX12_copied 219 = .ok (.ifCond .ne 5, 3) := by decide +kernel
theorem dX12_copied_222 : decode cX12_copied 222 = .ok (.iconst (-1), 1) := by decide +kernel
theorem dX12_copied_223 : decode cX12_copied 223 = .ok (.ireturn, 1) := by decide +kernel
theorem dX12_copied_224 : decode cX12_copied 224 = .ok (.aload_n 0, 1) := by decide +kernel
theorem dX12_copied_225 : decode cX12_copied 225 = .ok (.getfield 58, 3) := by decide +kernel
theorem dX12_copied_228 : decode cX12_copied 228 = .ok (.istore 5, 2) := by decide +kernel
theorem dX12_copied_230 : decode cX12_copied 230 = .ok (.iconst 0, 1) := by decide +kernel
theorem dX12_copied_231 : decode cX12_copied 231 = .ok (.istore 6, 2) := by decide +kernel
theorem dX12_copied_233 : decode cX12_copied 233 = .ok (.iload 6, 2) := by decide +kernel
theorem dX12_copied_235 : decode cX12_copied 235 = .ok (.iload 5, 2) := by decide +kernel
theorem dX12_copied_237 : decode cX12_copied 237 = .ok (.if_icmp .ge 148, 3) := by decide +kernel
theorem dX12_copied_240 : decode cX12_copied 240 = .ok (.aload_n 0, 1) := by decide +kernel
theorem dX12_copied_241 : decode cX12_copied 241 = .ok (.getfield 9, 3) := by decide +kernel
theorem dX12_copied_244 : decode cX12_copied 244 = .ok (.iload 6, 2) := by decide +kernel
theorem dX12_copied_246 : decode cX12_copied 246 = .ok (.aaload, 1) := by decide +kernel
theorem dX12_copied_247 : decode cX12_copied 247 = .ok (.astore 7, 2) := by decide +kernel
theorem dX12_copied_249 : decode cX12_copied 249 = .ok (.aload 7, 2) := by decide +kernel
theorem dX12_copied_251 : decode cX12_copied 251 = .ok (.aconst_null, 1) := by decide +kernel
theorem dX12_copied_252 : decode cX12_copied 252 = .ok (.putfield 281, 3) := by decide +kernel
theorem dX12_copied_255 : decode cX12_copied 255 = .ok (.aload 7, 2) := by decide +kernel
theorem dX12_copied_257 : decode cX12_copied 257 = .ok (.bipush 8, 2) := by decide +kernel
theorem dX12_copied_259 : decode cX12_copied 259 = .ok (.invokevirtual 72, 3) := by decide +kernel
theorem dX12_copied_262 : decode cX12_copied 262 = .ok (.ifCond .eq 117, 3) := by decide +kernel
theorem dX12_copied_265 : decode cX12_copied 265 = .ok (.aload 7, 2) := by decide +kernel
theorem dX12_copied_267 : decode cX12_copied 267 = .ok (.getfield 245, 3) := by decide +kernel
theorem dX12_copied_270 : decode cX12_copied 270 = .ok (.ifCond .eq 6, 3) := by decide +kernel
theorem dX12_copied_273 : decode cX12_copied 273 = .ok (.goto 106, 3) := by decide +kernel
theorem dX12_copied_276 : decode cX12_copied 276 = .ok (.aload 7, 2) := by decide +kernel
theorem dX12_copied_278 : decode cX12_copied 278 = .ok (.aload_n 0, 1) := by decide +kernel
theorem dX12_copied_279 : decode cX12_copied 279 = .ok (.new 7, 3) := by decide +kernel
theorem dX12_copied_282 : decode cX12_copied 282 = .ok (.dup, 1) := by decide +kernel
theorem dX12_copied_283 : decode cX12_copied 283 = .ok (.aload 7, 2) := by decide +kernel
theorem dX12_copied_285 : decode cX12_copied 285 = .ok (.getfield 52, 3) := by decide +kernel
theorem dX12_copied_288 : decode cX12_copied 288 = .ok (.aload 7, 2) := by decide +kernel
theorem dX12_copied_290 : decode cX12_copied 290 = .ok (.getfield 284, 3) := by decide +kernel
theorem dX12_copied_293 : decode cX12_copied 293 = .ok (.aload 7, 2) := by decide +kernel
theorem dX12_copied_295 : decode cX12_copied 295 = .ok (.getfield 98, 3) := by decide +kernel
theorem dX12_copied_298 : decode cX12_copied 298 = .ok (.arraylength, 1) := by decide +kernel
theorem dX12_copied_299 : decode cX12_copied 299 = .ok (.aload 7, 2) := by decide +kernel
theorem dX12_copied_301 : decode cX12_copied 301 = .ok (.getfield 242, 3) := by decide +kernel
theorem dX12_copied_304 : decode cX12_copied 304 = .ok (.arraylength, 1) := by decide +kernel
theorem dX12_copied_305 : decode cX12_copied 305 = .ok (.iconst 0, 1) := by decide +kernel
theorem dX12_copied_306 : decode cX12_copied 306 = .ok (.invokespecial 226, 3) := by decide +kernel
theorem dX12_copied_309 : decode cX12_copied 309 = .ok (.iload 4, 2) := by decide +kernel
theorem dX12_copied_311 : decode cX12_copied 311 = .ok (.bipush 32, 2) := by decide +kernel
theorem dX12_copied_313 : decode cX12_copied 313 = .ok (.if_icmp .le 7, 3) := by decide +kernel
theorem dX12_copied_316 : decode cX12_copied 316 = .ok (.iconst 1, 1) := by decide +kernel
theorem dX12_copied_317 : decode cX12_copied 317 = .ok (.goto 4, 3) := by decide +kernel
theorem dX12_copied_320 : decode cX12_copied 320 = .ok (.iconst 0, 1) := by decide +kernel
theorem dX12_copied_321 : decode cX12_copied 321 = .ok (.invokevirtual 232, 3) := by decide +kernel
theorem dX12_copied_324 : decode cX12_copied 324 = .ok (.putfield 281, 3) := by decide +kernel
theorem dX12_copied_327 : decode cX12_copied 327 = .ok (.aload 7, 2) := by decide +kernel
theorem dX12_copied_329 : decode cX12_copied 329 = .ok (.getfield 281, 3) := by decide +kernel
theorem dX12_copied_332 : decode cX12_copied 332 = .ok (.aload 7, 2) := by decide +kernel
theorem dX12_copied_334 : decode cX12_copied 334 = .ok (.getfield 143, 3) := by decide +kernel
theorem dX12_copied_337 : decode cX12_copied 337 = .ok (.putfield 143, 3) := by decide +kernel
theorem dX12_copied_340 : decode cX12_copied 340 = .ok (.iconst 0, 1) := by decide +kernel
theorem dX12_copied_341 : decode cX12_copied 341 = .ok (.istore 8, 2) := by decide +kernel
theorem dX12_copied_343 : decode cX12_copied 343 = .ok (.iload 8, 2) := by decide +kernel
theorem dX12_copied_345 : decode cX12_copied 345 = .ok (.aload 7, 2) := by decide +kernel
theorem dX12_copied_347 : decode cX12_copied 347 = .ok (.getfield 242, 3) := by decide +kernel
theorem dX12_copied_350 : decode cX12_copied 350 = .ok (.arraylength, 1) := by decide +kernel
theorem dX12_copied_351 : decode cX12_copied 351 = .ok (.if_icmp .ge 28, 3) := by decide +kernel
theorem dX12_copied_354 : decode cX12_copied 354 = .ok (.aload 7, 2) := by decide +kernel
theorem dX12_copied_356 : decode cX12_copied 356 = .ok (.getfield 281, 3) := by decide +kernel
theorem dX12_copied_359 : decode cX12_copied 359 = .ok (.getfield 242, 3) := by decide +kernel
theorem dX12_copied_362 : decode cX12_copied 362 = .ok (.iload 8, 2) := by decide +kernel
theorem dX12_copied_364 : decode cX12_copied 364 = .ok (.aload 7, 2) := by decide +kernel
theorem dX12_copied_366 : decode cX12_copied 366 = .ok (.getfield 242, 3) := by decide +kernel
theorem dX12_copied_369 : decode cX12_copied 369 = .ok (.iload 8, 2) := by decide +kernel
theorem dX12_copied_371 : decode cX12_copied 371 = .ok (.iaload, 1) := by decide +kernel
theorem dX12_copied_372 : decode cX12_copied 372 = .ok (.iastore, 1) := by decide +kernel
theorem dX12_copied_373 : decode cX12_copied 373 = .ok (.iinc 8 1, 3) := by decide +kernel
theorem dX12_copied_376 : decode cX12_copied 376 = .ok (.goto (-33), 3) := by decide +kernel
theorem dX12_copied_379 : decode cX12_copied 379 = .ok (.iinc 6 1, 3) := by decide +kernel
theorem dX12_copied_382 : decode cX12_copied 382 = .ok (.goto (-149), 3) := by decide +kernel
theorem dX12_copied_385 : decode cX12_copied 385 = .ok (.iconst 0, 1) := by decide +kernel
theorem dX12_copied_386 : decode cX12_copied 386 = .ok (.istore 6, 2) := by decide +kernel
theorem dX12_copied_388 : decode cX12_copied 388 = .ok (.iload 6, 2) := by decide +kernel
theorem dX12_copied_390 : decode cX12_copied 390 = .ok (.iload 5, 2) := by decide +kernel
theorem dX12_copied_392 : decode cX12_copied 392 = .ok (.if_icmp .ge 104, 3) := by decide +kernel
theorem dX12_copied_395 : decode cX12_copied 395 = .ok (.aload_n 0, 1) := by decide +kernel
theorem dX12_copied_396 : decode cX12_copied 396 = .ok (.getfield 9, 3) := by decide +kernel
theorem dX12_copied_399 : decode cX12_copied 399 = .ok (.iload 6, 2) := by decide +kernel
theorem dX12_copied_401 : decode cX12_copied 401 = .ok (.aaload, 1) := by decide +kernel
theorem dX12_copied_402 : decode cX12_copied 402 = .ok (.astore 7, 2) := by decide +kernel
theorem dX12_copied_404 : decode cX12_copied 404 = .ok (.iconst 0, 1) := by decide +kernel
theorem dX12_copied_405 : decode cX12_copied 405 = .ok (.istore 8, 2) := by decide +kernel
theorem dX12_copied_407 : decode cX12_copied 407 = .ok (.aload 7, 2) := by decide +kernel
theorem dX12_copied_409 : decode cX12_copied 409 = .ok (.getfield 281, 3) := by decide +kernel
theorem dX12_copied_412 : decode cX12_copied 412 = .ok (.ifnull 78, 3) := by decide +kernel
theorem dX12_copied_415 : decode cX12_copied 415 = .ok (.iload 8, 2) := by decide +kernel
theorem dX12_copied_417 : decode cX12_copied 417 = .ok (.aload 7, 2) := by decide +kernel
theorem dX12_copied_419 : decode cX12_copied 419 = .ok (.getfield 98, 3) := by decide +kernel
theorem dX12_copied_422 : decode cX12_copied 422 = .ok (.arraylength, 1) := by decide +kernel
theorem dX12_copied_423 : decode cX12_copied 423 = .ok (.if_icmp .ge 67, 3) := by decide +kernel
theorem dX12_copied_426 : decode cX12_copied 426 = .ok (.aload 7, 2) := by decide +kernel
theorem dX12_copied_428 : decode cX12_copied 428 = .ok (.getfield 281, 3) := by decide +kernel
theorem dX12_copied_431 : decode cX12_copied 431 = .ok (.getfield 98, 3) := by decide +kernel
theorem dX12_copied_434 : decode cX12_copied 434 = .ok (.iload 8, 2) := by decide +kernel
theorem dX12_copied_436 : decode cX12_copied 436 = .ok (.aload 7, 2) := by decide +kernel
theorem dX12_copied_438 : decode cX12_copied 438 = .ok (.getfield 98, 3) := by decide +kernel
theorem dX12_copied_441 : decode cX12_copied 441 = .ok (.iload 8, 2) := by decide +kernel
theorem dX12_copied_443 : decode cX12_copied 443 = .ok (.aaload, 1) := by decide +kernel
theorem dX12_copied_444 : decode cX12_copied 444 = .ok (.ifnull 31, 3) := by decide +kernel
theorem dX12_copied_447 : decode cX12_copied 447 = .ok (.aload 7, 2) := by decide +kernel
theorem dX12_copied_449 : decode cX12_copied 449 = .ok (.getfield 98, 3) := by decide +kernel
theorem dX12_copied_452 : decode cX12_copied 452 = .ok (.iload 8, 2) := by decide +kernel
theorem dX12_copied_454 : decode cX12_copied 454 = .ok (.aaload, 1) := by decide +kernel
theorem dX12_copied_455 : decode cX12_copied 455 = .ok (.getfield 281, 3) := by decide +kernel
theorem dX12_copied_458 : decode cX12_copied 458 = .ok (.ifnull 17, 3) := by decide +kernel
theorem dX12_copied_461 : decode cX12_copied 461 = .ok (.aload 7, 2) := by decide +kernel
theorem dX12_copied_463 : decode cX12_copied 463 = .ok (.getfield 98, 3) := by decide +kernel
theorem dX12_copied_466 : decode cX12_copied 466 = .ok (.iload 8, 2) := by decide +kernel
theorem dX12_copied_468 : decode cX12_copied 468 = .ok (.aaload, 1) := by decide +kernel
theorem dX12_copied_469 : decode cX12_copied 469 = .ok (.getfield 281, 3) := by decide +kernel
theorem dX12_copied_472 : decode cX12_copied 472 = .ok (.goto 11, 3) := by decide +kernel
theorem dX12_copied_475 : decode cX12_copied 475 = .ok (.aload 7, 2) := by decide +kernel
theorem dX12_copied_477 : decode cX12_copied 477 = .ok (.getfield 98, 3) := by decide +kernel
theorem dX12_copied_480 : decode cX12_copied 480 = .ok (.iload 8, 2) := by decide +kernel
theorem dX12_copied_482 : decode cX12_copied 482 = .ok (.aaload, 1) := by decide +kernel
theorem dX12_copied_483 : decode cX12_copied 483 = .ok (.aastore, 1) := by decide +kernel
theorem dX12_copied_484 : decode cX12_copied 484 = .ok (.iinc 8 1, 3) := by decide +kernel
theorem dX12_copied_487 : decode cX12_copied 487 = .ok (.goto (-80), 3) := by decide +kernel
theorem dX12_copied_490 : decode cX12_copied 490 = .ok (.iinc 6 1, 3) := by decide +kernel
theorem dX12_copied_493 : decode cX12_copied 493 = .ok (.goto (-105), 3) := by decide +kernel
theorem dX12_copied_496 : decode cX12_copied 496 = .ok (.aload_n 0, 1) := by decide +kernel
theorem dX12_copied_497 : decode cX12_copied 497 = .ok (.iload_n 1, 1) := by decide +kernel
theorem dX12_copied_498 : decode cX12_copied 498 = .ok (.aload_n 2, 1) := by decide +kernel
theorem dX12_copied_499 : decode cX12_copied 499 = .ok (.getfield 281, 3) := by decide +kernel
theorem dX12_copied_502 : decode cX12_copied 502 = .ok (.invokevirtual 222, 3) := by decide +kernel
theorem dX12_copied_505 : decode cX12_copied 505 = .ok (.istore 6, 2) := by decide +kernel
theorem dX12_copied_507 : decode cX12_copied 507 = .ok (.iconst 0, 1) := by decide +kernel
theorem dX12_copied_508 : decode cX12_copied 508 = .ok (.istore 7, 2) := by decide +kernel
theorem dX12_copied_510 : decode cX12_copied 510 = .ok (.iload 7, 2) := by decide +kernel
theorem dX12_copied_512 : decode cX12_copied 512 = .ok (.iload 5, 2) := by decide +kernel
theorem dX12_copied_514 : decode cX12_copied 514 = .ok (.if_icmp .ge 20, 3) := by decide +kernel
theorem dX12_copied_517 : decode cX12_copied 517 = .ok (.aload_n 0, 1) := by decide +kernel
theorem dX12_copied_518 : decode cX12_copied 518 = .ok (.getfield 9, 3) := by decide +kernel
theorem dX12_copied_521 : decode cX12_copied 521 = .ok (.iload 7, 2) := by decide +kernel
theorem dX12_copied_523 : decode cX12_copied 523 = .ok (.aaload, 1) := by decide +kernel
theorem dX12_copied_524 : decode cX12_copied 524 = .ok (.aconst_null, 1) := by decide +kernel
theorem dX12_copied_525 : decode cX12_copied 525 = .ok (.putfield 281, 3) := by decide +kernel
theorem dX12_copied_528 : decode cX12_copied 528 = .ok (.iinc 7 1, 3) := by decide +kernel
theorem dX12_copied_531 : decode cX12_copied 531 = .ok (.goto (-21), 3) := by decide +kernel
theorem dX12_copied_534 : decode cX12_copied 534 = .ok (.iload 6, 2) := by decide +kernel
theorem dX12_copied_536 : decode cX12_copied 536 = .ok (.ireturn, 1) := by decide +kernel
theorem dX12_written_0 : decode cX12_written 0 = .ok (.aload_n 0, 1) := by decide +kernel
theorem dX12_written_1 : decode cX12_written 1 = .ok (.getfield 58, 3) := by decide +kernel
theorem dX12_written_4 : decode cX12_written 4 = .ok (.anewarray 7, 3) := by decide +kernel
theorem dX12_written_7 : decode cX12_written 7 = .ok (.astore_n 2, 1) := by decide +kernel
theorem dX12_written_8 : decode cX12_written 8 = .ok (.aload_n 2, 1) := by decide +kernel
theorem dX12_written_9 : decode cX12_written 9 = .ok (.iconst 0, 1) := by decide +kernel
theorem dX12_written_10 : decode cX12_written 10 = .ok (.aload_n 1, 1) := by decide +kernel
theorem dX12_written_11 : decode cX12_written 11 = .ok (.aastore, 1) := by decide +kernel
theorem dX12_written_12 : decode cX12_written 12 = .ok (.iconst 1, 1) := by decide +kernel
theorem dX12_written_13 : decode cX12_written 13 = .ok (.istore_n 3, 1) := by decide +kernel
theorem dX12_written_14 : decode cX12_written 14 = .ok (.iconst 1, 1) := by decide +kernel
theorem dX12_written_15 : decode cX12_written 15 = .ok (.istore 4, 2) := by decide +kernel
theorem dX12_written_17 : decode cX12_written 17 = .ok (.iconst 0, 1) := by decide +kernel
theorem dX12_written_18 : decode cX12_written 18 = .ok (.istore 5, 2) := by decide +kernel
theorem dX12_written_20 : decode cX12_written 20 = .ok (.iload 5, 2) := by decide +kernel
theorem dX12_written_22 : decode cX12_written 22 = .ok (.iload_n 3, 1) := by decide +kernel
theorem dX12_written_23 : decode cX12_written 23 = .ok (.if_icmp .ge 105, 3) := by decide +kernel
theorem dX12_written_26 : decode cX12_written 26 = .ok (.iload 4, 2) := by decide +kernel
theorem dX12_written_28 : decode cX12_written 28 = .ok (.iconst 2, 1) := by decide +kernel
theorem dX12_written_29 : decode cX12_written 29 = .ok (.aload_n 2, 1) := by decide +kernel
theorem dX12_written_30 : decode cX12_written 30 = .ok (.iload 5, 2) := by decide +kernel
theorem dX12_written_32 : decode cX12_written 32 = .ok (.aaload, 1) := by decide +kernel
theorem dX12_written_33 : decode cX12_written 33 = .ok (.getfield 98, 3) := by decide +kernel
theorem dX12_written_36 : decode cX12_written 36 = .ok (.arraylength, 1) := by decide +kernel
theorem dX12_written_37 : decode cX12_written 37 = .ok (.iadd, 1) := by decide +kernel
theorem dX12_written_38 : decode cX12_written 38 = .ok (.aload_n 2, 1) := by decide +kernel
theorem dX12_written_39 : decode cX12_written 39 = .ok (.iload 5, 2) := by decide +kernel
theorem dX12_written_41 : decode cX12_written 41 = .ok (.aaload, 1) := by decide +kernel
theorem dX12_written_42 : decode cX12_written 42 = .ok (.getfield 242, 3) := by decide +kernel
theorem dX12_written_45 : decode cX12_written 45 = .ok (.arraylength, 1) := by decide +kernel
theorem dX12_written_46 : decode cX12_written 46 = .ok (.iadd, 1) := by decide +kernel
theorem dX12_written_47 : decode cX12_written 47 = .ok (.iadd, 1) := by decide +kernel
theorem dX12_written_48 : decode cX12_written 48 = .ok (.istore 4, 2) := by decide +kernel
theorem dX12_written_50 : decode cX12_written 50 = .ok (.aload_n 2, 1) := by decide +kernel
theorem dX12_written_51 : decode cX12_written 51 = .ok (.iload 5, 2) := by decide +kernel
theorem dX12_written_53 : decode cX12_written 53 = .ok (.aaload, 1) := by decide +kernel
theorem dX12_written_54 : decode cX12_written 54 = .ok (.getfield 98, 3) := by decide +kernel
theorem dX12_written_57 : decode cX12_written 57 = .ok (.astore 6, 2) := by decide +kernel
theorem dX12_written_59 : decode cX12_written 59 = .ok (.aload 6, 2) := by decide +kernel
theorem dX12_written_61 : decode cX12_written 61 = .ok (.arraylength, 1) := by decide +kernel
theorem dX12_written_62 : decode cX12_written 62 = .ok (.istore 7, 2) := by decide +kernel
theorem dX12_written_64 : decode cX12_written 64 = .ok (.iconst 0, 1) := by decide +kernel
theorem dX12_written_65 : decode cX12_written 65 = .ok (.istore 8, 2) := by decide +kernel
theorem dX12_written_67 : decode cX12_written 67 = .ok (.iload 8, 2) := by decide +kernel
theorem dX12_written_69 : decode cX12_written 69 = .ok (.iload 7, 2) := by decide +kernel
theorem dX12_written_71 : decode cX12_written 71 = .ok (.if_icmp .ge 51, 3) := by decide +kernel
theorem dX12_written_74 : decode cX12_written 74 = .ok (.aload 6, 2) := by decide +kernel
theorem dX12_written_76 : decode cX12_written 76 = .ok (.iload 8, 2) := by decide +kernel
theorem dX12_written_78 : decode cX12_written 78 = .ok (.aaload, 1) := by decide +kernel
theorem dX12_written_79 : decode cX12_written 79 = .ok (.astore 9, 2) := by decide +kernel
theorem dX12_written_81 : decode cX12_written 81 = .ok (.aload 9, 2) := by decide +kernel
theorem dX12_written_83 : decode cX12_written 83 = .ok (.ifnull 33, 3) := by decide +kernel
theorem dX12_written_86 : decode cX12_written 86 = .ok (.aload 9, 2) := by decide +kernel
theorem dX12_written_88 : decode cX12_written 88 = .ok (.getfield 52, 3) := by decide +kernel
theorem dX12_written_91 : decode cX12_written 91 = .ok (.iconst 2, 1) := by decide +kernel
theorem dX12_written_92 : decode cX12_written 92 = .ok (.if_icmp .gt 24, 3) := by decide +kernel
theorem dX12_written_95 : decode cX12_written 95 = .ok (.aload_n 2, 1) := by decide +kernel
theorem dX12_written_96 : decode cX12_written 96 = .ok (.iload_n 3, 1) := by decide +kernel
theorem dX12_written_97 : decode cX12_written 97 = .ok (.aload 9, 2) := by decide +kernel
theorem dX12_written_99 : decode cX12_written 99 = .ok (.invokestatic 287, 3) := by decide +kernel
theorem dX12_written_102 : decode cX12_written 102 = .ok (.ifCond .le 6, 3) := by decide +kernel
theorem dX12_written_105 : decode cX12_written 105 = .ok (.goto 11, 3) := by decide +kernel
theorem dX12_written_108 : decode cX12_written 108 = .ok (.aload_n 2, 1) := by decide +kernel
theorem dX12_written_109 : decode cX12_written 109 = .ok (.iload_n 3, 1) := by decide +kernel
theorem dX12_written_110 : decode cX12_written 110 = .ok (.aload 9, 2) := by decide +kernel
theorem dX12_written_112 : decode cX12_written 112 = .ok (.aastore, 1) := by decide +kernel
theorem dX12_written_113 : decode cX12_written 113 = .ok (.iinc 3 1, 3) := by decide +kernel
theorem dX12_written_116 : decode cX12_written 116 = .ok (.iinc 8 1, 3) := by decide +kernel
theorem dX12_written_119 : decode cX12_written 119 = .ok (.goto (-52), 3) := by decide +kernel
theorem dX12_written_122 : decode cX12_written 122 = .ok (.iinc 5 1, 3) := by decide +kernel
theorem dX12_written_125 : decode cX12_written 125 = .ok (.goto (-105), 3) := by decide +kernel
theorem dX12_written_128 : decode cX12_written 128 = .ok (.iload 4, 2) := by decide +kernel
theorem dX12_written_130 : decode cX12_written 130 = .ok (.newarray .int, 2) := by decide +kernel
theorem dX12_written_132 : decode cX12_written 132 = .ok (.astore 5, 2) := by decide +kernel
theorem dX12_written_134 : decode cX12_written 134 = .ok (.aload 5, 2) := by decide +kernel
theorem dX12_written_136 : decode cX12_written 136 = .ok (.iconst 0, 1) := by decide +kernel
theorem dX12_written_137 : decode cX12_written 137 = .ok (.iload_n 3, 1) := by decide +kernel
theorem dX12_written_138 : decode cX12_written 138 = .ok (.iastore, 1) := by decide +kernel
theorem dX12_written_139 : decode cX12_written 139 = .ok (.iconst 1, 1) := by decide +kernel
theorem dX12_written_140 : decode cX12_written 140 = .ok (.istore 6, 2) := by decide +kernel
theorem dX12_written_142 : decode cX12_written 142 = .ok (.iconst 0, 1) := by decide +kernel
theorem dX12_written_143 : decode cX12_written 143 = .ok (.istore 7, 2) := by decide +kernel
theorem dX12_written_145 : decode cX12_written 145 = .ok (.iload 7, 2) := by decide +kernel
theorem dX12_written_147 : decode cX12_written 147 = .ok (.iload_n 3, 1) := by decide +kernel
theorem dX12_written_148 : decode cX12_written 148 = .ok (.if_icmp .ge 182, 3) := by decide +kernel
theorem dX12_written_151 : decode cX12_written 151 = .ok (.aload_n 2, 1) := by decide +kernel
theorem dX12_written_152 : decode cX12_written 152 = .ok (.iload 7, 2) := by decide +kernel
theorem dX12_written_154 : decode cX12_written 154 = .ok (.aaload, 1) := by decide +kernel
theorem dX12_written_155 : decode cX12_written 155 = .ok (.astore 8, 2) := by decide +kernel
theorem dX12_written_157 : decode cX12_written 157 = .ok (.aload 5, 2) := by decide +kernel
theorem dX12_written_159 : decode cX12_written 159 = .ok (.iload 6, 2) := by decide +kernel
theorem dX12_written_161 : decode cX12_written 161 = .ok (.aload 8, 2) := by decide +kernel
theorem dX12_written_163 : decode cX12_written 163 = .ok (.getfield 245, 3) := by decide +kernel
theorem dX12_written_166 : decode cX12_written 166 = .ok (.ifCond .eq 7, 3) := by decide +kernel
theorem dX12_written_169 : decode cX12_written 169 = .ok (.iconst 3, 1) := by decide +kernel
theorem dX12_written_170 : decode cX12_written 170 = .ok (.goto 8, 3) := by decide +kernel
theorem dX12_written_173 : decode cX12_written 173 = .ok (.aload 8, 2) := by decide +kernel
theorem dX12_written_175 : decode cX12_written 175 = .ok (.getfield 52, 3) := by decide +kernel
theorem dX12_written_178 : decode cX12_written 178 = .ok (.iastore, 1) := by decide +kernel
theorem dX12_written_179 : decode cX12_written 179 = .ok (.aload 5, 2) := by decide +kernel
theorem dX12_written_181 : decode cX12_written 181 = .ok (.iload 6, 2) := by decide +kernel
theorem dX12_written_183 : decode cX12_written 183 = .ok (.iconst 1, 1) := by decide +kernel
theorem dX12_written_184 : decode cX12_written 184 = .ok (.iadd, 1) := by decide +kernel
theorem dX12_written_185 : decode cX12_written 185 = .ok (.aload 8, 2) := by decide +kernel
theorem dX12_written_187 : decode cX12_written 187 = .ok (.getfield 52, 3) := by decide +kernel
theorem dX12_written_190 : decode cX12_written 190 = .ok (.ifCond .ne 11, 3) := by decide +kernel
theorem dX12_written_193 : decode cX12_written 193 = .ok (.aload 8, 2) := by decide +kernel
theorem dX12_written_195 : decode cX12_written 195 = .ok (.getfield 284, 3) := by decide +kernel
theorem dX12_written_198 : decode cX12_written 198 = .ok (.goto 27, 3) := by decide +kernel
theorem dX12_written_201 : decode cX12_written 201 = .ok (.aload 8, 2) := by decide +kernel
theorem dX12_written_203 : decode cX12_written 203 = .ok (.getfield 52, 3) := by decide +kernel
theorem dX12_written_206 : decode cX12_written 206 = .ok (.iconst 1, 1) := by decide +kernel
theorem dX12_written_207 : decode cX12_written 207 = .ok (.if_icmp .ne 12, 3) := by decide +kernel
theorem dX12_written_210 : decode cX12_written 210 = .ok (.aload 8, 2) := by decide +kernel
theorem dX12_written_212 : decode cX12_written 212 = .ok (.getfield 98, 3) := by decide +kernel
theorem dX12_written_215 : decode cX12_written 215 = .ok (.arraylength, 1) := by decide +kernel
theorem dX12_written_216 : decode cX12_written 216 = .ok (.goto 9, 3) := by decide +kernel
theorem dX12_written_219 : decode cX12_written 219 = .ok (.aload 8, 2) := by decide +kernel
theorem dX12_written_221 : decode cX12_written 221 = .ok (.getfield 242, 3) := by decide +kernel
theorem dX12_written_224 : decode cX12_written 224 = .ok (.arraylength, 1) := by decide +kernel
theorem dX12_written_225 : decode cX12_written 225 = .ok (.iastore, 1) := by decide +kernel
theorem dX12_written_226 : decode cX12_written 226 = .ok (.iinc 6 2, 3) := by decide +kernel
theorem dX12_written_229 : decode cX12_written 229 = .ok (.aload 8, 2) := by decide +kernel
theorem dX12_written_231 : decode cX12_written 231 = .ok (.getfield 98, 3) := by decide +kernel
theorem dX12_written_234 : decode cX12_written 234 = .ok (.astore 9, 2) := by decide +kernel
theorem dX12_written_236 : decode cX12_written 236 = .ok (.aload 9, 2) := by decide +kernel
theorem dX12_written_238 : decode cX12_written 238 = .ok (.arraylength, 1) := by decide +kernel
theorem dX12_written_239 : decode cX12_written 239 = .ok (.istore 10, 2) := by decide +kernel
theorem dX12_written_241 : decode cX12_written 241 = .ok (.iconst 0, 1) := by decide +kernel
theorem dX12_written_242 : decode cX12_written 242 = .ok (.istore 11, 2) := by decide +kernel
theorem dX12_written_244 : decode cX12_written 244 = .ok (.iload 11, 2) := by decide +kernel
theorem dX12_written_246 : decode cX12_written 246 = .ok (.iload 10, 2) := by decide +kernel
theorem dX12_written_248 : decode cX12_written 248 = .ok (.if_icmp .ge 31, 3) := by decide +kernel
theorem dX12_written_251 : decode cX12_written 251 = .ok (.aload 9, 2) := by decide +kernel
theorem dX12_written_253 : decode cX12_written 253 = .ok (.iload 11, 2) := by decide +kernel
theorem dX12_written_255 : decode cX12_written 255 = .ok (.aaload, 1) := by decide +kernel
theorem dX12_written_256 : decode cX12_written 256 = .ok (.astore 12, 2) := by decide +kernel
theorem dX12_written_258 : decode cX12_written 258 = .ok (.aload 5, 2) := by decide +kernel
theorem dX12_written_260 : decode cX12_written 260 = .ok (.iload 6, 2) := by decide +kernel
theorem dX12_written_262 : decode cX12_written 262 = .ok (.aload_n 2, 1) := by decide +kernel
theorem dX12_written_263 : decode cX12_written 263 = .ok (.iload_n 3, 1) := by decide +kernel
theorem dX12_written_264 : decode cX12_written 264 = .ok (.aload 12, 2) := by decide +kernel
theorem dX12_written_266 : decode cX12_written 266 = .ok (.invokestatic 287, 3) := by decide +kernel
theorem dX12_written_269 : decode cX12_written 269 = .ok (.iastore, 1) := by decide +kernel
theorem dX12_written_270 : decode cX12_written 270 = .ok (.iinc 6 1, 3) := by decide +kernel
theorem dX12_written_273 : decode cX12_written 273 = .ok (.iinc 11 1, 3) := by decide +kernel
theorem dX12_written_276 : decode cX12_written 276 = .ok (.goto (-32), 3) := by decide +kernel
theorem dX12_written_279 : decode cX12_written 279 = .ok (.aload 8, 2) := by decide +kernel
theorem dX12_written_281 : decode cX12_written 281 = .ok (.getfield 242, 3) := by decide +kernel
theorem dX12_written_284 : decode cX12_written 284 = .ok (.astore 9, 2) := by decide +kernel
theorem dX12_written_286 : decode cX12_written 286 = .ok (.aload 9, 2) := by decide +kernel
theorem dX12_written_288 : decode cX12_written 288 = .ok (.arraylength, 1) := by decide +kernel
theorem dX12_written_289 : decode cX12_written 289 = .ok (.istore 10, 2) := by decide +kernel
theorem dX12_written_291 : decode cX12_written 291 = .ok (.iconst 0, 1) := by decide +kernel
theorem dX12_written_292 : decode cX12_written 292 = .ok (.istore 11, 2) := by decide +kernel
theorem dX12_written_294 : decode cX12_written 294 = .ok (.iload 11, 2) := by decide +kernel
theorem dX12_written_296 : decode cX12_written 296 = .ok (.iload 10, 2) := by decide +kernel
theorem dX12_written_298 : decode cX12_written 298 = .ok (.if_icmp .ge 26, 3) := by decide +kernel
theorem dX12_written_301 : decode cX12_written 301 = .ok (.aload 9, 2) := by decide +kernel
theorem dX12_written_303 : decode cX12_written 303 = .ok (.iload 11, 2) := by decide +kernel
theorem dX12_written_305 : decode cX12_written 305 = .ok (.iaload, 1) := by decide +kernel
theorem dX12_written_306 : decode cX12_written 306 = .ok (.istore 12, 2) := by decide +kernel
theorem dX12_written_308 : decode cX12_written 308 = .ok (.aload 5, 2) := by decide +kernel
theorem dX12_written_310 : decode cX12_written 310 = .ok (.iload 6, 2) := by decide +kernel
theorem dX12_written_312 : decode cX12_written 312 = .ok (.iload 12, 2) := by decide +kernel
theorem dX12_written_314 : decode cX12_written 314 = .ok (.iastore, 1) := by decide +kernel
theorem dX12_written_315 : decode cX12_written 315 = .ok (.iinc 6 1, 3) := by decide +kernel
theorem dX12_written_318 : decode cX12_written 318 = .ok (.iinc 11 1, 3) := by decide +kernel
theorem dX12_written_321 : decode cX12_written 321 = .ok (.goto (-27), 3) := by decide +kernel
theorem dX12_written_324 : decode cX12_written 324 = .ok (.iinc 7 1, 3) := by decide +kernel
theorem dX12_written_327 : decode cX12_written 327 = .ok (.goto (-182), 3) := by decide +kernel
theorem dX12_written_330 : decode cX12_written 330 = .ok (.aload 5, 2) := by decide +kernel
theorem dX12_written_332 : decode cX12_written 332 = .ok (.areturn, 1) := by decide +kernel
theorem dX12_place_0 : decode cX12_place 0 = .ok (.iconst 0, 1) := by decide +kernel
theorem dX12_place_1 : decode cX12_place 1 = .ok (.istore_n 3, 1) := by decide +kernel
theorem dX12_place_2 : decode cX12_place 2 = .ok (.iload_n 3, 1) := by decide +kernel
theorem dX12_place_3 : decode cX12_place 3 = .ok (.iload_n 1, 1) := by decide +kernel
theorem dX12_place_4 : decode cX12_place 4 = .ok (.if_icmp .ge 20, 3) := by decide +kernel
theorem dX12_place_7 : decode cX12_place 7 = .ok (.aload_n 0, 1) := by decide +kernel
theorem dX12_place_8 : decode cX12_place 8 = .ok (.iload_n 3, 1) := by decide +kernel
theorem dX12_place_9 : decode cX12_place 9 = .ok (.aaload, 1) := by decide +kernel
theorem dX12_place_10 : decode cX12_place 10 = .ok (.aload_n 2, 1) := by decide +kernel
theorem dX12_place_11 : decode cX12_place 11 = .ok (.if_acmp .ne 7, 3) := by decide +kernel
theorem dX12_place_14 : decode cX12_place 14 = .ok (.iload_n 3, 1) := by decide +kernel
theorem dX12_place_15 : decode cX12_place 15 = .ok (.iconst 1, 1) := by decide +kernel
theorem dX12_place_16 : decode cX12_place 16 = .ok (.iadd, 1) := by decide +kernel
theorem dX12_place_17 : decode cX12_place 17 = .ok (.ireturn, 1) := by decide +kernel
theorem dX12_place_18 : decode cX12_place 18 = .ok (.iinc 3 1, 3) := by decide +kernel
theorem dX12_place_21 : decode cX12_place 21 = .ok (.goto (-19), 3) := by decide +kernel
theorem dX12_place_24 : decode cX12_place 24 = .ok (.iconst 0, 1) := by decide +kernel
theorem dX12_place_25 : decode cX12_place 25 = .ok (.ireturn, 1) := by decide +kernel
theorem dX12_drawn_0 : decode cX12_drawn 0 = .ok (.iload_n 1, 1) := by decide +kernel
theorem dX12_drawn_1 : decode cX12_drawn 1 = .ok (.iconst 1, 1) := by decide +kernel
theorem dX12_drawn_2 : decode cX12_drawn 2 = .ok (.iadd, 1) := by decide +kernel
theorem dX12_drawn_3 : decode cX12_drawn 3 = .ok (.aload_n 0, 1) := by decide +kernel
theorem dX12_drawn_4 : decode cX12_drawn 4 = .ok (.getfield 39, 3) := by decide +kernel
theorem dX12_drawn_7 : decode cX12_drawn 7 = .ok (.arraylength, 1) := by decide +kernel
theorem dX12_drawn_8 : decode cX12_drawn 8 = .ok (.if_icmp .lt 5, 3) := by decide +kernel
theorem dX12_drawn_11 : decode cX12_drawn 11 = .ok (.aconst_null, 1) := by decide +kernel
theorem dX12_drawn_12 : decode cX12_drawn 12 = .ok (.areturn, 1) := by decide +kernel
theorem dX12_drawn_13 : decode cX12_drawn 13 = .ok (.aload_n 0, 1) := by decide +kernel
theorem dX12_drawn_14 : decode cX12_drawn 14 = .ok (.getfield 39, 3) := by decide +kernel
theorem dX12_drawn_17 : decode cX12_drawn 17 = .ok (.iload_n 1, 1) := by decide +kernel
theorem dX12_drawn_18 : decode cX12_drawn 18 = .ok (.iaload, 1) := by decide +kernel
theorem dX12_drawn_19 : decode cX12_drawn 19 = .ok (.istore_n 2, 1) := by decide +kernel
theorem dX12_drawn_20 : decode cX12_drawn 20 = .ok (.aload_n 0, 1) := by decide +kernel
theorem dX12_drawn_21 : decode cX12_drawn 21 = .ok (.getfield 39, 3) := by decide +kernel
theorem dX12_drawn_24 : decode cX12_drawn 24 = .ok (.iload_n 1, 1) := by decide +kernel
theorem dX12_drawn_25 : decode cX12_drawn 25 = .ok (.iconst 1, 1) := by decide +kernel
theorem dX12_drawn_26 : decode cX12_drawn 26 = .ok (.iadd, 1) := by decide +kernel
theorem dX12_drawn_27 : decode cX12_drawn 27 = .ok (.iaload, 1) := by decide +kernel
theorem dX12_drawn_28 : decode cX12_drawn 28 = .ok (.istore_n 3, 1) := by decide +kernel
theorem dX12_drawn_29 : decode cX12_drawn 29 = .ok (.iload_n 2, 1) := by decide +kernel
theorem dX12_drawn_30 : decode cX12_drawn 30 = .ok (.ifCond .ne 12, 3) := by decide +kernel
theorem dX12_drawn_33 : decode cX12_drawn 33 = .ok (.aload_n 0, 1) := by decide +kernel
theorem dX12_drawn_34 : decode cX12_drawn 34 = .ok (.getfield 216, 3) := by decide +kernel
theorem dX12_drawn_37 : decode cX12_drawn 37 = .ok (.iconst 1, 1) := by decide +kernel
theorem dX12_drawn_38 : decode cX12_drawn 38 = .ok (.isub, 1) := by decide +kernel
theorem dX12_drawn_39 : decode cX12_drawn 39 = .ok (.goto 15, 3) := by decide +kernel
theorem dX12_drawn_42 : decode cX12_drawn 42 = .ok (.iload_n 2, 1) := by decide +kernel
theorem dX12_drawn_43 : decode cX12_drawn 43 = .ok (.iconst 1, 1) := by decide +kernel
theorem dX12_drawn_44 : decode cX12_drawn 44 = .ok (.if_icmp .ne 8, 3) := by decide +kernel
theorem dX12_drawn_47 : decode cX12_drawn 47 = .ok (.bipush 40, 2) := by decide +kernel
theorem dX12_drawn_49 : decode cX12_drawn 49 = .ok (.goto 5, 3) := by decide +kernel
theorem dX12_drawn_52 : decode cX12_drawn 52 = .ok (.bipush 120, 2) := by decide +kernel
theorem dX12_drawn_54 : decode cX12_drawn 54 = .ok (.istore 4, 2) := by decide +kernel
theorem dX12_drawn_56 : decode cX12_drawn 56 = .ok (.iload_n 2, 1) := by decide +kernel
theorem dX12_drawn_57 : decode cX12_drawn 57 = .ok (.ifCond .lt 18, 3) := by decide +kernel
theorem dX12_drawn_60 : decode cX12_drawn 60 = .ok (.iload_n 2, 1) := by decide +kernel
theorem dX12_drawn_61 : decode cX12_drawn 61 = .ok (.iconst 3, 1) := by decide +kernel
theorem dX12_drawn_62 : decode cX12_drawn 62 = .ok (.if_icmp .gt 13, 3) := by decide +kernel
theorem dX12_drawn_65 : decode cX12_drawn 65 = .ok (.iload_n 3, 1) := by decide +kernel
theorem dX12_drawn_66 : decode cX12_drawn 66 = .ok (.ifCond .lt 9, 3) := by decide +kernel
theorem dX12_drawn_69 : decode cX12_drawn 69 = .ok (.iload_n 3, 1) := by decide +kernel
theorem dX12_drawn_70 : decode cX12_drawn 70 = .ok (.iload 4, 2) := by decide +kernel
theorem dX12_drawn_72 : decode cX12_drawn 72 = .ok (.if_icmp .le 5, 3) := by decide +kernel
theorem dX12_drawn_75 : decode cX12_drawn 75 = .ok (.aconst_null, 1) := by decide +kernel
theorem dX12_drawn_76 : decode cX12_drawn 76 = .ok (.areturn, 1) := by decide +kernel
theorem dX12_drawn_77 : decode cX12_drawn 77 = .ok (.iload_n 2, 1) := by decide +kernel
theorem dX12_drawn_78 : decode cX12_drawn 78 = .ok (.ifCond .ne 9, 3) := by decide +kernel
theorem dX12_drawn_81 : decode cX12_drawn 81 = .ok (.aload_n 0, 1) := by decide +kernel
theorem dX12_drawn_82 : decode cX12_drawn 82 = .ok (.iload_n 3, 1) := by decide +kernel
theorem dX12_drawn_83 : decode cX12_drawn 83 = .ok (.invokevirtual 236, 3) := by decide +kernel
theorem dX12_drawn_86 : decode cX12_drawn 86 = .ok (.areturn, 1) := by decide +kernel
theorem dX12_drawn_87 : decode cX12_drawn 87 = .ok (.iload_n 2, 1) := by decide +kernel
theorem dX12_drawn_88 : decode cX12_drawn 88 = .ok (.iconst 1, 1) := by decide +kernel
theorem dX12_drawn_89 : decode cX12_drawn 89 = .ok (.if_icmp .ne 18, 3) := by decide +kernel
theorem dX12_drawn_92 : decode cX12_drawn 92 = .ok (.new 7, 3) := by decide +kernel
theorem dX12_drawn_95 : decode cX12_drawn 95 = .ok (.dup, 1) := by decide +kernel
theorem dX12_drawn_96 : decode cX12_drawn 96 = .ok (.iconst 1, 1) := by decide +kernel
theorem dX12_drawn_97 : decode cX12_drawn 97 = .ok (.iconst (-1), 1) := by decide +kernel
theorem dX12_drawn_98 : decode cX12_drawn 98 = .ok (.iload_n 3, 1) := by decide +kernel
theorem dX12_drawn_99 : decode cX12_drawn 99 = .ok (.iconst 0, 1) := by decide +kernel
theorem dX12_drawn_100 : decode cX12_drawn 100 = .ok (.iconst 0, 1) := by decide +kernel
theorem dX12_drawn_101 : decode cX12_drawn 101 = .ok (.invokespecial 226, 3) := by decide +kernel
theorem dX12_drawn_104 : decode cX12_drawn 104 = .ok (.goto 15, 3) := by decide +kernel
theorem dX12_drawn_107 : decode cX12_drawn 107 = .ok (.new 7, 3) := by decide +kernel
theorem dX12_drawn_110 : decode cX12_drawn 110 = .ok (.dup, 1) := by decide +kernel
theorem dX12_drawn_111 : decode cX12_drawn 111 = .ok (.iconst 2, 1) := by decide +kernel
theorem dX12_drawn_112 : decode cX12_drawn 112 = .ok (.iconst (-1), 1) := by decide +kernel
theorem dX12_drawn_113 : decode cX12_drawn 113 = .ok (.iconst 0, 1) := by decide +kernel
theorem dX12_drawn_114 : decode cX12_drawn 114 = .ok (.iload_n 3, 1) := by decide +kernel
theorem dX12_drawn_115 : decode cX12_drawn 115 = .ok (.iconst 0, 1) := by decide +kernel
theorem dX12_drawn_116 : decode cX12_drawn 116 = .ok (.invokespecial 226, 3) := by decide +kernel
theorem dX12_drawn_119 : decode cX12_drawn 119 = .ok (.astore 5, 2) := by decide +kernel
theorem dX12_drawn_121 : decode cX12_drawn 121 = .ok (.aload 5, 2) := by decide +kernel
theorem dX12_drawn_123 : decode cX12_drawn 123 = .ok (.iload_n 2, 1) := by decide +kernel
theorem dX12_drawn_124 : decode cX12_drawn 124 = .ok (.iconst 3, 1) := by decide +kernel
theorem dX12_drawn_125 : decode cX12_drawn 125 = .ok (.if_icmp .ne 7, 3) := by decide +kernel
theorem dX12_drawn_128 : decode cX12_drawn 128 = .ok (.iconst 1, 1) := by decide +kernel
theorem dX12_drawn_129 : decode cX12_drawn 129 = .ok (.goto 4, 3) := by decide +kernel
theorem dX12_drawn_132 : decode cX12_drawn 132 = .ok (.iconst 0, 1) := by decide +kernel
theorem dX12_drawn_133 : decode cX12_drawn 133 = .ok (.putfield 245, 3) := by decide +kernel
theorem dX12_drawn_136 : decode cX12_drawn 136 = .ok (.aload 5, 2) := by decide +kernel
theorem dX12_drawn_138 : decode cX12_drawn 138 = .ok (.areturn, 1) := by decide +kernel
theorem dX12_taken_0 : decode cX12_taken 0 = .ok (.aload_n 0, 1) := by decide +kernel
theorem dX12_taken_1 : decode cX12_taken 1 = .ok (.getfield 39, 3) := by decide +kernel
theorem dX12_taken_4 : decode cX12_taken 4 = .ok (.arraylength, 1) := by decide +kernel
theorem dX12_taken_5 : decode cX12_taken 5 = .ok (.ifCond .eq 25, 3) := by decide +kernel
theorem dX12_taken_8 : decode cX12_taken 8 = .ok (.aload_n 0, 1) := by decide +kernel
theorem dX12_taken_9 : decode cX12_taken 9 = .ok (.getfield 39, 3) := by decide +kernel
theorem dX12_taken_12 : decode cX12_taken 12 = .ok (.iconst 0, 1) := by decide +kernel
theorem dX12_taken_13 : decode cX12_taken 13 = .ok (.iaload, 1) := by decide +kernel
theorem dX12_taken_14 : decode cX12_taken 14 = .ok (.iconst 1, 1) := by decide +kernel
theorem dX12_taken_15 : decode cX12_taken 15 = .ok (.if_icmp .lt 15, 3) := by decide +kernel
theorem dX12_taken_18 : decode cX12_taken 18 = .ok (.aload_n 0, 1) := by decide +kernel
theorem dX12_taken_19 : decode cX12_taken 19 = .ok (.getfield 39, 3) := by decide +kernel
theorem dX12_taken_22 : decode cX12_taken 22 = .ok (.iconst 0, 1) := by decide +kernel
theorem dX12_taken_23 : decode cX12_taken 23 = .ok (.iaload, 1) := by decide +kernel
theorem dX12_taken_24 : decode cX12_taken 24 = .ok (.sipush 200, 3) := by decide +kernel
theorem dX12_taken_27 : decode cX12_taken 27 = .ok (.if_icmp .le 6, 3) := by decide +kernel
theorem dX12_taken_30 : decode cX12_taken 30 = .ok (.bipush (-2), 2) := by decide +kernel
theorem dX12_taken_32 : decode cX12_taken 32 = .ok (.ireturn, 1) := by decide +kernel
theorem dX12_taken_33 : decode cX12_taken 33 = .ok (.aload_n 0, 1) := by decide +kernel
theorem dX12_taken_34 : decode cX12_taken 34 = .ok (.getfield 39, 3) := by decide +kernel
theorem dX12_taken_37 : decode cX12_taken 37 = .ok (.iconst 0, 1) := by decide +kernel
theorem dX12_taken_38 : decode cX12_taken 38 = .ok (.iaload, 1) := by decide +kernel
theorem dX12_taken_39 : decode cX12_taken 39 = .ok (.istore_n 2, 1) := by decide +kernel
theorem dX12_taken_40 : decode cX12_taken 40 = .ok (.iload_n 2, 1) := by decide +kernel
theorem dX12_taken_41 : decode cX12_taken 41 = .ok (.anewarray 7, 3) := by decide +kernel
theorem dX12_taken_44 : decode cX12_taken 44 = .ok (.astore_n 3, 1) := by decide +kernel
theorem dX12_taken_45 : decode cX12_taken 45 = .ok (.iload_n 2, 1) := by decide +kernel
theorem dX12_taken_46 : decode cX12_taken 46 = .ok (.newarray .int, 2) := by decide +kernel
theorem dX12_taken_48 : decode cX12_taken 48 = .ok (.astore 4, 2) := by decide +kernel
theorem dX12_taken_50 : decode cX12_taken 50 = .ok (.iconst 1, 1) := by decide +kernel
theorem dX12_taken_51 : decode cX12_taken 51 = .ok (.istore 5, 2) := by decide +kernel
theorem dX12_taken_53 : decode cX12_taken 53 = .ok (.iconst 0, 1) := by decide +kernel
theorem dX12_taken_54 : decode cX12_taken 54 = .ok (.istore 6, 2) := by decide +kernel
theorem dX12_taken_56 : decode cX12_taken 56 = .ok (.iconst 0, 1) := by decide +kernel
theorem dX12_taken_57 : decode cX12_taken 57 = .ok (.istore 7, 2) := by decide +kernel
theorem dX12_taken_59 : decode cX12_taken 59 = .ok (.iload 7, 2) := by decide +kernel
theorem dX12_taken_61 : decode cX12_taken 61 = .ok (.iload_n 2, 1) := by decide +kernel
theorem dX12_taken_62 : decode cX12_taken 62 = .ok (.if_icmp .ge 222, 3) := by decide +kernel
theorem dX12_taken_65 : decode cX12_taken 65 = .ok (.aload_n 0, 1) := by decide +kernel
theorem dX12_taken_66 : decode cX12_taken 66 = .ok (.iload 5, 2) := by decide +kernel
theorem dX12_taken_68 : decode cX12_taken 68 = .ok (.invokevirtual 291, 3) := by decide +kernel
theorem dX12_taken_71 : decode cX12_taken 71 = .ok (.astore 8, 2) := by decide +kernel
theorem dX12_taken_73 : decode cX12_taken 73 = .ok (.aload 8, 2) := by decide +kernel
theorem dX12_taken_75 : decode cX12_taken 75 = .ok (.ifnonnull 6, 3) := by decide +kernel
theorem dX12_taken_78 : decode cX12_taken 78 = .ok (.bipush (-2), 2) := by decide +kernel
theorem dX12_taken_80 : decode cX12_taken 80 = .ok (.ireturn, 1) := by decide +kernel
theorem dX12_taken_81 : decode cX12_taken 81 = .ok (.aload 4, 2) := by decide +kernel
theorem dX12_taken_83 : decode cX12_taken 83 = .ok (.iload 7, 2) := by decide +kernel
theorem dX12_taken_85 : decode cX12_taken 85 = .ok (.iload 5, 2) := by decide +kernel
theorem dX12_taken_87 : decode cX12_taken 87 = .ok (.iconst 2, 1) := by decide +kernel
theorem dX12_taken_88 : decode cX12_taken 88 = .ok (.iadd, 1) := by decide +kernel
theorem dX12_taken_89 : decode cX12_taken 89 = .ok (.iastore, 1) := by decide +kernel
theorem dX12_taken_90 : decode cX12_taken 90 = .ok (.aload 4, 2) := by decide +kernel
theorem dX12_taken_92 : decode cX12_taken 92 = .ok (.iload 7, 2) := by decide +kernel
theorem dX12_taken_94 : decode cX12_taken 94 = .ok (.iaload, 1) := by decide +kernel
theorem dX12_taken_95 : decode cX12_taken 95 = .ok (.aload 8, 2) := by decide +kernel
theorem dX12_taken_97 : decode cX12_taken 97 = .ok (.getfield 98, 3) := by decide +kernel
theorem dX12_taken_100 : decode cX12_taken 100 = .ok (.arraylength, 1) := by decide +kernel
theorem dX12_taken_101 : decode cX12_taken 101 = .ok (.iadd, 1) := by decide +kernel
theorem dX12_taken_102 : decode cX12_taken 102 = .ok (.aload 8, 2) := by decide +kernel
theorem dX12_taken_104 : decode cX12_taken 104 = .ok (.getfield 242, 3) := by decide +kernel
theorem dX12_taken_107 : decode cX12_taken 107 = .ok (.arraylength, 1) := by decide +kernel
theorem dX12_taken_108 : decode cX12_taken 108 = .ok (.iadd, 1) := by decide +kernel
theorem dX12_taken_109 : decode cX12_taken 109 = .ok (.istore 5, 2) := by decide +kernel
theorem dX12_taken_111 : decode cX12_taken 111 = .ok (.iload 5, 2) := by decide +kernel
theorem dX12_taken_113 : decode cX12_taken 113 = .ok (.aload_n 0, 1) := by decide +kernel
theorem dX12_taken_114 : decode cX12_taken 114 = .ok (.getfield 39, 3) := by decide +kernel
theorem dX12_taken_117 : decode cX12_taken 117 = .ok (.arraylength, 1) := by decide +kernel
theorem dX12_taken_118 : decode cX12_taken 118 = .ok (.if_icmp .le 6, 3) := by decide +kernel
theorem dX12_taken_121 : decode cX12_taken 121 = .ok (.bipush (-2), 2) := by decide +kernel
theorem dX12_taken_123 : decode cX12_taken 123 = .ok (.ireturn, 1) := by decide +kernel
theorem dX12_taken_124 : decode cX12_taken 124 = .ok (.aload 4, 2) := by decide +kernel
theorem dX12_taken_126 : decode cX12_taken 126 = .ok (.iload 7, 2) := by decide +kernel
theorem dX12_taken_128 : decode cX12_taken 128 = .ok (.iaload, 1) := by decide +kernel
theorem dX12_taken_129 : decode cX12_taken 129 = .ok (.istore 9, 2) := by decide +kernel
theorem dX12_taken_131 : decode cX12_taken 131 = .ok (.iload 9, 2) := by decide +kernel
theorem dX12_taken_133 : decode cX12_taken 133 = .ok (.iload 5, 2) := by decide +kernel
theorem dX12_taken_135 : decode cX12_taken 135 = .ok (.if_icmp .ge 127, 3) := by decide +kernel
theorem dX12_taken_138 : decode cX12_taken 138 = .ok (.iload 9, 2) := by decide +kernel
theorem dX12_taken_140 : decode cX12_taken 140 = .ok (.aload 4, 2) := by decide +kernel
theorem dX12_taken_142 : decode cX12_taken 142 = .ok (.iload 7, 2) := by decide +kernel
theorem dX12_taken_144 : decode cX12_taken 144 = .ok (.iaload, 1) := by decide +kernel
theorem dX12_taken_145 : decode cX12_taken 145 = .ok (.aload 8, 2) := by decide +kernel
theorem dX12_taken_147 : decode cX12_taken 147 = .ok (.getfield 98, 3) := by decide +kernel
theorem dX12_taken_150 : decode cX12_taken 150 = .ok (.arraylength, 1) := by decide +kernel
theorem dX12_taken_151 : decode cX12_taken 151 = .ok (.iadd, 1) := by decide +kernel
theorem dX12_taken_152 : decode cX12_taken 152 = .ok (.if_icmp .ge 7, 3) := by decide +kernel
theorem dX12_taken_155 : decode cX12_taken 155 = .ok (.iconst 1, 1) := by decide +kernel
theorem dX12_taken_156 : decode cX12_taken 156 = .ok (.goto 4, 3) := by decide +kernel
theorem dX12_taken_159 : decode cX12_taken 159 = .ok (.iconst 0, 1) := by decide +kernel
theorem dX12_taken_160 : decode cX12_taken 160 = .ok (.istore 10, 2) := by decide +kernel
theorem dX12_taken_162 : decode cX12_taken 162 = .ok (.iload 10, 2) := by decide +kernel
theorem dX12_taken_164 : decode cX12_taken 164 = .ok (.ifCond .eq 24, 3) := by decide +kernel
theorem dX12_taken_167 : decode cX12_taken 167 = .ok (.aload_n 0, 1) := by decide +kernel
theorem dX12_taken_168 : decode cX12_taken 168 = .ok (.getfield 39, 3) := by decide +kernel
theorem dX12_taken_171 : decode cX12_taken 171 = .ok (.iload 9, 2) := by decide +kernel
theorem dX12_taken_173 : decode cX12_taken 173 = .ok (.iaload, 1) := by decide +kernel
theorem dX12_taken_174 : decode cX12_taken 174 = .ok (.ifCond .lt 46, 3) := by decide +kernel
theorem dX12_taken_177 : decode cX12_taken 177 = .ok (.aload_n 0, 1) := by decide +kernel
theorem dX12_taken_178 : decode cX12_taken 178 = .ok (.getfield 39, 3) := by decide +kernel
theorem dX12_taken_181 : decode cX12_taken 181 = .ok (.iload 9, 2) := by decide +kernel
theorem dX12_taken_183 : decode cX12_taken 183 = .ok (.iaload, 1) := by decide +kernel
theorem dX12_taken_184 : decode cX12_taken 184 = .ok (.iload_n 2, 1) := by decide +kernel
theorem dX12_taken_185 : decode cX12_taken 185 = .ok (.if_icmp .gt 35, 3) := by decide +kernel
theorem dX12_taken_188 : decode cX12_taken 188 = .ok (.aload 8, 2) := by decide +kernel
theorem dX12_taken_190 : decode cX12_taken 190 = .ok (.getfield 52, 3) := by decide +kernel
theorem dX12_taken_193 : decode cX12_taken 193 = .ok (.iconst 2, 1) := by decide +kernel
theorem dX12_taken_194 : decode cX12_taken 194 = .ok (.if_icmp .ne 29, 3) := by decide +kernel
theorem dX12_taken_197 : decode cX12_taken 197 = .ok (.aload_n 0, 1) := by decide +kernel
theorem dX12_taken_198 : decode cX12_taken 198 = .ok (.getfield 39, 3) := by decide +kernel
theorem dX12_taken_201 : decode cX12_taken 201 = .ok (.iload 9, 2) := by decide +kernel
theorem dX12_taken_203 : decode cX12_taken 203 = .ok (.iaload, 1) := by decide +kernel
theorem dX12_taken_204 : decode cX12_taken 204 = .ok (.ifCond .lt 16, 3) := by decide +kernel
theorem dX12_taken_207 : decode cX12_taken 207 = .ok (.aload_n 0, 1) := by decide +kernel
theorem dX12_taken_208 : decode cX12_taken 208 = .ok (.getfield 39, 3) := by decide +kernel
theorem dX12_taken_211 : decode cX12_taken 211 = .ok (.iload 9, 2) := by decide +kernel
theorem dX12_taken_213 : decode cX12_taken 213 = .ok (.iaload, 1) := by decide +kernel
theorem dX12_taken_214 : decode cX12_taken 214 = .ok (.sipush 255, 3) := by decide +kernel
theorem dX12_taken_217 : decode cX12_taken 217 = .ok (.if_icmp .le 6, 3) := by decide +kernel
theorem dX12_taken_220 : decode cX12_taken 220 = .ok (.bipush (-2), 2) := by decide +kernel
theorem dX12_taken_222 : decode cX12_taken 222 = .ok (.ireturn, 1) := by decide +kernel
theorem dX12_taken_223 : decode cX12_taken 223 = .ok (.iload 10, 2) := by decide +kernel
theorem dX12_taken_225 : decode cX12_taken 225 = .ok (.ifCond .ne 31, 3) := by decide +kernel
theorem dX12_taken_228 : decode cX12_taken 228 = .ok (.aload 8, 2) := by decide +kernel
theorem dX12_taken_230 : decode cX12_taken 230 = .ok (.getfield 242, 3) := by decide +kernel
theorem dX12_taken_233 : decode cX12_taken 233 = .ok (.iload 9, 2) := by decide +kernel
theorem dX12_taken_235 : decode cX12_taken 235 = .ok (.aload 4, 2) := by decide +kernel
theorem dX12_taken_237 : decode cX12_taken 237 = .ok (.iload 7, 2) := by decide +kernel
theorem dX12_taken_239 : decode cX12_taken 239 = .ok (.iaload, 1) := by decide +kernel
theorem dX12_taken_240 : decode cX12_taken 240 = .ok (.isub, 1) := by decide +kernel
theorem dX12_taken_241 : decode cX12_taken 241 = .ok (.aload 8, 2) := by decide +kernel
theorem dX12_taken_243 : decode cX12_taken 243 = .ok (.getfield 98, 3) := by decide +kernel
theorem dX12_taken_246 : decode cX12_taken 246 = .ok (.arraylength, 1) := by decide +kernel
theorem dX12_taken_247 : decode cX12_taken 247 = .ok (.isub, 1) := by decide +kernel
theorem dX12_taken_248 : decode cX12_taken 248 = .ok (.aload_n 0, 1) := by decide +kernel
theorem dX12_taken_249 : decode cX12_taken 249 = .ok (.getfield 39, 3) := by decide +kernel
theorem dX12_taken_252 : decode cX12_taken 252 = .ok (.iload 9, 2) := by decide +kernel
theorem dX12_taken_254 : decode cX12_taken 254 = .ok (.iaload, 1) := by decide +kernel
theorem dX12_taken_255 : decode cX12_taken 255 = .ok (.iastore, 1) := by decide +kernel
theorem dX12_taken_256 : decode cX12_taken 256 = .ok (.iinc 9 1, 3) := by decide +kernel
theorem dX12_taken_259 : decode cX12_taken 259 = .ok (.goto (-128), 3) := by decide +kernel
theorem dX12_taken_262 : decode cX12_taken 262 = .ok (.aload_n 3, 1) := by decide +kernel
theorem dX12_taken_263 : decode cX12_taken 263 = .ok (.iload 7, 2) := by decide +kernel
theorem dX12_taken_265 : decode cX12_taken 265 = .ok (.aload 8, 2) := by decide +kernel
theorem dX12_taken_267 : decode cX12_taken 267 = .ok (.aastore, 1) := by decide +kernel
theorem dX12_taken_268 : decode cX12_taken 268 = .ok (.iload 6, 2) := by decide +kernel
theorem dX12_taken_270 : decode cX12_taken 270 = .ok (.aload 8, 2) := by decide +kernel
theorem dX12_taken_272 : decode cX12_taken 272 = .ok (.getfield 65, 3) := by decide +kernel
theorem dX12_taken_275 : decode cX12_taken 275 = .ok (.iadd, 1) := by decide +kernel
theorem dX12_taken_276 : decode cX12_taken 276 = .ok (.istore 6, 2) := by decide +kernel
theorem dX12_taken_278 : decode cX12_taken 278 = .ok (.iinc 7 1, 3) := by decide +kernel
theorem dX12_taken_281 : decode cX12_taken 281 = .ok (.goto (-222), 3) := by decide +kernel
theorem dX12_taken_284 : decode cX12_taken 284 = .ok (.iload 5, 2) := by decide +kernel
theorem dX12_taken_286 : decode cX12_taken 286 = .ok (.aload_n 0, 1) := by decide +kernel
theorem dX12_taken_287 : decode cX12_taken 287 = .ok (.getfield 39, 3) := by decide +kernel
theorem dX12_taken_290 : decode cX12_taken 290 = .ok (.arraylength, 1) := by decide +kernel
theorem dX12_taken_291 : decode cX12_taken 291 = .ok (.if_icmp .eq 6, 3) := by decide +kernel
theorem dX12_taken_294 : decode cX12_taken 294 = .ok (.bipush (-2), 2) := by decide +kernel
theorem dX12_taken_296 : decode cX12_taken 296 = .ok (.ireturn, 1) := by decide +kernel
theorem dX12_taken_297 : decode cX12_taken 297 = .ok (.aload_n 0, 1) := by decide +kernel
theorem dX12_taken_298 : decode cX12_taken 298 = .ok (.iload 6, 2) := by decide +kernel
theorem dX12_taken_300 : decode cX12_taken 300 = .ok (.invokevirtual 229, 3) := by decide +kernel
theorem dX12_taken_303 : decode cX12_taken 303 = .ok (.ifCond .ne 5, 3) := by decide +kernel
theorem dX12_taken_306 : decode cX12_taken 306 = .ok (.iconst (-1), 1) := by decide +kernel
theorem dX12_taken_307 : decode cX12_taken 307 = .ok (.ireturn, 1) := by decide +kernel
theorem dX12_taken_308 : decode cX12_taken 308 = .ok (.iconst 0, 1) := by decide +kernel
theorem dX12_taken_309 : decode cX12_taken 309 = .ok (.istore 7, 2) := by decide +kernel
theorem dX12_taken_311 : decode cX12_taken 311 = .ok (.iload 7, 2) := by decide +kernel
theorem dX12_taken_313 : decode cX12_taken 313 = .ok (.iload_n 2, 1) := by decide +kernel
theorem dX12_taken_314 : decode cX12_taken 314 = .ok (.if_icmp .ge 83, 3) := by decide +kernel
theorem dX12_taken_317 : decode cX12_taken 317 = .ok (.aload_n 3, 1) := by decide +kernel
theorem dX12_taken_318 : decode cX12_taken 318 = .ok (.iload 7, 2) := by decide +kernel
theorem dX12_taken_320 : decode cX12_taken 320 = .ok (.aaload, 1) := by decide +kernel
theorem dX12_taken_321 : decode cX12_taken 321 = .ok (.getfield 245, 3) := by decide +kernel
theorem dX12_taken_324 : decode cX12_taken 324 = .ok (.ifCond .eq 26, 3) := by decide +kernel
theorem dX12_taken_327 : decode cX12_taken 327 = .ok (.aload_n 0, 1) := by decide +kernel
theorem dX12_taken_328 : decode cX12_taken 328 = .ok (.aload_n 3, 1) := by decide +kernel
theorem dX12_taken_329 : decode cX12_taken 329 = .ok (.iload 7, 2) := by decide +kernel
theorem dX12_taken_331 : decode cX12_taken 331 = .ok (.aaload, 1) := by decide +kernel
theorem dX12_taken_332 : decode cX12_taken 332 = .ok (.getfield 242, 3) := by decide +kernel
theorem dX12_taken_335 : decode cX12_taken 335 = .ok (.iconst 0, 1) := by decide +kernel
theorem dX12_taken_336 : decode cX12_taken 336 = .ok (.aload_n 3, 1) := by decide +kernel
theorem dX12_taken_337 : decode cX12_taken 337 = .ok (.iload 7, 2) := by decide +kernel
theorem dX12_taken_339 : decode cX12_taken 339 = .ok (.aaload, 1) := by decide +kernel
theorem dX12_taken_340 : decode cX12_taken 340 = .ok (.getfield 242, 3) := by decide +kernel
theorem dX12_taken_343 : decode cX12_taken 343 = .ok (.arraylength, 1) := by decide +kernel
theorem dX12_taken_344 : decode cX12_taken 344 = .ok (.invokevirtual 267, 3) := by decide +kernel
theorem dX12_taken_347 : decode cX12_taken 347 = .ok (.goto 4, 3) := by decide +kernel
theorem dX12_taken_350 : decode cX12_taken 350 = .ok (.aconst_null, 1) := by decide +kernel
theorem dX12_taken_351 : decode cX12_taken 351 = .ok (.astore 8, 2) := by decide +kernel
theorem dX12_taken_353 : decode cX12_taken 353 = .ok (.aload_n 3, 1) := by decide +kernel
theorem dX12_taken_354 : decode cX12_taken 354 = .ok (.iload 7, 2) := by decide +kernel
theorem dX12_taken_356 : decode cX12_taken 356 = .ok (.aload 8, 2) := by decide +kernel
theorem dX12_taken_358 : decode cX12_taken 358 = .ok (.ifnonnull 26, 3) := by decide +kernel
theorem dX12_taken_361 : decode cX12_taken 361 = .ok (.aload_n 0, 1) := by decide +kernel
theorem dX12_taken_362 : decode cX12_taken 362 = .ok (.aload_n 3, 1) := by decide +kernel
theorem dX12_taken_363 : decode cX12_taken 363 = .ok (.iload 7, 2) := by decide +kernel
theorem dX12_taken_365 : decode cX12_taken 365 = .ok (.aaload, 1) := by decide +kernel
theorem dX12_taken_366 : decode cX12_taken 366 = .ok (.iload 6, 2) := by decide +kernel
theorem dX12_taken_368 : decode cX12_taken 368 = .ok (.bipush 32, 2) := by decide +kernel
theorem dX12_taken_370 : decode cX12_taken 370 = .ok (.if_icmp .le 7, 3) := by decide +kernel
theorem dX12_taken_373 : decode cX12_taken 373 = .ok (.iconst 1, 1) := by decide +kernel
theorem dX12_taken_374 : decode cX12_taken 374 = .ok (.goto 4, 3) := by decide +kernel
theorem dX12_taken_377 : decode cX12_taken 377 = .ok (.iconst 0, 1) := by decide +kernel
theorem dX12_taken_378 : decode cX12_taken 378 = .ok (.invokevirtual 232, 3) := by decide +kernel
theorem dX12_taken_381 : decode cX12_taken 381 = .ok (.goto 9, 3) := by decide +kernel
theorem dX12_taken_384 : decode cX12_taken 384 = .ok (.aload_n 0, 1) := by decide +kernel
theorem dX12_taken_385 : decode cX12_taken 385 = .ok (.aload 8, 2) := by decide +kernel
theorem dX12_taken_387 : decode cX12_taken 387 = .ok (.invokevirtual 250, 3) := by decide +kernel
theorem dX12_taken_390 : decode cX12_taken 390 = .ok (.aastore, 1) := by decide +kernel
theorem dX12_taken_391 : decode cX12_taken 391 = .ok (.iinc 7 1, 3) := by decide +kernel
theorem dX12_taken_394 : decode cX12_taken 394 = .ok (.goto (-83), 3) := by decide +kernel
theorem dX12_taken_397 : decode cX12_taken 397 = .ok (.iconst 0, 1) := by decide +kernel
theorem dX12_taken_398 : decode cX12_taken 398 = .ok (.istore 7, 2) := by decide +kernel
theorem dX12_taken_400 : decode cX12_taken 400 = .ok (.iload 7, 2) := by decide +kernel
theorem dX12_taken_402 : decode cX12_taken 402 = .ok (.iload_n 2, 1) := by decide +kernel
theorem dX12_taken_403 : decode cX12_taken 403 = .ok (.if_icmp .ge 74, 3) := by decide +kernel
theorem dX12_taken_406 : decode cX12_taken 406 = .ok (.iconst 0, 1) := by decide +kernel
theorem dX12_taken_407 : decode cX12_taken 407 = .ok (.istore 8, 2) := by decide +kernel
theorem dX12_taken_409 : decode cX12_taken 409 = .ok (.iload 8, 2) := by decide +kernel
theorem dX12_taken_411 : decode cX12_taken 411 = .ok (.aload_n 3, 1) := by decide +kernel
theorem dX12_taken_412 : decode cX12_taken 412 = .ok (.iload 7, 2) := by decide +kernel
theorem dX12_taken_414 : decode cX12_taken 414 = .ok (.aaload, 1) := by decide +kernel
theorem dX12_taken_415 : decode cX12_taken 415 = .ok (.getfield 98, 3) := by decide +kernel
theorem dX12_taken_418 : decode cX12_taken 418 = .ok (.arraylength, 1) := by decide +kernel
theorem dX12_taken_419 : decode cX12_taken 419 = .ok (.if_icmp .ge 52, 3) := by decide +kernel
theorem dX12_taken_422 : decode cX12_taken 422 = .ok (.aload_n 0, 1) := by decide +kernel
theorem dX12_taken_423 : decode cX12_taken 423 = .ok (.getfield 39, 3) := by decide +kernel
theorem dX12_taken_426 : decode cX12_taken 426 = .ok (.aload 4, 2) := by decide +kernel
theorem dX12_taken_428 : decode cX12_taken 428 = .ok (.iload 7, 2) := by decide +kernel
theorem dX12_taken_430 : decode cX12_taken 430 = .ok (.iaload, 1) := by decide +kernel
theorem dX12_taken_431 : decode cX12_taken 431 = .ok (.iload 8, 2) := by decide +kernel
theorem dX12_taken_433 : decode cX12_taken 433 = .ok (.iadd, 1) := by decide +kernel
theorem dX12_taken_434 : decode cX12_taken 434 = .ok (.iaload, 1) := by decide +kernel
theorem dX12_taken_435 : decode cX12_taken 435 = .ok (.ifCond .le 30, 3) := by decide +kernel
theorem dX12_taken_438 : decode cX12_taken 438 = .ok (.aload_n 3, 1) := by decide +kernel
theorem dX12_taken_439 : decode cX12_taken 439 = .ok (.iload 7, 2) := by decide +kernel
theorem dX12_taken_441 : decode cX12_taken 441 = .ok (.aaload, 1) := by decide +kernel
theorem dX12_taken_442 : decode cX12_taken 442 = .ok (.getfield 98, 3) := by decide +kernel
theorem dX12_taken_445 : decode cX12_taken 445 = .ok (.iload 8, 2) := by decide +kernel
theorem dX12_taken_447 : decode cX12_taken 447 = .ok (.aload_n 3, 1) := by decide +kernel
theorem dX12_taken_448 : decode cX12_taken 448 = .ok (.aload_n 0, 1) := by decide +kernel
theorem dX12_taken_449 : decode cX12_taken 449 = .ok (.getfield 39, 3) := by decide +kernel
theorem dX12_taken_452 : decode cX12_taken 452 = .ok (.aload 4, 2) := by decide +kernel
theorem dX12_taken_454 : decode cX12_taken 454 = .ok (.iload 7, 2) := by decide +kernel
theorem dX12_taken_456 : decode cX12_taken 456 = .ok (.iaload, 1) := by decide +kernel
theorem dX12_taken_457 : decode cX12_taken 457 = .ok (.iload 8, 2) := by decide +kernel
theorem dX12_taken_459 : decode cX12_taken 459 = .ok (.iadd, 1) := by decide +kernel
theorem dX12_taken_460 : decode cX12_taken 460 = .ok (.iaload, 1) := by decide +kernel
theorem dX12_taken_461 : decode cX12_taken 461 = .ok (.iconst 1, 1) := by decide +kernel
theorem dX12_taken_462 : decode cX12_taken 462 = .ok (.isub, 1) := by decide +kernel
theorem dX12_taken_463 : decode cX12_taken 463 = .ok (.aaload, 1) := by decide +kernel
theorem dX12_taken_464 : decode cX12_taken 464 = .ok (.aastore, 1) := by decide +kernel
theorem dX12_taken_465 : decode cX12_taken 465 = .ok (.iinc 8 1, 3) := by decide +kernel
theorem dX12_taken_468 : decode cX12_taken 468 = .ok (.goto (-59), 3) := by decide +kernel
theorem dX12_taken_471 : decode cX12_taken 471 = .ok (.iinc 7 1, 3) := by decide +kernel
theorem dX12_taken_474 : decode cX12_taken 474 = .ok (.goto (-74), 3) := by decide +kernel
theorem dX12_taken_477 : decode cX12_taken 477 = .ok (.aload_n 0, 1) := by decide +kernel
theorem dX12_taken_478 : decode cX12_taken 478 = .ok (.iload_n 1, 1) := by decide +kernel
theorem dX12_taken_479 : decode cX12_taken 479 = .ok (.aload_n 3, 1) := by decide +kernel
theorem dX12_taken_480 : decode cX12_taken 480 = .ok (.iconst 0, 1) := by decide +kernel
theorem dX12_taken_481 : decode cX12_taken 481 = .ok (.aaload, 1) := by decide +kernel
theorem dX12_taken_482 : decode cX12_taken 482 = .ok (.invokevirtual 222, 3) := by decide +kernel
theorem dX12_taken_485 : decode cX12_taken 485 = .ok (.ireturn, 1) := by decide +kernel
theorem dX12_dueOfCollecting_0 : decode cX12_dueOfCollecting 0 = .ok (.iload_n 1, 1) := by decide +kernel
theorem dX12_dueOfCollecting_1 : decode cX12_dueOfCollecting 1 = .ok (.tableswitch 122 33 36 #[31, 57, 76, 104], 31) := by decide +kernel
theorem dX12_dueOfCollecting_32 : decode cX12_dueOfCollecting 32 = .ok (.iload_n 2, 1) := by decide +kernel
theorem dX12_dueOfCollecting_33 : decode cX12_dueOfCollecting 33 = .ok (.iconst 1, 1) := by decide +kernel
theorem dX12_dueOfCollecting_34 : decode cX12_dueOfCollecting 34 = .ok (.if_icmp .lt 8, 3) := by decide +kernel
theorem dX12_dueOfCollecting_37 : decode cX12_dueOfCollecting 37 = .ok (.iload_n 2, 1) := by decide +kernel
theorem dX12_dueOfCollecting_38 : decode cX12_dueOfCollecting 38 = .ok (.iconst 4, 1) := by decide +kernel
theorem dX12_dueOfCollecting_39 : decode cX12_dueOfCollecting 39 = .ok (.if_icmp .le 7, 3) := by decide +kernel
theorem dX12_dueOfCollecting_42 : decode cX12_dueOfCollecting 42 = .ok (.sipush (-1012), 3) := by decide +kernel
theorem dX12_dueOfCollecting_45 : decode cX12_dueOfCollecting 45 = .ok (.ireturn, 1) := by decide +kernel
theorem dX12_dueOfCollecting_46 : decode cX12_dueOfCollecting 46 = .ok (.aload_n 0, 1) := by decide +kernel
theorem dX12_dueOfCollecting_47 : decode cX12_dueOfCollecting 47 = .ok (.getfield 35, 3) := by decide +kernel
theorem dX12_dueOfCollecting_50 : decode cX12_dueOfCollecting 50 = .ok (.istore_n 3, 1) := by decide +kernel
theorem dX12_dueOfCollecting_51 : decode cX12_dueOfCollecting 51 = .ok (.aload_n 0, 1) := by decide +kernel
theorem dX12_dueOfCollecting_52 : decode cX12_dueOfCollecting 52 = .ok (.iload_n 2, 1) := by decide +kernel
theorem dX12_dueOfCollecting_53 : decode cX12_dueOfCollecting 53 = .ok (.putfield 35, 3) := by decide +kernel
theorem dX12_dueOfCollecting_56 : decode cX12_dueOfCollecting 56 = .ok (.iload_n 3, 1) := by decide +kernel
theorem dX12_dueOfCollecting_57 : decode cX12_dueOfCollecting 57 = .ok (.ireturn, 1) := by decide +kernel
theorem dX12_dueOfCollecting_58 : decode cX12_dueOfCollecting 58 = .ok (.aload_n 0, 1) := by decide +kernel
theorem dX12_dueOfCollecting_59 : decode cX12_dueOfCollecting 59 = .ok (.getfield 176, 3) := by decide +kernel
theorem dX12_dueOfCollecting_62 : decode cX12_dueOfCollecting 62 = .ok (.ifCond .eq 9, 3) := by decide +kernel
theorem dX12_dueOfCollecting_65 : decode cX12_dueOfCollecting 65 = .ok (.sipush (-1013), 3) := by decide +kernel
theorem dX12_dueOfCollecting_68 : decode cX12_dueOfCollecting 68 = .ok (.goto 8, 3) := by decide +kernel
theorem dX12_dueOfCollecting_71 : decode cX12_dueOfCollecting 71 = .ok (.aload_n 0, 1) := by decide +kernel
theorem dX12_dueOfCollecting_72 : decode cX12_dueOfCollecting 72 = .ok (.iconst 0, 1) := by decide +kernel
theorem dX12_dueOfCollecting_73 : decode cX12_dueOfCollecting 73 = .ok (.invokevirtual 140, 3) := by decide +kernel
theorem dX12_dueOfCollecting_76 : decode cX12_dueOfCollecting 76 = .ok (.ireturn, 1) := by decide +kernel
theorem dX12_dueOfCollecting_77 : decode cX12_dueOfCollecting 77 = .ok (.aload_n 0, 1) := by decide +kernel
theorem dX12_dueOfCollecting_78 : decode cX12_dueOfCollecting 78 = .ok (.getfield 176, 3) := by decide +kernel
theorem dX12_dueOfCollecting_81 : decode cX12_dueOfCollecting 81 = .ok (.ifCond .eq 9, 3) := by decide +kernel
theorem dX12_dueOfCollecting_84 : decode cX12_dueOfCollecting 84 = .ok (.sipush (-1013), 3) := by decide +kernel
theorem dX12_dueOfCollecting_87 : decode cX12_dueOfCollecting 87 = .ok (.goto 17, 3) := by decide +kernel
theorem dX12_dueOfCollecting_90 : decode cX12_dueOfCollecting 90 = .ok (.aload_n 0, 1) := by decide +kernel
theorem dX12_dueOfCollecting_91 : decode cX12_dueOfCollecting 91 = .ok (.iload_n 2, 1) := by decide +kernel
theorem dX12_dueOfCollecting_92 : decode cX12_dueOfCollecting 92 = .ok (.iconst 1, 1) := by decide +kernel
theorem dX12_dueOfCollecting_93 : decode cX12_dueOfCollecting 93 = .ok (.if_icmp .ne 7, 3) := by decide +kernel
theorem dX12_dueOfCollecting_96 : decode cX12_dueOfCollecting 96 = .ok (.iconst 2, 1) := by decide +kernel
theorem dX12_dueOfCollecting_97 : decode cX12_dueOfCollecting 97 = .ok (.goto 4, 3) := by decide +kernel
theorem dX12_dueOfCollecting_100 : decode cX12_dueOfCollecting 100 = .ok (.iconst 1, 1) := by decide +kernel
theorem dX12_dueOfCollecting_101 : decode cX12_dueOfCollecting 101 = .ok (.invokevirtual 140, 3) := by decide +kernel
theorem dX12_dueOfCollecting_104 : decode cX12_dueOfCollecting 104 = .ok (.ireturn, 1) := by decide +kernel
theorem dX12_dueOfCollecting_105 : decode cX12_dueOfCollecting 105 = .ok (.aload_n 0, 1) := by decide +kernel
theorem dX12_dueOfCollecting_106 : decode cX12_dueOfCollecting 106 = .ok (.getfield 176, 3) := by decide +kernel
theorem dX12_dueOfCollecting_109 : decode cX12_dueOfCollecting 109 = .ok (.ifCond .eq 9, 3) := by decide +kernel
theorem dX12_dueOfCollecting_112 : decode cX12_dueOfCollecting 112 = .ok (.sipush (-1013), 3) := by decide +kernel
theorem dX12_dueOfCollecting_115 : decode cX12_dueOfCollecting 115 = .ok (.goto 7, 3) := by decide +kernel
theorem dX12_dueOfCollecting_118 : decode cX12_dueOfCollecting 118 = .ok (.aload_n 0, 1) := by decide +kernel
theorem dX12_dueOfCollecting_119 : decode cX12_dueOfCollecting 119 = .ok (.invokevirtual 294, 3) := by decide +kernel
theorem dX12_dueOfCollecting_122 : decode cX12_dueOfCollecting 122 = .ok (.ireturn, 1) := by decide +kernel
theorem dX12_dueOfCollecting_123 : decode cX12_dueOfCollecting 123 = .ok (.iload_n 2, 1) := by decide +kernel
theorem dX12_dueOfCollecting_124 : decode cX12_dueOfCollecting 124 = .ok (.iconst 1, 1) := by decide +kernel
theorem dX12_dueOfCollecting_125 : decode cX12_dueOfCollecting 125 = .ok (.if_icmp .lt 9, 3) := by decide +kernel
theorem dX12_dueOfCollecting_128 : decode cX12_dueOfCollecting 128 = .ok (.iload_n 2, 1) := by decide +kernel
theorem dX12_dueOfCollecting_129 : decode cX12_dueOfCollecting 129 = .ok (.bipush 50, 2) := by decide +kernel
theorem dX12_dueOfCollecting_131 : decode cX12_dueOfCollecting 131 = .ok (.if_icmp .le 7, 3) := by decide +kernel
theorem dX12_dueOfCollecting_134 : decode cX12_dueOfCollecting 134 = .ok (.sipush (-1012), 3) := by decide +kernel
theorem dX12_dueOfCollecting_137 : decode cX12_dueOfCollecting 137 = .ok (.ireturn, 1) := by decide +kernel
theorem dX12_dueOfCollecting_138 : decode cX12_dueOfCollecting 138 = .ok (.aload_n 0, 1) := by decide +kernel
theorem dX12_dueOfCollecting_139 : decode cX12_dueOfCollecting 139 = .ok (.getfield 176, 3) := by decide +kernel
theorem dX12_dueOfCollecting_142 : decode cX12_dueOfCollecting 142 = .ok (.ifCond .ne 7, 3) := by decide +kernel
theorem dX12_dueOfCollecting_145 : decode cX12_dueOfCollecting 145 = .ok (.sipush (-1013), 3) := by decide +kernel
theorem dX12_dueOfCollecting_148 : decode cX12_dueOfCollecting 148 = .ok (.ireturn, 1) := by decide +kernel
theorem dX12_dueOfCollecting_149 : decode cX12_dueOfCollecting 149 = .ok (.aload_n 0, 1) := by decide +kernel
theorem dX12_dueOfCollecting_150 : decode cX12_dueOfCollecting 150 = .ok (.invokevirtual 185, 3) := by decide +kernel
theorem dX12_dueOfCollecting_153 : decode cX12_dueOfCollecting 153 = .ok (.aload_n 0, 1) := by decide +kernel
theorem dX12_dueOfCollecting_154 : decode cX12_dueOfCollecting 154 = .ok (.getfield 182, 3) := by decide +kernel
theorem dX12_dueOfCollecting_157 : decode cX12_dueOfCollecting 157 = .ok (.isub, 1) := by decide +kernel
theorem dX12_dueOfCollecting_158 : decode cX12_dueOfCollecting 158 = .ok (.istore_n 3, 1) := by decide +kernel
theorem dX12_dueOfCollecting_159 : decode cX12_dueOfCollecting 159 = .ok (.iload_n 2, 1) := by decide +kernel
theorem dX12_dueOfCollecting_160 : decode cX12_dueOfCollecting 160 = .ok (.iload_n 3, 1) := by decide +kernel
theorem dX12_dueOfCollecting_161 : decode cX12_dueOfCollecting 161 = .ok (.invokestatic 297, 3) := by decide +kernel
theorem dX12_dueOfCollecting_164 : decode cX12_dueOfCollecting 164 = .ok (.istore 4, 2) := by decide +kernel
theorem dX12_dueOfCollecting_166 : decode cX12_dueOfCollecting 166 = .ok (.aload_n 0, 1) := by decide +kernel
theorem dX12_dueOfCollecting_167 : decode cX12_dueOfCollecting 167 = .ok (.dup, 1) := by decide +kernel
theorem dX12_dueOfCollecting_168 : decode cX12_dueOfCollecting 168 = .ok (.getfield 182, 3) := by decide +kernel
theorem dX12_dueOfCollecting_171 : decode cX12_dueOfCollecting 171 = .ok (.iload 4, 2) := by decide +kernel
theorem dX12_dueOfCollecting_173 : decode cX12_dueOfCollecting 173 = .ok (.iadd, 1) := by decide +kernel
theorem dX12_dueOfCollecting_174 : decode cX12_dueOfCollecting 174 = .ok (.putfield 182, 3) := by decide +kernel
theorem dX12_dueOfCollecting_177 : decode cX12_dueOfCollecting 177 = .ok (.iload 4, 2) := by decide +kernel
theorem dX12_dueOfCollecting_179 : decode cX12_dueOfCollecting 179 = .ok (.iload_n 3, 1) := by decide +kernel
theorem dX12_dueOfCollecting_180 : decode cX12_dueOfCollecting 180 = .ok (.if_icmp .ne 7, 3) := by decide +kernel
theorem dX12_dueOfCollecting_183 : decode cX12_dueOfCollecting 183 = .ok (.aload_n 0, 1) := by decide +kernel
theorem dX12_dueOfCollecting_184 : decode cX12_dueOfCollecting 184 = .ok (.invokevirtual 192, 3) := by decide +kernel
theorem dX12_dueOfCollecting_187 : decode cX12_dueOfCollecting 187 = .ok (.iload 4, 2) := by decide +kernel
theorem dX12_dueOfCollecting_189 : decode cX12_dueOfCollecting 189 = .ok (.ireturn, 1) := by decide +kernel
theorem dX12_isSameIn_0 : decode cX12_isSameIn 0 = .ok (.aload_n 0, 1) := by decide +kernel
theorem dX12_isSameIn_1 : decode cX12_isSameIn 1 = .ok (.iload_n 2, 1) := by decide +kernel
theorem dX12_isSameIn_2 : decode cX12_isSameIn 2 = .ok (.invokevirtual 48, 3) := by decide +kernel
theorem dX12_isSameIn_5 : decode cX12_isSameIn 5 = .ok (.astore_n 3, 1) := by decide +kernel
theorem dX12_isSameIn_6 : decode cX12_isSameIn 6 = .ok (.aload_n 1, 1) := by decide +kernel
theorem dX12_isSameIn_7 : decode cX12_isSameIn 7 = .ok (.iload_n 2, 1) := by decide +kernel
theorem dX12_isSameIn_8 : decode cX12_isSameIn 8 = .ok (.invokevirtual 302, 3) := by decide +kernel
theorem dX12_isSameIn_11 : decode cX12_isSameIn 11 = .ok (.aload_n 3, 1) := by decide +kernel
theorem dX12_isSameIn_12 : decode cX12_isSameIn 12 = .ok (.invokestatic 55, 3) := by decide +kernel
theorem dX12_isSameIn_15 : decode cX12_isSameIn 15 = .ok (.if_icmp .ne 16, 3) := by decide +kernel
theorem dX12_isSameIn_18 : decode cX12_isSameIn 18 = .ok (.aload_n 1, 1) := by decide +kernel
theorem dX12_isSameIn_19 : decode cX12_isSameIn 19 = .ok (.iload_n 2, 1) := by decide +kernel
theorem dX12_isSameIn_20 : decode cX12_isSameIn 20 = .ok (.invokevirtual 307, 3) := by decide +kernel
theorem dX12_isSameIn_23 : decode cX12_isSameIn 23 = .ok (.aload_n 0, 1) := by decide +kernel
theorem dX12_isSameIn_24 : decode cX12_isSameIn 24 = .ok (.iload_n 2, 1) := by decide +kernel
theorem dX12_isSameIn_25 : decode cX12_isSameIn 25 = .ok (.invokevirtual 248, 3) := by decide +kernel
theorem dX12_isSameIn_28 : decode cX12_isSameIn 28 = .ok (.if_icmp .eq 5, 3) := by decide +kernel
theorem dX12_isSameIn_31 : decode cX12_isSameIn 31 = .ok (.iconst 0, 1) := by decide +kernel
theorem dX12_isSameIn_32 : decode cX12_isSameIn 32 = .ok (.ireturn, 1) := by decide +kernel
theorem dX12_isSameIn_33 : decode cX12_isSameIn 33 = .ok (.aload_n 3, 1) := by decide +kernel
theorem dX12_isSameIn_34 : decode cX12_isSameIn 34 = .ok (.ifnonnull 85, 3) := by decide +kernel
theorem dX12_isSameIn_37 : decode cX12_isSameIn 37 = .ok (.aload_n 1, 1) := by decide +kernel
theorem dX12_isSameIn_38 : decode cX12_isSameIn 38 = .ok (.iload_n 2, 1) := by decide +kernel
theorem dX12_isSameIn_39 : decode cX12_isSameIn 39 = .ok (.invokevirtual 310, 3) := by decide +kernel
theorem dX12_isSameIn_42 : decode cX12_isSameIn 42 = .ok (.iconst (-1), 1) := by decide +kernel
theorem dX12_isSameIn_43 : decode cX12_isSameIn 43 = .ok (.if_icmp .ne 74, 3) := by decide +kernel
theorem dX12_isSameIn_46 : decode cX12_isSameIn 46 = .ok (.aload_n 1, 1) := by decide +kernel
theorem dX12_isSameIn_47 : decode cX12_isSameIn 47 = .ok (.iload_n 2, 1) := by decide +kernel
theorem dX12_isSameIn_48 : decode cX12_isSameIn 48 = .ok (.invokevirtual 313, 3) := by decide +kernel
theorem dX12_isSameIn_51 : decode cX12_isSameIn 51 = .ok (.iconst (-1), 1) := by decide +kernel
theorem dX12_isSameIn_52 : decode cX12_isSameIn 52 = .ok (.if_icmp .ne 65, 3) := by decide +kernel
theorem dX12_isSameIn_55 : decode cX12_isSameIn 55 = .ok (.aload_n 1, 1) := by decide +kernel
theorem dX12_isSameIn_56 : decode cX12_isSameIn 56 = .ok (.iload_n 2, 1) := by decide +kernel
theorem dX12_isSameIn_57 : decode cX12_isSameIn 57 = .ok (.invokevirtual 316, 3) := by decide +kernel
theorem dX12_isSameIn_60 : decode cX12_isSameIn 60 = .ok (.ifCond .ne 57, 3) := by decide +kernel
theorem dX12_isSameIn_63 : decode cX12_isSameIn 63 = .ok (.aload_n 1, 1) := by decide +kernel
theorem dX12_isSameIn_64 : decode cX12_isSameIn 64 = .ok (.iload_n 2, 1) := by decide +kernel
theorem dX12_isSameIn_65 : decode cX12_isSameIn 65 = .ok (.invokevirtual 319, 3) := by decide +kernel
theorem dX12_isSameIn_68 : decode cX12_isSameIn 68 = .ok (.iconst (-1), 1) := by decide +kernel
theorem dX12_isSameIn_69 : decode cX12_isSameIn 69 = .ok (.if_icmp .ne 48, 3) := by decide +kernel
theorem dX12_isSameIn_72 : decode cX12_isSameIn 72 = .ok (.aload_n 1, 1) := by decide +kernel
theorem dX12_isSameIn_73 : decode cX12_isSameIn 73 = .ok (.iload_n 2, 1) := by decide +kernel
theorem dX12_isSameIn_74 : decode cX12_isSameIn 74 = .ok (.invokevirtual 322, 3) := by decide +kernel
theorem dX12_isSameIn_77 : decode cX12_isSameIn 77 = .ok (.ifCond .ne 40, 3) := by decide +kernel
theorem dX12_isSameIn_80 : decode cX12_isSameIn 80 = .ok (.aload_n 1, 1) := by decide +kernel
theorem dX12_isSameIn_81 : decode cX12_isSameIn 81 = .ok (.iload_n 2, 1) := by decide +kernel
theorem dX12_isSameIn_82 : decode cX12_isSameIn 82 = .ok (.invokevirtual 324, 3) := by decide +kernel
theorem dX12_isSameIn_85 : decode cX12_isSameIn 85 = .ok (.ifCond .ne 32, 3) := by decide +kernel
theorem dX12_isSameIn_88 : decode cX12_isSameIn 88 = .ok (.aload_n 1, 1) := by decide +kernel
theorem dX12_isSameIn_89 : decode cX12_isSameIn 89 = .ok (.iload_n 2, 1) := by decide +kernel
theorem dX12_isSameIn_90 : decode cX12_isSameIn 90 = .ok (.invokevirtual 326, 3) := by decide +kernel
theorem dX12_isSameIn_93 : decode cX12_isSameIn 93 = .ok (.ifCond .ne 24, 3) := by decide +kernel
theorem dX12_isSameIn_96 : decode cX12_isSameIn 96 = .ok (.aload_n 1, 1) := by decide +kernel
theorem dX12_isSameIn_97 : decode cX12_isSameIn 97 = .ok (.iload_n 2, 1) := by decide +kernel
theorem dX12_isSameIn_98 : decode cX12_isSameIn 98 = .ok (.invokevirtual 329, 3) := by decide +kernel
theorem dX12_isSameIn_101 : decode cX12_isSameIn 101 = .ok (.ifCond .ne 16, 3) := by decide +kernel
theorem dX12_isSameIn_104 : decode cX12_isSameIn 104 = .ok (.aload_n 1, 1) := by decide +kernel
theorem dX12_isSameIn_105 : decode cX12_isSameIn 105 = .ok (.iload_n 2, 1) := by decide +kernel
theorem dX12_isSameIn_106 : decode cX12_isSameIn 106 = .ok (.invokevirtual 332, 3) := by decide +kernel
theorem dX12_isSameIn_109 : decode cX12_isSameIn 109 = .ok (.iconst (-1), 1) := by decide +kernel
theorem dX12_isSameIn_110 : decode cX12_isSameIn 110 = .ok (.if_icmp .ne 7, 3) := by decide +kernel
theorem dX12_isSameIn_113 : decode cX12_isSameIn 113 = .ok (.iconst 1, 1) := by decide +kernel
theorem dX12_isSameIn_114 : decode cX12_isSameIn 114 = .ok (.goto 4, 3) := by decide +kernel
theorem dX12_isSameIn_117 : decode cX12_isSameIn 117 = .ok (.iconst 0, 1) := by decide +kernel
theorem dX12_isSameIn_118 : decode cX12_isSameIn 118 = .ok (.ireturn, 1) := by decide +kernel
theorem dX12_isSameIn_119 : decode cX12_isSameIn 119 = .ok (.aload_n 3, 1) := by decide +kernel
theorem dX12_isSameIn_120 : decode cX12_isSameIn 120 = .ok (.getfield 52, 3) := by decide +kernel
theorem dX12_isSameIn_123 : decode cX12_isSameIn 123 = .ok (.bipush 6, 2) := by decide +kernel
theorem dX12_isSameIn_125 : decode cX12_isSameIn 125 = .ok (.if_icmp .ne 11, 3) := by decide +kernel
theorem dX12_isSameIn_128 : decode cX12_isSameIn 128 = .ok (.aload_n 3, 1) := by decide +kernel
theorem dX12_isSameIn_129 : decode cX12_isSameIn 129 = .ok (.getfield 104, 3) := by decide +kernel
theorem dX12_isSameIn_132 : decode cX12_isSameIn 132 = .ok (.arraylength, 1) := by decide +kernel
theorem dX12_isSameIn_133 : decode cX12_isSameIn 133 = .ok (.goto 36, 3) := by decide +kernel
theorem dX12_isSameIn_136 : decode cX12_isSameIn 136 = .ok (.aload_n 3, 1) := by decide +kernel
theorem dX12_isSameIn_137 : decode cX12_isSameIn 137 = .ok (.getfield 52, 3) := by decide +kernel
theorem dX12_isSameIn_140 : decode cX12_isSameIn 140 = .ok (.iconst 2, 1) := by decide +kernel
theorem dX12_isSameIn_141 : decode cX12_isSameIn 141 = .ok (.if_icmp .le 7, 3) := by decide +kernel
theorem dX12_isSameIn_144 : decode cX12_isSameIn 144 = .ok (.iconst 1, 1) := by decide +kernel
theorem dX12_isSameIn_145 : decode cX12_isSameIn 145 = .ok (.goto 24, 3) := by decide +kernel
theorem dX12_isSameIn_148 : decode cX12_isSameIn 148 = .ok (.aload_n 3, 1) := by decide +kernel
theorem dX12_isSameIn_149 : decode cX12_isSameIn 149 = .ok (.getfield 52, 3) := by decide +kernel
theorem dX12_isSameIn_152 : decode cX12_isSameIn 152 = .ok (.iconst 2, 1) := by decide +kernel
theorem dX12_isSameIn_153 : decode cX12_isSameIn 153 = .ok (.if_icmp .ne 11, 3) := by decide +kernel
theorem dX12_isSameIn_156 : decode cX12_isSameIn 156 = .ok (.aload_n 3, 1) := by decide +kernel
theorem dX12_isSameIn_157 : decode cX12_isSameIn 157 = .ok (.getfield 242, 3) := by decide +kernel
theorem dX12_isSameIn_160 : decode cX12_isSameIn 160 = .ok (.arraylength, 1) := by decide +kernel
theorem dX12_isSameIn_161 : decode cX12_isSameIn 161 = .ok (.goto 8, 3) := by decide +kernel
theorem dX12_isSameIn_164 : decode cX12_isSameIn 164 = .ok (.aload_n 3, 1) := by decide +kernel
theorem dX12_isSameIn_165 : decode cX12_isSameIn 165 = .ok (.getfield 98, 3) := by decide +kernel
theorem dX12_isSameIn_168 : decode cX12_isSameIn 168 = .ok (.arraylength, 1) := by decide +kernel
theorem dX12_isSameIn_169 : decode cX12_isSameIn 169 = .ok (.istore 4, 2) := by decide +kernel
theorem dX12_isSameIn_171 : decode cX12_isSameIn 171 = .ok (.aload_n 1, 1) := by decide +kernel
theorem dX12_isSameIn_172 : decode cX12_isSameIn 172 = .ok (.iload_n 2, 1) := by decide +kernel
theorem dX12_isSameIn_173 : decode cX12_isSameIn 173 = .ok (.invokevirtual 310, 3) := by decide +kernel
theorem dX12_isSameIn_176 : decode cX12_isSameIn 176 = .ok (.aload_n 3, 1) := by decide +kernel
theorem dX12_isSameIn_177 : decode cX12_isSameIn 177 = .ok (.getfield 284, 3) := by decide +kernel
theorem dX12_isSameIn_180 : decode cX12_isSameIn 180 = .ok (.if_icmp .ne 73, 3) := by decide +kernel
theorem dX12_isSameIn_183 : decode cX12_isSameIn 183 = .ok (.aload_n 1, 1) := by decide +kernel
theorem dX12_isSameIn_184 : decode cX12_isSameIn 184 = .ok (.iload_n 2, 1) := by decide +kernel
theorem dX12_isSameIn_185 : decode cX12_isSameIn 185 = .ok (.invokevirtual 313, 3) := by decide +kernel
theorem dX12_isSameIn_188 : decode cX12_isSameIn 188 = .ok (.iload 4, 2) := by decide +kernel
theorem dX12_isSameIn_190 : decode cX12_isSameIn 190 = .ok (.if_icmp .ne 63, 3) := by decide +kernel
theorem dX12_isSameIn_193 : decode cX12_isSameIn 193 = .ok (.aload_n 1, 1) := by decide +kernel
theorem dX12_isSameIn_194 : decode cX12_isSameIn 194 = .ok (.iload_n 2, 1) := by decide +kernel
theorem dX12_isSameIn_195 : decode cX12_isSameIn 195 = .ok (.invokevirtual 316, 3) := by decide +kernel
theorem dX12_isSameIn_198 : decode cX12_isSameIn 198 = .ok (.aload_n 3, 1) := by decide +kernel
theorem dX12_isSameIn_199 : decode cX12_isSameIn 199 = .ok (.getfield 65, 3) := by decide +kernel
theorem dX12_isSameIn_202 : decode cX12_isSameIn 202 = .ok (.if_icmp .ne 51, 3) := by decide +kernel
theorem dX12_isSameIn_205 : decode cX12_isSameIn 205 = .ok (.aload_n 1, 1) := by decide +kernel
theorem dX12_isSameIn_206 : decode cX12_isSameIn 206 = .ok (.iload_n 2, 1) := by decide +kernel
theorem dX12_isSameIn_207 : decode cX12_isSameIn 207 = .ok (.invokevirtual 319, 3) := by decide +kernel
theorem dX12_isSameIn_210 : decode cX12_isSameIn 210 = .ok (.aload_n 3, 1) := by decide +kernel
theorem dX12_isSameIn_211 : decode cX12_isSameIn 211 = .ok (.getfield 166, 3) := by decide +kernel
theorem dX12_isSameIn_214 : decode cX12_isSameIn 214 = .ok (.if_icmp .ne 39, 3) := by decide +kernel
theorem dX12_isSameIn_217 : decode cX12_isSameIn 217 = .ok (.aload_n 1, 1) := by decide +kernel
theorem dX12_isSameIn_218 : decode cX12_isSameIn 218 = .ok (.iload_n 2, 1) := by decide +kernel
theorem dX12_isSameIn_219 : decode cX12_isSameIn 219 = .ok (.invokevirtual 322, 3) := by decide +kernel
theorem dX12_isSameIn_222 : decode cX12_isSameIn 222 = .ok (.aload_n 3, 1) := by decide +kernel
theorem dX12_isSameIn_223 : decode cX12_isSameIn 223 = .ok (.getfield 61, 3) := by decide +kernel
theorem dX12_isSameIn_226 : decode cX12_isSameIn 226 = .ok (.if_icmp .ne 27, 3) := by decide +kernel
theorem dX12_isSameIn_229 : decode cX12_isSameIn 229 = .ok (.aload_n 1, 1) := by decide +kernel
theorem dX12_isSameIn_230 : decode cX12_isSameIn 230 = .ok (.iload_n 2, 1) := by decide +kernel
theorem dX12_isSameIn_231 : decode cX12_isSameIn 231 = .ok (.invokevirtual 324, 3) := by decide +kernel
theorem dX12_isSameIn_234 : decode cX12_isSameIn 234 = .ok (.aload_n 3, 1) := by decide +kernel
theorem dX12_isSameIn_235 : decode cX12_isSameIn 235 = .ok (.getfield 146, 3) := by decide +kernel
theorem dX12_isSameIn_238 : decode cX12_isSameIn 238 = .ok (.if_icmp .ne 15, 3) := by decide +kernel
theorem dX12_isSameIn_241 : decode cX12_isSameIn 241 = .ok (.aload_n 1, 1) := by decide +kernel
theorem dX12_isSameIn_242 : decode cX12_isSameIn 242 = .ok (.iload_n 2, 1) := by decide +kernel
theorem dX12_isSameIn_243 : decode cX12_isSameIn 243 = .ok (.invokevirtual 326, 3) := by decide +kernel
theorem dX12_isSameIn_246 : decode cX12_isSameIn 246 = .ok (.aload_n 3, 1) := by decide +kernel
theorem dX12_isSameIn_247 : decode cX12_isSameIn 247 = .ok (.getfield 245, 3) := by decide +kernel
theorem dX12_isSameIn_250 : decode cX12_isSameIn 250 = .ok (.if_icmp .eq 5, 3) := by decide +kernel
theorem dX12_isSameIn_253 : decode cX12_isSameIn 253 = .ok (.iconst 0, 1) := by decide +kernel
theorem dX12_isSameIn_254 : decode cX12_isSameIn 254 = .ok (.ireturn, 1) := by decide +kernel
theorem dX12_isSameIn_255 : decode cX12_isSameIn 255 = .ok (.aload_n 1, 1) := by decide +kernel
theorem dX12_isSameIn_256 : decode cX12_isSameIn 256 = .ok (.iload_n 2, 1) := by decide +kernel
theorem dX12_isSameIn_257 : decode cX12_isSameIn 257 = .ok (.invokevirtual 329, 3) := by decide +kernel
theorem dX12_isSameIn_260 : decode cX12_isSameIn 260 = .ok (.aload_n 3, 1) := by decide +kernel
theorem dX12_isSameIn_261 : decode cX12_isSameIn 261 = .ok (.getfield 52, 3) := by decide +kernel
theorem dX12_isSameIn_264 : decode cX12_isSameIn 264 = .ok (.iconst 2, 1) := by decide +kernel
theorem dX12_isSameIn_265 : decode cX12_isSameIn 265 = .ok (.if_icmp .le 23, 3) := by decide +kernel
theorem dX12_isSameIn_268 : decode cX12_isSameIn 268 = .ok (.aload_n 3, 1) := by decide +kernel
theorem dX12_isSameIn_269 : decode cX12_isSameIn 269 = .ok (.getfield 52, 3) := by decide +kernel
theorem dX12_isSameIn_272 : decode cX12_isSameIn 272 = .ok (.bipush 6, 2) := by decide +kernel
theorem dX12_isSameIn_274 : decode cX12_isSameIn 274 = .ok (.if_icmp .ge 14, 3) := by decide +kernel
theorem dX12_isSameIn_277 : decode cX12_isSameIn 277 = .ok (.aload_n 3, 1) := by decide +kernel
theorem dX12_isSameIn_278 : decode cX12_isSameIn 278 = .ok (.getfield 92, 3) := by decide +kernel
theorem dX12_isSameIn_281 : decode cX12_isSameIn 281 = .ok (.ifnonnull 7, 3) := by decide +kernel
theorem dX12_isSameIn_284 : decode cX12_isSameIn 284 = .ok (.iconst 1, 1) := by decide +kernel
theorem dX12_isSameIn_285 : decode cX12_isSameIn 285 = .ok (.goto 4, 3) := by decide +kernel
theorem dX12_isSameIn_288 : decode cX12_isSameIn 288 = .ok (.iconst 0, 1) := by decide +kernel
theorem dX12_isSameIn_289 : decode cX12_isSameIn 289 = .ok (.if_icmp .ne 28, 3) := by decide +kernel
theorem dX12_isSameIn_292 : decode cX12_isSameIn 292 = .ok (.aload_n 1, 1) := by decide +kernel
theorem dX12_isSameIn_293 : decode cX12_isSameIn 293 = .ok (.iload_n 2, 1) := by decide +kernel
theorem dX12_isSameIn_294 : decode cX12_isSameIn 294 = .ok (.invokevirtual 332, 3) := by decide +kernel
theorem dX12_isSameIn_297 : decode cX12_isSameIn 297 = .ok (.aload_n 3, 1) := by decide +kernel
theorem dX12_isSameIn_298 : decode cX12_isSameIn 298 = .ok (.getfield 52, 3) := by decide +kernel
theorem dX12_isSameIn_301 : decode cX12_isSameIn 301 = .ok (.bipush 6, 2) := by decide +kernel
theorem dX12_isSameIn_303 : decode cX12_isSameIn 303 = .ok (.if_icmp .ne 10, 3) := by decide +kernel
theorem dX12_isSameIn_306 : decode cX12_isSameIn 306 = .ok (.aload_n 3, 1) := by decide +kernel
theorem dX12_isSameIn_307 : decode cX12_isSameIn 307 = .ok (.invokevirtual 335, 3) := by decide +kernel
theorem dX12_isSameIn_310 : decode cX12_isSameIn 310 = .ok (.goto 4, 3) := by decide +kernel
theorem dX12_isSameIn_313 : decode cX12_isSameIn 313 = .ok (.iconst (-1), 1) := by decide +kernel
theorem dX12_isSameIn_314 : decode cX12_isSameIn 314 = .ok (.if_icmp .eq 5, 3) := by decide +kernel
theorem dX12_isSameIn_317 : decode cX12_isSameIn 317 = .ok (.iconst 0, 1) := by decide +kernel
theorem dX12_isSameIn_318 : decode cX12_isSameIn 318 = .ok (.ireturn, 1) := by decide +kernel
theorem dX12_isSameIn_319 : decode cX12_isSameIn 319 = .ok (.iconst 0, 1) := by decide +kernel
theorem dX12_isSameIn_320 : decode cX12_isSameIn 320 = .ok (.istore 5, 2) := by decide +kernel
theorem dX12_isSameIn_322 : decode cX12_isSameIn 322 = .ok (.iload 5, 2) := by decide +kernel
theorem dX12_isSameIn_324 : decode cX12_isSameIn 324 = .ok (.aload_n 3, 1) := by decide +kernel
theorem dX12_isSameIn_325 : decode cX12_isSameIn 325 = .ok (.getfield 242, 3) := by decide +kernel
theorem dX12_isSameIn_328 : decode cX12_isSameIn 328 = .ok (.arraylength, 1) := by decide +kernel
theorem dX12_isSameIn_329 : decode cX12_isSameIn 329 = .ok (.if_icmp .ge 45, 3) := by decide +kernel
theorem dX12_isSameIn_332 : decode cX12_isSameIn 332 = .ok (.aload_n 3, 1) := by decide +kernel
theorem dX12_isSameIn_333 : decode cX12_isSameIn 333 = .ok (.getfield 52, 3) := by decide +kernel
theorem dX12_isSameIn_336 : decode cX12_isSameIn 336 = .ok (.ifCond .ne 13, 3) := by decide +kernel
theorem dX12_isSameIn_339 : decode cX12_isSameIn 339 = .ok (.aload_n 1, 1) := by decide +kernel
theorem dX12_isSameIn_340 : decode cX12_isSameIn 340 = .ok (.iload_n 2, 1) := by decide +kernel
theorem dX12_isSameIn_341 : decode cX12_isSameIn 341 = .ok (.iload 5, 2) := by decide +kernel
theorem dX12_isSameIn_343 : decode cX12_isSameIn 343 = .ok (.invokevirtual 338, 3) := by decide +kernel
theorem dX12_isSameIn_346 : decode cX12_isSameIn 346 = .ok (.goto 10, 3) := by decide +kernel
theorem dX12_isSameIn_349 : decode cX12_isSameIn 349 = .ok (.aload_n 1, 1) := by decide +kernel
theorem dX12_isSameIn_350 : decode cX12_isSameIn 350 = .ok (.iload_n 2, 1) := by decide +kernel
theorem dX12_isSameIn_351 : decode cX12_isSameIn 351 = .ok (.iload 5, 2) := by decide +kernel
theorem dX12_isSameIn_353 : decode cX12_isSameIn 353 = .ok (.invokevirtual 341, 3) := by decide +kernel
theorem dX12_isSameIn_356 : decode cX12_isSameIn 356 = .ok (.aload_n 3, 1) := by decide +kernel
theorem dX12_isSameIn_357 : decode cX12_isSameIn 357 = .ok (.getfield 242, 3) := by decide +kernel
theorem dX12_isSameIn_360 : decode cX12_isSameIn 360 = .ok (.iload 5, 2) := by decide +kernel
theorem dX12_isSameIn_362 : decode cX12_isSameIn 362 = .ok (.iaload, 1) := by decide +kernel
theorem dX12_isSameIn_363 : decode cX12_isSameIn 363 = .ok (.if_icmp .eq 5, 3) := by decide +kernel
theorem dX12_isSameIn_366 : decode cX12_isSameIn 366 = .ok (.iconst 0, 1) := by decide +kernel
theorem dX12_isSameIn_367 : decode cX12_isSameIn 367 = .ok (.ireturn, 1) := by decide +kernel
theorem dX12_isSameIn_368 : decode cX12_isSameIn 368 = .ok (.iinc 5 1, 3) := by decide +kernel
theorem dX12_isSameIn_371 : decode cX12_isSameIn 371 = .ok (.goto (-49), 3) := by decide +kernel
theorem dX12_isSameIn_374 : decode cX12_isSameIn 374 = .ok (.iconst 1, 1) := by decide +kernel
theorem dX12_isSameIn_375 : decode cX12_isSameIn 375 = .ok (.ireturn, 1) := by decide +kernel
theorem dX12_isSame_0 : decode cX12_isSame 0 = .ok (.iconst 0, 1) := by decide +kernel
theorem dX12_isSame_1 : decode cX12_isSame 1 = .ok (.istore_n 2, 1) := by decide +kernel
theorem dX12_isSame_2 : decode cX12_isSame 2 = .ok (.iconst 0, 1) := by decide +kernel
theorem dX12_isSame_3 : decode cX12_isSame 3 = .ok (.istore_n 3, 1) := by decide +kernel
theorem dX12_isSame_4 : decode cX12_isSame 4 = .ok (.iconst 0, 1) := by decide +kernel
theorem dX12_isSame_5 : decode cX12_isSame 5 = .ok (.istore 4, 2) := by decide +kernel
theorem dX12_isSame_7 : decode cX12_isSame 7 = .ok (.iload 4, 2) := by decide +kernel
theorem dX12_isSame_9 : decode cX12_isSame 9 = .ok (.aload_n 0, 1) := by decide +kernel
theorem dX12_isSame_10 : decode cX12_isSame 10 = .ok (.getfield 58, 3) := by decide +kernel
theorem dX12_isSame_13 : decode cX12_isSame 13 = .ok (.if_icmp .ge 51, 3) := by decide +kernel
theorem dX12_isSame_16 : decode cX12_isSame 16 = .ok (.iload_n 2, 1) := by decide +kernel
theorem dX12_isSame_17 : decode cX12_isSame 17 = .ok (.aload_n 0, 1) := by decide +kernel
theorem dX12_isSame_18 : decode cX12_isSame 18 = .ok (.getfield 9, 3) := by decide +kernel
theorem dX12_isSame_21 : decode cX12_isSame 21 = .ok (.iload 4, 2) := by decide +kernel
theorem dX12_isSame_23 : decode cX12_isSame 23 = .ok (.aaload, 1) := by decide +kernel
theorem dX12_isSame_24 : decode cX12_isSame 24 = .ok (.getfield 61, 3) := by decide +kernel
theorem dX12_isSame_27 : decode cX12_isSame 27 = .ok (.ifCond .eq 7, 3) := by decide +kernel
theorem dX12_isSame_30 : decode cX12_isSame 30 = .ok (.iconst 0, 1) := by decide +kernel
theorem dX12_isSame_31 : decode cX12_isSame 31 = .ok (.goto 4, 3) := by decide +kernel
theorem dX12_isSame_34 : decode cX12_isSame 34 = .ok (.iconst 1, 1) := by decide +kernel
theorem dX12_isSame_35 : decode cX12_isSame 35 = .ok (.iadd, 1) := by decide +kernel
theorem dX12_isSame_36 : decode cX12_isSame 36 = .ok (.istore_n 2, 1) := by decide +kernel
theorem dX12_isSame_37 : decode cX12_isSame 37 = .ok (.iload_n 3, 1) := by decide +kernel
theorem dX12_isSame_38 : decode cX12_isSame 38 = .ok (.aload_n 0, 1) := by decide +kernel
theorem dX12_isSame_39 : decode cX12_isSame 39 = .ok (.getfield 9, 3) := by decide +kernel
theorem dX12_isSame_42 : decode cX12_isSame 42 = .ok (.iload 4, 2) := by decide +kernel
theorem dX12_isSame_44 : decode cX12_isSame 44 = .ok (.aaload, 1) := by decide +kernel
theorem dX12_isSame_45 : decode cX12_isSame 45 = .ok (.getfield 245, 3) := by decide +kernel
theorem dX12_isSame_48 : decode cX12_isSame 48 = .ok (.ifCond .eq 7, 3) := by decide +kernel
theorem dX12_isSame_51 : decode cX12_isSame 51 = .ok (.iconst 1, 1) := by decide +kernel
theorem dX12_isSame_52 : decode cX12_isSame 52 = .ok (.goto 4, 3) := by decide +kernel
theorem dX12_isSame_55 : decode cX12_isSame 55 = .ok (.iconst 0, 1) := by decide +kernel
theorem dX12_isSame_56 : decode cX12_isSame 56 = .ok (.iadd, 1) := by decide +kernel
theorem dX12_isSame_57 : decode cX12_isSame 57 = .ok (.istore_n 3, 1) := by decide +kernel
theorem dX12_isSame_58 : decode cX12_isSame 58 = .ok (.iinc 4 1, 3) := by decide +kernel
theorem dX12_isSame_61 : decode cX12_isSame 61 = .ok (.goto (-54), 3) := by decide +kernel
theorem dX12_isSame_64 : decode cX12_isSame 64 = .ok (.aload_n 1, 1) := by decide +kernel
theorem dX12_isSame_65 : decode cX12_isSame 65 = .ok (.invokevirtual 344, 3) := by decide +kernel
theorem dX12_isSame_68 : decode cX12_isSame 68 = .ok (.aload_n 0, 1) := by decide +kernel
theorem dX12_isSame_69 : decode cX12_isSame 69 = .ok (.getfield 45, 3) := by decide +kernel
theorem dX12_isSame_72 : decode cX12_isSame 72 = .ok (.iconst 1, 1) := by decide +kernel
theorem dX12_isSame_73 : decode cX12_isSame 73 = .ok (.iadd, 1) := by decide +kernel
theorem dX12_isSame_74 : decode cX12_isSame 74 = .ok (.if_icmp .ne 74, 3) := by decide +kernel
theorem dX12_isSame_77 : decode cX12_isSame 77 = .ok (.aload_n 1, 1) := by decide +kernel
theorem dX12_isSame_78 : decode cX12_isSame 78 = .ok (.invokevirtual 346, 3) := by decide +kernel
theorem dX12_isSame_81 : decode cX12_isSame 81 = .ok (.aload_n 0, 1) := by decide +kernel
theorem dX12_isSame_82 : decode cX12_isSame 82 = .ok (.getfield 22, 3) := by decide +kernel
theorem dX12_isSame_85 : decode cX12_isSame 85 = .ok (.aload_n 0, 1) := by decide +kernel
theorem dX12_isSame_86 : decode cX12_isSame 86 = .ok (.getfield 45, 3) := by decide +kernel
theorem dX12_isSame_89 : decode cX12_isSame 89 = .ok (.aaload, 1) := by decide +kernel
theorem dX12_isSame_90 : decode cX12_isSame 90 = .ok (.arraylength, 1) := by decide +kernel
theorem dX12_isSame_91 : decode cX12_isSame 91 = .ok (.if_icmp .ne 57, 3) := by decide +kernel
theorem dX12_isSame_94 : decode cX12_isSame 94 = .ok (.aload_n 1, 1) := by decide +kernel
theorem dX12_isSame_95 : decode cX12_isSame 95 = .ok (.invokevirtual 349, 3) := by decide +kernel
theorem dX12_isSame_98 : decode cX12_isSame 98 = .ok (.aload_n 0, 1) := by decide +kernel
theorem dX12_isSame_99 : decode cX12_isSame 99 = .ok (.getfield 216, 3) := by decide +kernel
theorem dX12_isSame_102 : decode cX12_isSame 102 = .ok (.if_icmp .ne 46, 3) := by decide +kernel
theorem dX12_isSame_105 : decode cX12_isSame 105 = .ok (.aload_n 1, 1) := by decide +kernel
theorem dX12_isSame_106 : decode cX12_isSame 106 = .ok (.invokevirtual 351, 3) := by decide +kernel
theorem dX12_isSame_109 : decode cX12_isSame 109 = .ok (.aload_n 0, 1) := by decide +kernel
theorem dX12_isSame_110 : decode cX12_isSame 110 = .ok (.getfield 58, 3) := by decide +kernel
theorem dX12_isSame_113 : decode cX12_isSame 113 = .ok (.if_icmp .ne 35, 3) := by decide +kernel
theorem dX12_isSame_116 : decode cX12_isSame 116 = .ok (.aload_n 1, 1) := by decide +kernel
theorem dX12_isSame_117 : decode cX12_isSame 117 = .ok (.invokevirtual 354, 3) := by decide +kernel
theorem dX12_isSame_120 : decode cX12_isSame 120 = .ok (.iload_n 2, 1) := by decide +kernel
theorem dX12_isSame_121 : decode cX12_isSame 121 = .ok (.if_icmp .ne 27, 3) := by decide +kernel
theorem dX12_isSame_124 : decode cX12_isSame 124 = .ok (.aload_n 1, 1) := by decide +kernel
theorem dX12_isSame_125 : decode cX12_isSame 125 = .ok (.invokevirtual 357, 3) := by decide +kernel
theorem dX12_isSame_128 : decode cX12_isSame 128 = .ok (.aload_n 0, 1) := by decide +kernel
theorem dX12_isSame_129 : decode cX12_isSame 129 = .ok (.iconst 0, 1) := by decide +kernel
theorem dX12_isSame_130 : decode cX12_isSame 130 = .ok (.invokevirtual 137, 3) := by decide +kernel
theorem dX12_isSame_133 : decode cX12_isSame 133 = .ok (.if_icmp .ne 15, 3) := by decide +kernel
theorem dX12_isSame_136 : decode cX12_isSame 136 = .ok (.aload_n 1, 1) := by decide +kernel
theorem dX12_isSame_137 : decode cX12_isSame 137 = .ok (.invokevirtual 360, 3) := by decide +kernel
theorem dX12_isSame_140 : decode cX12_isSame 140 = .ok (.aload_n 0, 1) := by decide +kernel
theorem dX12_isSame_141 : decode cX12_isSame 141 = .ok (.iconst 1, 1) := by decide +kernel
theorem dX12_isSame_142 : decode cX12_isSame 142 = .ok (.invokevirtual 137, 3) := by decide +kernel
theorem dX12_isSame_145 : decode cX12_isSame 145 = .ok (.if_icmp .eq 5, 3) := by decide +kernel
theorem dX12_isSame_148 : decode cX12_isSame 148 = .ok (.iconst 0, 1) := by decide +kernel
theorem dX12_isSame_149 : decode cX12_isSame 149 = .ok (.ireturn, 1) := by decide +kernel
theorem dX12_isSame_150 : decode cX12_isSame 150 = .ok (.aload_n 1, 1) := by decide +kernel
theorem dX12_isSame_151 : decode cX12_isSame 151 = .ok (.invokevirtual 363, 3) := by decide +kernel
theorem dX12_isSame_154 : decode cX12_isSame 154 = .ok (.aload_n 0, 1) := by decide +kernel
theorem dX12_isSame_155 : decode cX12_isSame 155 = .ok (.getfield 179, 3) := by decide +kernel
theorem dX12_isSame_158 : decode cX12_isSame 158 = .ok (.if_icmp .ne 89, 3) := by decide +kernel
theorem dX12_isSame_161 : decode cX12_isSame 161 = .ok (.aload_n 1, 1) := by decide +kernel
theorem dX12_isSame_162 : decode cX12_isSame 162 = .ok (.invokevirtual 365, 3) := by decide +kernel
theorem dX12_isSame_165 : decode cX12_isSame 165 = .ok (.aload_n 0, 1) := by decide +kernel
theorem dX12_isSame_166 : decode cX12_isSame 166 = .ok (.getfield 83, 3) := by decide +kernel
theorem dX12_isSame_169 : decode cX12_isSame 169 = .ok (.if_icmp .ne 78, 3) := by decide +kernel
theorem dX12_isSame_172 : decode cX12_isSame 172 = .ok (.aload_n 1, 1) := by decide +kernel
theorem dX12_isSame_173 : decode cX12_isSame 173 = .ok (.invokevirtual 367, 3) := by decide +kernel
theorem dX12_isSame_176 : decode cX12_isSame 176 = .ok (.aload_n 0, 1) := by decide +kernel
theorem dX12_isSame_177 : decode cX12_isSame 177 = .ok (.getfield 86, 3) := by decide +kernel
theorem dX12_isSame_180 : decode cX12_isSame 180 = .ok (.if_icmp .ne 67, 3) := by decide +kernel
theorem dX12_isSame_183 : decode cX12_isSame 183 = .ok (.aload_n 1, 1) := by decide +kernel
theorem dX12_isSame_184 : decode cX12_isSame 184 = .ok (.invokevirtual 369, 3) := by decide +kernel
theorem dX12_isSame_187 : decode cX12_isSame 187 = .ok (.iload_n 3, 1) := by decide +kernel
theorem dX12_isSame_188 : decode cX12_isSame 188 = .ok (.if_icmp .ne 59, 3) := by decide +kernel
theorem dX12_isSame_191 : decode cX12_isSame 191 = .ok (.aload_n 1, 1) := by decide +kernel
theorem dX12_isSame_192 : decode cX12_isSame 192 = .ok (.invokevirtual 372, 3) := by decide +kernel
theorem dX12_isSame_195 : decode cX12_isSame 195 = .ok (.aload_n 0, 1) := by decide +kernel
theorem dX12_isSame_196 : decode cX12_isSame 196 = .ok (.getfield 160, 3) := by decide +kernel
theorem dX12_isSame_199 : decode cX12_isSame 199 = .ok (.if_icmp .ne 48, 3) := by decide +kernel
theorem dX12_isSame_202 : decode cX12_isSame 202 = .ok (.aload_n 1, 1) := by decide +kernel
theorem dX12_isSame_203 : decode cX12_isSame 203 = .ok (.invokevirtual 375, 3) := by decide +kernel
theorem dX12_isSame_206 : decode cX12_isSame 206 = .ok (.aload_n 0, 1) := by decide +kernel
theorem dX12_isSame_207 : decode cX12_isSame 207 = .ok (.getfield 163, 3) := by decide +kernel
theorem dX12_isSame_210 : decode cX12_isSame 210 = .ok (.if_icmp .ne 37, 3) := by decide +kernel
theorem dX12_isSame_213 : decode cX12_isSame 213 = .ok (.aload_n 1, 1) := by decide +kernel
theorem dX12_isSame_214 : decode cX12_isSame 214 = .ok (.invokevirtual 378, 3) := by decide +kernel
theorem dX12_isSame_217 : decode cX12_isSame 217 = .ok (.aload_n 0, 1) := by decide +kernel
theorem dX12_isSame_218 : decode cX12_isSame 218 = .ok (.getfield 176, 3) := by decide +kernel
theorem dX12_isSame_221 : decode cX12_isSame 221 = .ok (.if_icmp .ne 26, 3) := by decide +kernel
theorem dX12_isSame_224 : decode cX12_isSame 224 = .ok (.aload_n 1, 1) := by decide +kernel
theorem dX12_isSame_225 : decode cX12_isSame 225 = .ok (.invokevirtual 381, 3) := by decide +kernel
theorem dX12_isSame_228 : decode cX12_isSame 228 = .ok (.aload_n 0, 1) := by decide +kernel
theorem dX12_isSame_229 : decode cX12_isSame 229 = .ok (.getfield 35, 3) := by decide +kernel
theorem dX12_isSame_232 : decode cX12_isSame 232 = .ok (.if_icmp .ne 15, 3) := by decide +kernel
theorem dX12_isSame_235 : decode cX12_isSame 235 = .ok (.aload_n 1, 1) := by decide +kernel
theorem dX12_isSame_236 : decode cX12_isSame 236 = .ok (.invokevirtual 383, 3) := by decide +kernel
theorem dX12_isSame_239 : decode cX12_isSame 239 = .ok (.aload_n 0, 1) := by decide +kernel
theorem dX12_isSame_240 : decode cX12_isSame 240 = .ok (.getfield 39, 3) := by decide +kernel
theorem dX12_isSame_243 : decode cX12_isSame 243 = .ok (.arraylength, 1) := by decide +kernel
theorem dX12_isSame_244 : decode cX12_isSame 244 = .ok (.if_icmp .eq 5, 3) := by decide +kernel
theorem dX12_isSame_247 : decode cX12_isSame 247 = .ok (.iconst 0, 1) := by decide +kernel
theorem dX12_isSame_248 : decode cX12_isSame 248 = .ok (.ireturn, 1) := by decide +kernel
theorem dX12_isSame_249 : decode cX12_isSame 249 = .ok (.iconst 0, 1) := by decide +kernel
theorem dX12_isSame_250 : decode cX12_isSame 250 = .ok (.istore 4, 2) := by decide +kernel
theorem dX12_isSame_252 : decode cX12_isSame 252 = .ok (.iload 4, 2) := by decide +kernel
theorem dX12_isSame_254 : decode cX12_isSame 254 = .ok (.aload_n 0, 1) := by decide +kernel
theorem dX12_isSame_255 : decode cX12_isSame 255 = .ok (.getfield 39, 3) := by decide +kernel
theorem dX12_isSame_258 : decode cX12_isSame 258 = .ok (.arraylength, 1) := by decide +kernel
theorem dX12_isSame_259 : decode cX12_isSame 259 = .ok (.if_icmp .ge 27, 3) := by decide +kernel
theorem dX12_isSame_262 : decode cX12_isSame 262 = .ok (.aload_n 1, 1) := by decide +kernel
theorem dX12_isSame_263 : decode cX12_isSame 263 = .ok (.iload 4, 2) := by decide +kernel
theorem dX12_isSame_265 : decode cX12_isSame 265 = .ok (.invokevirtual 386, 3) := by decide +kernel
theorem dX12_isSame_268 : decode cX12_isSame 268 = .ok (.aload_n 0, 1) := by decide +kernel
theorem dX12_isSame_269 : decode cX12_isSame 269 = .ok (.getfield 39, 3) := by decide +kernel
theorem dX12_isSame_272 : decode cX12_isSame 272 = .ok (.iload 4, 2) := by decide +kernel
theorem dX12_isSame_274 : decode cX12_isSame 274 = .ok (.iaload, 1) := by decide +kernel
theorem dX12_isSame_275 : decode cX12_isSame 275 = .ok (.if_icmp .eq 5, 3) := by decide +kernel
theorem dX12_isSame_278 : decode cX12_isSame 278 = .ok (.iconst 0, 1) := by decide +kernel
theorem dX12_isSame_279 : decode cX12_isSame 279 = .ok (.ireturn, 1) := by decide +kernel
theorem dX12_isSame_280 : decode cX12_isSame 280 = .ok (.iinc 4 1, 3) := by decide +kernel
theorem dX12_isSame_283 : decode cX12_isSame 283 = .ok (.goto (-31), 3) := by decide +kernel
theorem dX12_isSame_286 : decode cX12_isSame 286 = .ok (.iconst 0, 1) := by decide +kernel
theorem dX12_isSame_287 : decode cX12_isSame 287 = .ok (.istore 4, 2) := by decide +kernel
theorem dX12_isSame_289 : decode cX12_isSame 289 = .ok (.iload 4, 2) := by decide +kernel
theorem dX12_isSame_291 : decode cX12_isSame 291 = .ok (.aload_n 0, 1) := by decide +kernel
theorem dX12_isSame_292 : decode cX12_isSame 292 = .ok (.getfield 22, 3) := by decide +kernel
theorem dX12_isSame_295 : decode cX12_isSame 295 = .ok (.aload_n 0, 1) := by decide +kernel
theorem dX12_isSame_296 : decode cX12_isSame 296 = .ok (.getfield 45, 3) := by decide +kernel
theorem dX12_isSame_299 : decode cX12_isSame 299 = .ok (.aaload, 1) := by decide +kernel
theorem dX12_isSame_300 : decode cX12_isSame 300 = .ok (.arraylength, 1) := by decide +kernel
theorem dX12_isSame_301 : decode cX12_isSame 301 = .ok (.if_icmp .ge 21, 3) := by decide +kernel
theorem dX12_isSame_304 : decode cX12_isSame 304 = .ok (.aload_n 0, 1) := by decide +kernel
theorem dX12_isSame_305 : decode cX12_isSame 305 = .ok (.aload_n 1, 1) := by decide +kernel
theorem dX12_isSame_306 : decode cX12_isSame 306 = .ok (.iload 4, 2) := by decide +kernel
theorem dX12_isSame_308 : decode cX12_isSame 308 = .ok (.invokevirtual 389, 3) := by decide +kernel
theorem dX12_isSame_311 : decode cX12_isSame 311 = .ok (.ifCond .ne 5, 3) := by decide +kernel
theorem dX12_isSame_314 : decode cX12_isSame 314 = .ok (.iconst 0, 1) := by decide +kernel
theorem dX12_isSame_315 : decode cX12_isSame 315 = .ok (.ireturn, 1) := by decide +kernel
theorem dX12_isSame_316 : decode cX12_isSame 316 = .ok (.iinc 4 1, 3) := by decide +kernel
theorem dX12_isSame_319 : decode cX12_isSame 319 = .ok (.goto (-30), 3) := by decide +kernel
theorem dX12_isSame_322 : decode cX12_isSame 322 = .ok (.iconst 0, 1) := by decide +kernel
theorem dX12_isSame_323 : decode cX12_isSame 323 = .ok (.istore 4, 2) := by decide +kernel
theorem dX12_isSame_325 : decode cX12_isSame 325 = .ok (.iload 4, 2) := by decide +kernel
theorem dX12_isSame_327 : decode cX12_isSame 327 = .ok (.bipush 8, 2) := by decide +kernel
theorem dX12_isSame_329 : decode cX12_isSame 329 = .ok (.if_icmp .ge 30, 3) := by decide +kernel
theorem dX12_isSame_332 : decode cX12_isSame 332 = .ok (.aload_n 1, 1) := by decide +kernel
theorem dX12_isSame_333 : decode cX12_isSame 333 = .ok (.iload 4, 2) := by decide +kernel
theorem dX12_isSame_335 : decode cX12_isSame 335 = .ok (.invokevirtual 393, 3) := by decide +kernel
theorem dX12_isSame_338 : decode cX12_isSame 338 = .ok (.aload_n 0, 1) := by decide +kernel
theorem dX12_isSame_339 : decode cX12_isSame 339 = .ok (.getfield 26, 3) := by decide +kernel
theorem dX12_isSame_342 : decode cX12_isSame 342 = .ok (.iload 4, 2) := by decide +kernel
theorem dX12_isSame_344 : decode cX12_isSame 344 = .ok (.aaload, 1) := by decide +kernel
theorem dX12_isSame_345 : decode cX12_isSame 345 = .ok (.invokestatic 55, 3) := by decide +kernel
theorem dX12_isSame_348 : decode cX12_isSame 348 = .ok (.if_icmp .eq 5, 3) := by decide +kernel
theorem dX12_isSame_351 : decode cX12_isSame 351 = .ok (.iconst 0, 1) := by decide +kernel
theorem dX12_isSame_352 : decode cX12_isSame 352 = .ok (.ireturn, 1) := by decide +kernel
theorem dX12_isSame_353 : decode cX12_isSame 353 = .ok (.iinc 4 1, 3) := by decide +kernel
theorem dX12_isSame_356 : decode cX12_isSame 356 = .ok (.goto (-31), 3) := by decide +kernel
theorem dX12_isSame_359 : decode cX12_isSame 359 = .ok (.iconst 0, 1) := by decide +kernel
theorem dX12_isSame_360 : decode cX12_isSame 360 = .ok (.istore 4, 2) := by decide +kernel
theorem dX12_isSame_362 : decode cX12_isSame 362 = .ok (.iload 4, 2) := by decide +kernel
theorem dX12_isSame_364 : decode cX12_isSame 364 = .ok (.aload_n 0, 1) := by decide +kernel
theorem dX12_isSame_365 : decode cX12_isSame 365 = .ok (.getfield 58, 3) := by decide +kernel
theorem dX12_isSame_368 : decode cX12_isSame 368 = .ok (.if_icmp .ge 28, 3) := by decide +kernel
theorem dX12_isSame_371 : decode cX12_isSame 371 = .ok (.aload_n 1, 1) := by decide +kernel
theorem dX12_isSame_372 : decode cX12_isSame 372 = .ok (.aload_n 0, 1) := by decide +kernel
theorem dX12_isSame_373 : decode cX12_isSame 373 = .ok (.getfield 9, 3) := by decide +kernel
theorem dX12_isSame_376 : decode cX12_isSame 376 = .ok (.iload 4, 2) := by decide +kernel
theorem dX12_isSame_378 : decode cX12_isSame 378 = .ok (.aaload, 1) := by decide +kernel
theorem dX12_isSame_379 : decode cX12_isSame 379 = .ok (.getfield 42, 3) := by decide +kernel
theorem dX12_isSame_382 : decode cX12_isSame 382 = .ok (.invokevirtual 396, 3) := by decide +kernel
theorem dX12_isSame_385 : decode cX12_isSame 385 = .ok (.ifCond .ne 5, 3) := by decide +kernel
theorem dX12_isSame_388 : decode cX12_isSame 388 = .ok (.iconst 0, 1) := by decide +kernel
theorem dX12_isSame_389 : decode cX12_isSame 389 = .ok (.ireturn, 1) := by decide +kernel
theorem dX12_isSame_390 : decode cX12_isSame 390 = .ok (.iinc 4 1, 3) := by decide +kernel
theorem dX12_isSame_393 : decode cX12_isSame 393 = .ok (.goto (-31), 3) := by decide +kernel
theorem dX12_isSame_396 : decode cX12_isSame 396 = .ok (.aload_n 1, 1) := by decide +kernel
theorem dX12_isSame_397 : decode cX12_isSame 397 = .ok (.invokevirtual 399, 3) := by decide +kernel
theorem dX12_isSame_400 : decode cX12_isSame 400 = .ok (.ifCond .ne 52, 3) := by decide +kernel
theorem dX12_isSame_403 : decode cX12_isSame 403 = .ok (.aload_n 0, 1) := by decide +kernel
theorem dX12_isSame_404 : decode cX12_isSame 404 = .ok (.getfield 58, 3) := by decide +kernel
theorem dX12_isSame_407 : decode cX12_isSame 407 = .ok (.ifCond .ne 15, 3) := by decide +kernel
theorem dX12_isSame_410 : decode cX12_isSame 410 = .ok (.aload_n 1, 1) := by decide +kernel
theorem dX12_isSame_411 : decode cX12_isSame 411 = .ok (.invokevirtual 402, 3) := by decide +kernel
theorem dX12_isSame_414 : decode cX12_isSame 414 = .ok (.dconst 0, 1) := by decide +kernel
theorem dX12_isSame_415 : decode cX12_isSame 415 = .ok (.dcmp .l, 1) := by decide +kernel
theorem dX12_isSame_416 : decode cX12_isSame 416 = .ok (.ifCond .ne 36, 3) := by decide +kernel
theorem dX12_isSame_419 : decode cX12_isSame 419 = .ok (.goto 29, 3) := by decide +kernel
theorem dX12_isSame_422 : decode cX12_isSame 422 = .ok (.aload_n 1, 1) := by decide +kernel
theorem dX12_isSame_423 : decode cX12_isSame 423 = .ok (.invokevirtual 402, 3) := by decide +kernel
theorem dX12_isSame_426 : decode cX12_isSame 426 = .ok (.aload_n 0, 1) := by decide +kernel
theorem dX12_isSame_427 : decode cX12_isSame 427 = .ok (.iconst 0, 1) := by decide +kernel
theorem dX12_isSame_428 : decode cX12_isSame 428 = .ok (.invokevirtual 137, 3) := by decide +kernel
theorem dX12_isSame_431 : decode cX12_isSame 431 = .ok (.aload_n 0, 1) := by decide +kernel
theorem dX12_isSame_432 : decode cX12_isSame 432 = .ok (.iconst 1, 1) := by decide +kernel
theorem dX12_isSame_433 : decode cX12_isSame 433 = .ok (.invokevirtual 137, 3) := by decide +kernel
theorem dX12_isSame_436 : decode cX12_isSame 436 = .ok (.iadd, 1) := by decide +kernel
theorem dX12_isSame_437 : decode cX12_isSame 437 = .ok (.i2d, 1) := by decide +kernel
theorem dX12_isSame_438 : decode cX12_isSame 438 = .ok (.aload_n 0, 1) := by decide +kernel
theorem dX12_isSame_439 : decode cX12_isSame 439 = .ok (.getfield 58, 3) := by decide +kernel
theorem dX12_isSame_442 : decode cX12_isSame 442 = .ok (.i2d, 1) := by decide +kernel
theorem dX12_isSame_443 : decode cX12_isSame 443 = .ok (.ddiv, 1) := by decide +kernel
theorem dX12_isSame_444 : decode cX12_isSame 444 = .ok (.dcmp .l, 1) := by decide +kernel
theorem dX12_isSame_445 : decode cX12_isSame 445 = .ok (.ifCond .ne 7, 3) := by decide +kernel
theorem dX12_isSame_448 : decode cX12_isSame 448 = .ok (.iconst 1, 1) := by decide +kernel
theorem dX12_isSame_449 : decode cX12_isSame 449 = .ok (.goto 4, 3) := by decide +kernel
theorem dX12_isSame_452 : decode cX12_isSame 452 = .ok (.iconst 0, 1) := by decide +kernel
theorem dX12_isSame_453 : decode cX12_isSame 453 = .ok (.ireturn, 1) := by decide +kernel
theorem dX13_init_0 : decode cX13_init 0 = .ok (.aload_n 0, 1) := by decide +kernel
theorem dX13_init_1 : decode cX13_init 1 = .ok (.invokespecial 1, 3) := by decide +kernel
theorem dX13_init_4 : decode cX13_init 4 = .ok (.aload_n 0, 1) := by decide +kernel
theorem dX13_init_5 : decode cX13_init 5 = .ok (.iload_n 1, 1) := by decide +kernel
theorem dX13_init_6 : decode cX13_init 6 = .ok (.putfield 7, 3) := by decide +kernel
theorem dX13_init_9 : decode cX13_init 9 = .ok (.aload_n 0, 1) := by decide +kernel
theorem dX13_init_10 : decode cX13_init 10 = .ok (.iload_n 2, 1) := by decide +kernel
theorem dX13_init_11 : decode cX13_init 11 = .ok (.putfield 13, 3) := by decide +kernel
theorem dX13_init_14 : decode cX13_init 14 = .ok (.aload_n 0, 1) := by decide +kernel
theorem dX13_init_15 : decode cX13_init 15 = .ok (.iload_n 3, 1) := by decide +kernel
theorem dX13_init_16 : decode cX13_init 16 = .ok (.anewarray 8, 3) := by decide +kernel
theorem dX13_init_19 : decode cX13_init 19 = .ok (.putfield 16, 3) := by decide +kernel
theorem dX13_init_22 : decode cX13_init 22 = .ok (.aload_n 0, 1) := by decide +kernel
theorem dX13_init_23 : decode cX13_init 23 = .ok (.iload 4, 2) := by decide +kernel
theorem dX13_init_25 : decode cX13_init 25 = .ok (.newarray .int, 2) := by decide +kernel
theorem dX13_init_27 : decode cX13_init 27 = .ok (.putfield 20, 3) := by decide +kernel
theorem dX13_init_30 : decode cX13_init 30 = .ok (.aload_n 0, 1) := by decide +kernel
theorem dX13_init_31 : decode cX13_init 31 = .ok (.iload 5, 2) := by decide +kernel
theorem dX13_init_33 : decode cX13_init 33 = .ok (.anewarray 8, 3) := by decide +kernel
theorem dX13_init_36 : decode cX13_init 36 = .ok (.putfield 24, 3) := by decide +kernel
theorem dX13_init_39 : decode cX13_init 39 = .ok (.aload_n 0, 1) := by decide +kernel
theorem dX13_init_40 : decode cX13_init 40 = .ok (.iload 5, 2) := by decide +kernel
theorem dX13_init_42 : decode cX13_init 42 = .ok (.anewarray 8, 3) := by decide +kernel
theorem dX13_init_45 : decode cX13_init 45 = .ok (.putfield 27, 3) := by decide +kernel
theorem dX13_init_48 : decode cX13_init 48 = .ok (.aload_n 0, 1) := by decide +kernel
theorem dX13_init_49 : decode cX13_init 49 = .ok (.iconst 2, 1) := by decide +kernel
theorem dX13_init_50 : decode cX13_init 50 = .ok (.iload_n 3, 1) := by decide +kernel
theorem dX13_init_51 : decode cX13_init 51 = .ok (.iadd, 1) := by decide +kernel
theorem dX13_init_52 : decode cX13_init 52 = .ok (.iconst 2, 1) := by decide +kernel
theorem dX13_init_53 : decode cX13_init 53 = .ok (.iload 5, 2) := by decide +kernel
theorem dX13_init_55 : decode cX13_init 55 = .ok (.imul, 1) := by decide +kernel
theorem dX13_init_56 : decode cX13_init 56 = .ok (.iadd, 1) := by decide +kernel
theorem dX13_init_57 : decode cX13_init 57 = .ok (.iload_n 1, 1) := by decide +kernel
theorem dX13_init_58 : decode cX13_init 58 = .ok (.iconst 2, 1) := by decide +kernel
theorem dX13_init_59 : decode cX13_init 59 = .ok (.if_icmp .ne 12, 3) := by decide +kernel
theorem dX13_init_62 : decode cX13_init 62 = .ok (.iload 4, 2) := by decide +kernel
theorem dX13_init_64 : decode cX13_init 64 = .ok (.iconst 3, 1) := by decide +kernel
theorem dX13_init_65 : decode cX13_init 65 = .ok (.iadd, 1) := by decide +kernel
theorem dX13_init_66 : decode cX13_init 66 = .ok (.iconst 4, 1) := by decide +kernel
theorem dX13_init_67 : decode cX13_init 67 = .ok (.idiv, 1) := by decide +kernel
theorem dX13_init_68 : decode cX13_init 68 = .ok (.goto 5, 3) := by decide +kernel
theorem dX13_init_71 : decode cX13_init 71 = .ok (.iload 4, 2) := by decide +kernel
theorem dX13_init_73 : decode cX13_init 73 = .ok (.iadd, 1) := by decide +kernel
theorem dX13_init_74 : decode cX13_init 74 = .ok (.iload_n 1, 1) := by decide +kernel
theorem dX13_init_75 : decode cX13_init 75 = .ok (.iconst 2, 1) := by decide +kernel
theorem dX13_init_76 : decode cX13_init 76 = .ok (.if_icmp .le 13, 3) := by decide +kernel
theorem dX13_init_79 : decode cX13_init 79 = .ok (.iload_n 1, 1) := by decide +kernel
theorem dX13_init_80 : decode cX13_init 80 = .ok (.bipush 6, 2) := by decide +kernel
theorem dX13_init_82 : decode cX13_init 82 = .ok (.if_icmp .ge 7, 3) := by decide +kernel
theorem dX13_init_85 : decode cX13_init 85 = .ok (.iconst 1, 1) := by decide +kernel
theorem dX13_init_86 : decode cX13_init 86 = .ok (.goto 4, 3) := by decide +kernel
theorem dX13_init_89 : decode cX13_init 89 = .ok (.iconst 0, 1) := by decide +kernel
theorem dX13_init_90 : decode cX13_init 90 = .ok (.iadd, 1) := by decide +kernel
theorem dX13_init_91 : decode cX13_init 91 = .ok (.putfield 30, 3) := by decide +kernel
theorem dX13_init_94 : decode cX13_init 94 = .ok (.return_, 1) := by decide +kernel
theorem dX13_is_0 : decode cX13_is 0 = .ok (.aload_n 0, 1) := by decide +kernel
theorem dX13_is_1 : decode cX13_is 1 = .ok (.getfield 33, 3) := by decide +kernel
theorem dX13_is_4 : decode cX13_is 4 = .ok (.iload_n 1, 1) := by decide +kernel
theorem dX13_is_5 : decode cX13_is 5 = .ok (.iand, 1) := by decide +kernel
theorem dX13_is_6 : decode cX13_is 6 = .ok (.ifCond .eq 7, 3) := by decide +kernel
theorem dX13_is_9 : decode cX13_is 9 = .ok (.iconst 1, 1) := by decide +kernel
theorem dX13_is_10 : decode cX13_is 10 = .ok (.goto 4, 3) := by decide +kernel
theorem dX13_is_13 : decode cX13_is 13 = .ok (.iconst 0, 1) := by decide +kernel
theorem dX13_is_14 : decode cX13_is 14 = .ok (.ireturn, 1) := by decide +kernel
theorem dX13_entries_0 : decode cX13_entries 0 = .ok (.iconst 0, 1) := by decide +kernel
theorem dX13_entries_1 : decode cX13_entries 1 = .ok (.istore_n 1, 1) := by decide +kernel
theorem dX13_entries_2 : decode cX13_entries 2 = .ok (.aload_n 0, 1) := by decide +kernel
theorem dX13_entries_3 : decode cX13_entries 3 = .ok (.getfield 24, 3) := by decide +kernel
theorem dX13_entries_6 : decode cX13_entries 6 = .ok (.astore_n 2, 1) := by decide +kernel
theorem dX13_entries_7 : decode cX13_entries 7 = .ok (.aload_n 2, 1) := by decide +kernel
theorem dX13_entries_8 : decode cX13_entries 8 = .ok (.arraylength, 1) := by decide +kernel
theorem dX13_entries_9 : decode cX13_entries 9 = .ok (.istore_n 3, 1) := by decide +kernel
theorem dX13_entries_10 : decode cX13_entries 10 = .ok (.iconst 0, 1) := by decide +kernel
theorem dX13_entries_11 : decode cX13_entries 11 = .ok (.istore 4, 2) := by decide +kernel
theorem dX13_entries_13 : decode cX13_entries 13 = .ok (.iload 4, 2) := by decide +kernel
theorem dX13_entries_15 : decode cX13_entries 15 = .ok (.iload_n 3, 1) := by decide +kernel
theorem dX13_entries_16 : decode cX13_entries 16 = .ok (.if_icmp .ge 28, 3) := by decide +kernel
theorem dX13_entries_19 : decode cX13_entries 19 = .ok (.aload_n 2, 1) := by decide +kernel
theorem dX13_entries_20 : decode cX13_entries 20 = .ok (.iload 4, 2) := by decide +kernel
theorem dX13_entries_22 : decode cX13_entries 22 = .ok (.aaload, 1) := by decide +kernel
theorem dX13_entries_23 : decode cX13_entries 23 = .ok (.astore 5, 2) := by decide +kernel
theorem dX13_entries_25 : decode cX13_entries 25 = .ok (.iload_n 1, 1) := by decide +kernel
theorem dX13_entries_26 : decode cX13_entries 26 = .ok (.aload 5, 2) := by decide +kernel
theorem dX13_entries_28 : decode cX13_entries 28 = .ok (.ifnonnull 7, 3) := by decide +kernel
theorem dX13_entries_31 : decode cX13_entries 31 = .ok (.iconst 0, 1) := by decide +kernel
theorem dX13_entries_32 : decode cX13_entries 32 = .ok (.goto 4, 3) := by decide +kernel
theorem dX13_entries_35 : decode cX13_entries 35 = .ok (.iconst 1, 1) := by decide +kernel
theorem dX13_entries_36 : decode cX13_entries 36 = .ok (.iadd, 1) := by decide +kernel
theorem dX13_entries_37 : decode cX13_entries 37 = .ok (.istore_n 1, 1) := by decide +kernel
theorem dX13_entries_38 : decode cX13_entries 38 = .ok (.iinc 4 1, 3) := by decide +kernel
theorem dX13_entries_41 : decode cX13_entries 41 = .ok (.goto (-28), 3) := by decide +kernel
theorem dX13_entries_44 : decode cX13_entries 44 = .ok (.iload_n 1, 1) := by decide +kernel
theorem dX13_entries_45 : decode cX13_entries 45 = .ok (.ireturn, 1) := by decide +kernel
theorem dX13_entry_0 : decode cX13_entry 0 = .ok (.iconst 0, 1) := by decide +kernel
theorem dX13_entry_1 : decode cX13_entry 1 = .ok (.istore_n 2, 1) := by decide +kernel
theorem dX13_entry_2 : decode cX13_entry 2 = .ok (.iload_n 2, 1) := by decide +kernel
theorem dX13_entry_3 : decode cX13_entry 3 = .ok (.aload_n 0, 1) := by decide +kernel
theorem dX13_entry_4 : decode cX13_entry 4 = .ok (.getfield 24, 3) := by decide +kernel
theorem dX13_entry_7 : decode cX13_entry 7 = .ok (.arraylength, 1) := by decide +kernel
theorem dX13_entry_8 : decode cX13_entry 8 = .ok (.if_icmp .ge 21, 3) := by decide +kernel
theorem dX13_entry_11 : decode cX13_entry 11 = .ok (.aload_n 0, 1) := by decide +kernel
theorem dX13_entry_12 : decode cX13_entry 12 = .ok (.getfield 24, 3) := by decide +kernel
theorem dX13_entry_15 : decode cX13_entry 15 = .ok (.iload_n 2, 1) := by decide +kernel
theorem dX13_entry_16 : decode cX13_entry 16 = .ok (.aaload, 1) := by decide +kernel
theorem dX13_entry_17 : decode cX13_entry 17 = .ok (.aload_n 1, 1) := by decide +kernel
theorem dX13_entry_18 : decode cX13_entry 18 = .ok (.if_acmp .ne 5, 3) := by decide +kernel
theorem dX13_entry_21 : decode cX13_entry 21 = .ok (.iload_n 2, 1) := by decide +kernel
theorem dX13_entry_22 : decode cX13_entry 22 = .ok (.ireturn, 1) := by decide +kernel
theorem dX13_entry_23 : decode cX13_entry 23 = .ok (.iinc 2 1, 3) := by decide +kernel
theorem dX13_entry_26 : decode cX13_entry 26 = .ok (.goto (-24), 3) := by decide +kernel
theorem dX13_entry_29 : decode cX13_entry 29 = .ok (.iconst (-1), 1) := by decide +kernel
theorem dX13_entry_30 : decode cX13_entry 30 = .ok (.ireturn, 1) := by decide +kernel
theorem dX13_hasBytes_0 : decode cX13_hasBytes 0 = .ok (.aload_n 0, 1) := by decide +kernel
theorem dX13_hasBytes_1 : decode cX13_hasBytes 1 = .ok (.getfield 7, 3) := by decide +kernel
theorem dX13_hasBytes_4 : decode cX13_hasBytes 4 = .ok (.iconst 2, 1) := by decide +kernel
theorem dX13_hasBytes_5 : decode cX13_hasBytes 5 = .ok (.if_icmp .ne 16, 3) := by decide +kernel
theorem dX13_hasBytes_8 : decode cX13_hasBytes 8 = .ok (.aload_n 0, 1) := by decide +kernel
theorem dX13_hasBytes_9 : decode cX13_hasBytes 9 = .ok (.getfield 20, 3) := by decide +kernel
theorem dX13_hasBytes_12 : decode cX13_hasBytes 12 = .ok (.arraylength, 1) := by decide +kernel
theorem dX13_hasBytes_13 : decode cX13_hasBytes 13 = .ok (.iload_n 3, 1) := by decide +kernel
theorem dX13_hasBytes_14 : decode cX13_hasBytes 14 = .ok (.if_icmp .ne 7, 3) := by decide +kernel
theorem dX13_hasBytes_17 : decode cX13_hasBytes 17 = .ok (.iconst 1, 1) := by decide +kernel
theorem dX13_hasBytes_18 : decode cX13_hasBytes 18 = .ok (.goto 4, 3) := by decide +kernel
theorem dX13_hasBytes_21 : decode cX13_hasBytes 21 = .ok (.iconst 0, 1) := by decide +kernel
theorem dX13_hasBytes_22 : decode cX13_hasBytes 22 = .ok (.istore 4, 2) := by decide +kernel
theorem dX13_hasBytes_24 : decode cX13_hasBytes 24 = .ok (.iconst 0, 1) := by decide +kernel
theorem dX13_hasBytes_25 : decode cX13_hasBytes 25 = .ok (.istore 5, 2) := by decide +kernel
theorem dX13_hasBytes_27 : decode cX13_hasBytes 27 = .ok (.iload 4, 2) := by decide +kernel
theorem dX13_hasBytes_29 : decode cX13_hasBytes 29 = .ok (.ifCond .eq 38, 3) := by decide +kernel
theorem dX13_hasBytes_32 : decode cX13_hasBytes 32 = .ok (.iload 5, 2) := by decide +kernel
theorem dX13_hasBytes_34 : decode cX13_hasBytes 34 = .ok (.iload_n 3, 1) := by decide +kernel
theorem dX13_hasBytes_35 : decode cX13_hasBytes 35 = .ok (.if_icmp .ge 32, 3) := by decide +kernel
theorem dX13_hasBytes_38 : decode cX13_hasBytes 38 = .ok (.aload_n 0, 1) := by decide +kernel
theorem dX13_hasBytes_39 : decode cX13_hasBytes 39 = .ok (.getfield 20, 3) := by decide +kernel
theorem dX13_hasBytes_42 : decode cX13_hasBytes 42 = .ok (.iload 5, 2) := by decide +kernel
theorem dX13_hasBytes_44 : decode cX13_hasBytes 44 = .ok (.iaload, 1) := by decide +kernel
theorem dX13_hasBytes_45 : decode cX13_hasBytes 45 = .ok (.aload_n 1, 1) := by decide +kernel
theorem dX13_hasBytes_46 : decode cX13_hasBytes 46 = .ok (.iload_n 2, 1) := by decide +kernel
theorem dX13_hasBytes_47 : decode cX13_hasBytes 47 = .ok (.iload 5, 2) := by decide +kernel
theorem dX13_hasBytes_49 : decode cX13_hasBytes 49 = .ok (.iadd, 1) := by decide +kernel
theorem dX13_hasBytes_50 : decode cX13_hasBytes 50 = .ok (.iaload, 1) := by decide +kernel
theorem dX13_hasBytes_51 : decode cX13_hasBytes 51 = .ok (.if_icmp .ne 7, 3) := by decide +kernel
theorem dX13_hasBytes_54 : decode cX13_hasBytes 54 = .ok (.iconst 1, 1) := by decide +kernel
theorem dX13_hasBytes_55 : decode cX13_hasBytes 55 = .ok (.goto 4, 3) := by decide +kernel
theorem dX13_hasBytes_58 : decode cX13_hasBytes 58 = .ok (.iconst 0, 1) := by decide +kernel
theorem dX13_hasBytes_59 : decode cX13_hasBytes 59 = .ok (.istore 4, 2) := by decide +kernel
theorem dX13_hasBytes_61 : decode cX13_hasBytes 61 = .ok (.iinc 5 1, 3) := by decide +kernel
theorem dX13_hasBytes_64 : decode cX13_hasBytes 64 = .ok (.goto (-37), 3) := by decide +kernel
theorem dX13_hasBytes_67 : decode cX13_hasBytes 67 = .ok (.iload 4, 2) := by decide +kernel
theorem dX13_hasBytes_69 : decode cX13_hasBytes 69 = .ok (.ireturn, 1) := by decide +kernel
