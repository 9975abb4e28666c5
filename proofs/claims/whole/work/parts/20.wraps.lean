theorem dL_defineKind_0 : decode cL_defineKind 0 = .ok (.aload 5, 2) := by decide +kernel
theorem dL_defineKind_2 : decode cL_defineKind 2 = .ok (.iconst 0, 1) := by decide +kernel
theorem dL_defineKind_3 : decode cL_defineKind 3 = .ok (.aload_n 0, 1) := by decide +kernel
theorem dL_defineKind_4 : decode cL_defineKind 4 = .ok (.iload_n 1, 1) := by decide +kernel
theorem dL_defineKind_5 : decode cL_defineKind 5 = .ok (.iload_n 2, 1) := by decide +kernel
theorem dL_defineKind_6 : decode cL_defineKind 6 = .ok (.iload_n 3, 1) := by decide +kernel
theorem dL_defineKind_7 : decode cL_defineKind 7 = .ok (.iload 4, 2) := by decide +kernel
theorem dL_defineKind_9 : decode cL_defineKind 9 = .ok (.invokevirtual 7, 3) := by decide +kernel
theorem dL_defineKind_12 : decode cL_defineKind 12 = .ok (.i2l, 1) := by decide +kernel
theorem dL_defineKind_13 : decode cL_defineKind 13 = .ok (.lastore, 1) := by decide +kernel
theorem dL_defineKind_14 : decode cL_defineKind 14 = .ok (.goto 15, 3) := by decide +kernel
theorem dL_defineKind_17 : decode cL_defineKind 17 = .ok (.astore 6, 2) := by decide +kernel
theorem dL_defineKind_19 : decode cL_defineKind 19 = .ok (.iconst 1, 1) := by decide +kernel
theorem dL_defineKind_20 : decode cL_defineKind 20 = .ok (.ireturn, 1) := by decide +kernel
theorem dL_defineKind_21 : decode cL_defineKind 21 = .ok (.astore 6, 2) := by decide +kernel
theorem dL_defineKind_23 : decode cL_defineKind 23 = .ok (.iconst 2, 1) := by decide +kernel
theorem dL_defineKind_24 : decode cL_defineKind 24 = .ok (.ireturn, 1) := by decide +kernel
theorem dL_defineKind_25 : decode cL_defineKind 25 = .ok (.astore 6, 2) := by decide +kernel
theorem dL_defineKind_27 : decode cL_defineKind 27 = .ok (.iconst 3, 1) := by decide +kernel
theorem dL_defineKind_28 : decode cL_defineKind 28 = .ok (.ireturn, 1) := by decide +kernel
theorem dL_defineKind_29 : decode cL_defineKind 29 = .ok (.iconst 0, 1) := by decide +kernel
theorem dL_defineKind_30 : decode cL_defineKind 30 = .ok (.ireturn, 1) := by decide +kernel
theorem dL_push_0 : decode cL_push 0 = .ok (.aload_n 2, 1) := by decide +kernel
theorem dL_push_1 : decode cL_push 1 = .ok (.iconst 0, 1) := by decide +kernel
theorem dL_push_2 : decode cL_push 2 = .ok (.aload_n 0, 1) := by decide +kernel
theorem dL_push_3 : decode cL_push 3 = .ok (.iload_n 1, 1) := by decide +kernel
theorem dL_push_4 : decode cL_push 4 = .ok (.invokevirtual 19, 3) := by decide +kernel
theorem dL_push_7 : decode cL_push 7 = .ok (.i2l, 1) := by decide +kernel
theorem dL_push_8 : decode cL_push 8 = .ok (.lastore, 1) := by decide +kernel
theorem dL_push_9 : decode cL_push 9 = .ok (.goto 9, 3) := by decide +kernel
theorem dL_push_12 : decode cL_push 12 = .ok (.astore_n 3, 1) := by decide +kernel
theorem dL_push_13 : decode cL_push 13 = .ok (.iconst 1, 1) := by decide +kernel
theorem dL_push_14 : decode cL_push 14 = .ok (.ireturn, 1) := by decide +kernel
theorem dL_push_15 : decode cL_push 15 = .ok (.astore_n 3, 1) := by decide +kernel
theorem dL_push_16 : decode cL_push 16 = .ok (.iconst 2, 1) := by decide +kernel
theorem dL_push_17 : decode cL_push 17 = .ok (.ireturn, 1) := by decide +kernel
theorem dL_push_18 : decode cL_push 18 = .ok (.iconst 0, 1) := by decide +kernel
theorem dL_push_19 : decode cL_push 19 = .ok (.ireturn, 1) := by decide +kernel
theorem dL_pop_0 : decode cL_pop 0 = .ok (.aload_n 2, 1) := by decide +kernel
theorem dL_pop_1 : decode cL_pop 1 = .ok (.iconst 0, 1) := by decide +kernel
theorem dL_pop_2 : decode cL_pop 2 = .ok (.aload_n 0, 1) := by decide +kernel
theorem dL_pop_3 : decode cL_pop 3 = .ok (.iload_n 1, 1) := by decide +kernel
theorem dL_pop_4 : decode cL_pop 4 = .ok (.invokevirtual 23, 3) := by decide +kernel
theorem dL_pop_7 : decode cL_pop 7 = .ok (.i2l, 1) := by decide +kernel
theorem dL_pop_8 : decode cL_pop 8 = .ok (.lastore, 1) := by decide +kernel
theorem dL_pop_9 : decode cL_pop 9 = .ok (.goto 9, 3) := by decide +kernel
theorem dL_pop_12 : decode cL_pop 12 = .ok (.astore_n 3, 1) := by decide +kernel
theorem dL_pop_13 : decode cL_pop 13 = .ok (.iconst 1, 1) := by decide +kernel
theorem dL_pop_14 : decode cL_pop 14 = .ok (.ireturn, 1) := by decide +kernel
theorem dL_pop_15 : decode cL_pop 15 = .ok (.astore_n 3, 1) := by decide +kernel
theorem dL_pop_16 : decode cL_pop 16 = .ok (.iconst 2, 1) := by decide +kernel
theorem dL_pop_17 : decode cL_pop 17 = .ok (.ireturn, 1) := by decide +kernel
theorem dL_pop_18 : decode cL_pop 18 = .ok (.iconst 0, 1) := by decide +kernel
theorem dL_pop_19 : decode cL_pop 19 = .ok (.ireturn, 1) := by decide +kernel
theorem dL_assign_0 : decode cL_assign 0 = .ok (.aload_n 3, 1) := by decide +kernel
theorem dL_assign_1 : decode cL_assign 1 = .ok (.iconst 0, 1) := by decide +kernel
theorem dL_assign_2 : decode cL_assign 2 = .ok (.aload_n 0, 1) := by decide +kernel
theorem dL_assign_3 : decode cL_assign 3 = .ok (.iload_n 1, 1) := by decide +kernel
theorem dL_assign_4 : decode cL_assign 4 = .ok (.iload_n 2, 1) := by decide +kernel
theorem dL_assign_5 : decode cL_assign 5 = .ok (.invokevirtual 26, 3) := by decide +kernel
theorem dL_assign_8 : decode cL_assign 8 = .ok (.i2l, 1) := by decide +kernel
theorem dL_assign_9 : decode cL_assign 9 = .ok (.lastore, 1) := by decide +kernel
theorem dL_assign_10 : decode cL_assign 10 = .ok (.goto 7, 3) := by decide +kernel
theorem dL_assign_13 : decode cL_assign 13 = .ok (.astore 4, 2) := by decide +kernel
theorem dL_assign_15 : decode cL_assign 15 = .ok (.iconst 1, 1) := by decide +kernel
theorem dL_assign_16 : decode cL_assign 16 = .ok (.ireturn, 1) := by decide +kernel
theorem dL_assign_17 : decode cL_assign 17 = .ok (.iconst 0, 1) := by decide +kernel
theorem dL_assign_18 : decode cL_assign 18 = .ok (.ireturn, 1) := by decide +kernel
theorem dL_clear_0 : decode cL_clear 0 = .ok (.aload_n 2, 1) := by decide +kernel
theorem dL_clear_1 : decode cL_clear 1 = .ok (.iconst 0, 1) := by decide +kernel
theorem dL_clear_2 : decode cL_clear 2 = .ok (.aload_n 0, 1) := by decide +kernel
theorem dL_clear_3 : decode cL_clear 3 = .ok (.iload_n 1, 1) := by decide +kernel
theorem dL_clear_4 : decode cL_clear 4 = .ok (.invokevirtual 30, 3) := by decide +kernel
theorem dL_clear_7 : decode cL_clear 7 = .ok (.i2l, 1) := by decide +kernel
theorem dL_clear_8 : decode cL_clear 8 = .ok (.lastore, 1) := by decide +kernel
theorem dL_clear_9 : decode cL_clear 9 = .ok (.goto 6, 3) := by decide +kernel
theorem dL_clear_12 : decode cL_clear 12 = .ok (.astore_n 3, 1) := by decide +kernel
theorem dL_clear_13 : decode cL_clear 13 = .ok (.iconst 1, 1) := by decide +kernel
theorem dL_clear_14 : decode cL_clear 14 = .ok (.ireturn, 1) := by decide +kernel
theorem dL_clear_15 : decode cL_clear 15 = .ok (.iconst 0, 1) := by decide +kernel
theorem dL_clear_16 : decode cL_clear 16 = .ok (.ireturn, 1) := by decide +kernel
theorem dL_toGlobal_0 : decode cL_toGlobal 0 = .ok (.aload_n 3, 1) := by decide +kernel
theorem dL_toGlobal_1 : decode cL_toGlobal 1 = .ok (.iconst 0, 1) := by decide +kernel
theorem dL_toGlobal_2 : decode cL_toGlobal 2 = .ok (.aload_n 0, 1) := by decide +kernel
theorem dL_toGlobal_3 : decode cL_toGlobal 3 = .ok (.iload_n 1, 1) := by decide +kernel
theorem dL_toGlobal_4 : decode cL_toGlobal 4 = .ok (.iload_n 2, 1) := by decide +kernel
theorem dL_toGlobal_5 : decode cL_toGlobal 5 = .ok (.invokevirtual 33, 3) := by decide +kernel
theorem dL_toGlobal_8 : decode cL_toGlobal 8 = .ok (.i2l, 1) := by decide +kernel
theorem dL_toGlobal_9 : decode cL_toGlobal 9 = .ok (.lastore, 1) := by decide +kernel
theorem dL_toGlobal_10 : decode cL_toGlobal 10 = .ok (.goto 7, 3) := by decide +kernel
theorem dL_toGlobal_13 : decode cL_toGlobal 13 = .ok (.astore 4, 2) := by decide +kernel
theorem dL_toGlobal_15 : decode cL_toGlobal 15 = .ok (.iconst 1, 1) := by decide +kernel
theorem dL_toGlobal_16 : decode cL_toGlobal 16 = .ok (.ireturn, 1) := by decide +kernel
theorem dL_toGlobal_17 : decode cL_toGlobal 17 = .ok (.iconst 0, 1) := by decide +kernel
theorem dL_toGlobal_18 : decode cL_toGlobal 18 = .ok (.ireturn, 1) := by decide +kernel
theorem dL_fromGlobal_0 : decode cL_fromGlobal 0 = .ok (.aload_n 3, 1) := by decide +kernel
theorem dL_fromGlobal_1 : decode cL_fromGlobal 1 = .ok (.iconst 0, 1) := by decide +kernel
theorem dL_fromGlobal_2 : decode cL_fromGlobal 2 = .ok (.aload_n 0, 1) := by decide +kernel
theorem dL_fromGlobal_3 : decode cL_fromGlobal 3 = .ok (.iload_n 1, 1) := by decide +kernel
theorem dL_fromGlobal_4 : decode cL_fromGlobal 4 = .ok (.iload_n 2, 1) := by decide +kernel
theorem dL_fromGlobal_5 : decode cL_fromGlobal 5 = .ok (.invokevirtual 36, 3) := by decide +kernel
theorem dL_fromGlobal_8 : decode cL_fromGlobal 8 = .ok (.i2l, 1) := by decide +kernel
theorem dL_fromGlobal_9 : decode cL_fromGlobal 9 = .ok (.lastore, 1) := by decide +kernel
theorem dL_fromGlobal_10 : decode cL_fromGlobal 10 = .ok (.goto 7, 3) := by decide +kernel
theorem dL_fromGlobal_13 : decode cL_fromGlobal 13 = .ok (.astore 4, 2) := by decide +kernel
theorem dL_fromGlobal_15 : decode cL_fromGlobal 15 = .ok (.iconst 1, 1) := by decide +kernel
theorem dL_fromGlobal_16 : decode cL_fromGlobal 16 = .ok (.ireturn, 1) := by decide +kernel
theorem dL_fromGlobal_17 : decode cL_fromGlobal 17 = .ok (.iconst 0, 1) := by decide +kernel
theorem dL_fromGlobal_18 : decode cL_fromGlobal 18 = .ok (.ireturn, 1) := by decide +kernel
theorem dL_newObject_0 : decode cL_newObject 0 = .ok (.aload_n 3, 1) := by decide +kernel
theorem dL_newObject_1 : decode cL_newObject 1 = .ok (.iconst 0, 1) := by decide +kernel
theorem dL_newObject_2 : decode cL_newObject 2 = .ok (.aload_n 0, 1) := by decide +kernel
theorem dL_newObject_3 : decode cL_newObject 3 = .ok (.iload_n 1, 1) := by decide +kernel
theorem dL_newObject_4 : decode cL_newObject 4 = .ok (.iload_n 2, 1) := by decide +kernel
theorem dL_newObject_5 : decode cL_newObject 5 = .ok (.invokevirtual 39, 3) := by decide +kernel
theorem dL_newObject_8 : decode cL_newObject 8 = .ok (.i2l, 1) := by decide +kernel
theorem dL_newObject_9 : decode cL_newObject 9 = .ok (.lastore, 1) := by decide +kernel
theorem dL_newObject_10 : decode cL_newObject 10 = .ok (.goto 11, 3) := by decide +kernel
theorem dL_newObject_13 : decode cL_newObject 13 = .ok (.astore 4, 2) := by decide +kernel
theorem dL_newObject_15 : decode cL_newObject 15 = .ok (.iconst 1, 1) := by decide +kernel
theorem dL_newObject_16 : decode cL_newObject 16 = .ok (.ireturn, 1) := by decide +kernel
theorem dL_newObject_17 : decode cL_newObject 17 = .ok (.astore 4, 2) := by decide +kernel
theorem dL_newObject_19 : decode cL_newObject 19 = .ok (.iconst 2, 1) := by decide +kernel
theorem dL_newObject_20 : decode cL_newObject 20 = .ok (.ireturn, 1) := by decide +kernel
theorem dL_newObject_21 : decode cL_newObject 21 = .ok (.iconst 0, 1) := by decide +kernel
theorem dL_newObject_22 : decode cL_newObject 22 = .ok (.ireturn, 1) := by decide +kernel
theorem dL_newRow_0 : decode cL_newRow 0 = .ok (.aload_n 3, 1) := by decide +kernel
theorem dL_newRow_1 : decode cL_newRow 1 = .ok (.iconst 0, 1) := by decide +kernel
theorem dL_newRow_2 : decode cL_newRow 2 = .ok (.aload_n 0, 1) := by decide +kernel
theorem dL_newRow_3 : decode cL_newRow 3 = .ok (.iload_n 1, 1) := by decide +kernel
theorem dL_newRow_4 : decode cL_newRow 4 = .ok (.iload_n 2, 1) := by decide +kernel
theorem dL_newRow_5 : decode cL_newRow 5 = .ok (.invokevirtual 42, 3) := by decide +kernel
theorem dL_newRow_8 : decode cL_newRow 8 = .ok (.i2l, 1) := by decide +kernel
theorem dL_newRow_9 : decode cL_newRow 9 = .ok (.lastore, 1) := by decide +kernel
theorem dL_newRow_10 : decode cL_newRow 10 = .ok (.goto 11, 3) := by decide +kernel
theorem dL_newRow_13 : decode cL_newRow 13 = .ok (.astore 4, 2) := by decide +kernel
theorem dL_newRow_15 : decode cL_newRow 15 = .ok (.iconst 1, 1) := by decide +kernel
theorem dL_newRow_16 : decode cL_newRow 16 = .ok (.ireturn, 1) := by decide +kernel
theorem dL_newRow_17 : decode cL_newRow 17 = .ok (.astore 4, 2) := by decide +kernel
theorem dL_newRow_19 : decode cL_newRow 19 = .ok (.iconst 2, 1) := by decide +kernel
theorem dL_newRow_20 : decode cL_newRow 20 = .ok (.ireturn, 1) := by decide +kernel
theorem dL_newRow_21 : decode cL_newRow 21 = .ok (.iconst 0, 1) := by decide +kernel
theorem dL_newRow_22 : decode cL_newRow 22 = .ok (.ireturn, 1) := by decide +kernel
theorem dL_newText_0 : decode cL_newText 0 = .ok (.aload_n 3, 1) := by decide +kernel
theorem dL_newText_1 : decode cL_newText 1 = .ok (.iconst 0, 1) := by decide +kernel
theorem dL_newText_2 : decode cL_newText 2 = .ok (.aload_n 0, 1) := by decide +kernel
theorem dL_newText_3 : decode cL_newText 3 = .ok (.iload_n 1, 1) := by decide +kernel
theorem dL_newText_4 : decode cL_newText 4 = .ok (.iload_n 2, 1) := by decide +kernel
theorem dL_newText_5 : decode cL_newText 5 = .ok (.invokevirtual 45, 3) := by decide +kernel
theorem dL_newText_8 : decode cL_newText 8 = .ok (.i2l, 1) := by decide +kernel
theorem dL_newText_9 : decode cL_newText 9 = .ok (.lastore, 1) := by decide +kernel
theorem dL_newText_10 : decode cL_newText 10 = .ok (.goto 11, 3) := by decide +kernel
theorem dL_newText_13 : decode cL_newText 13 = .ok (.astore 4, 2) := by decide +kernel
theorem dL_newText_15 : decode cL_newText 15 = .ok (.iconst 1, 1) := by decide +kernel
theorem dL_newText_16 : decode cL_newText 16 = .ok (.ireturn, 1) := by decide +kernel
theorem dL_newText_17 : decode cL_newText 17 = .ok (.astore 4, 2) := by decide +kernel
theorem dL_newText_19 : decode cL_newText 19 = .ok (.iconst 2, 1) := by decide +kernel
theorem dL_newText_20 : decode cL_newText 20 = .ok (.ireturn, 1) := by decide +kernel
theorem dL_newText_21 : decode cL_newText 21 = .ok (.iconst 0, 1) := by decide +kernel
theorem dL_newText_22 : decode cL_newText 22 = .ok (.ireturn, 1) := by decide +kernel
theorem dL_newWeak_0 : decode cL_newWeak 0 = .ok (.aload 4, 2) := by decide +kernel
theorem dL_newWeak_2 : decode cL_newWeak 2 = .ok (.iconst 0, 1) := by decide +kernel
theorem dL_newWeak_3 : decode cL_newWeak 3 = .ok (.aload_n 0, 1) := by decide +kernel
theorem dL_newWeak_4 : decode cL_newWeak 4 = .ok (.iload_n 1, 1) := by decide +kernel
theorem dL_newWeak_5 : decode cL_newWeak 5 = .ok (.iload_n 2, 1) := by decide +kernel
theorem dL_newWeak_6 : decode cL_newWeak 6 = .ok (.iload_n 3, 1) := by decide +kernel
theorem dL_newWeak_7 : decode cL_newWeak 7 = .ok (.invokevirtual 48, 3) := by decide +kernel
theorem dL_newWeak_10 : decode cL_newWeak 10 = .ok (.i2l, 1) := by decide +kernel
theorem dL_newWeak_11 : decode cL_newWeak 11 = .ok (.lastore, 1) := by decide +kernel
theorem dL_newWeak_12 : decode cL_newWeak 12 = .ok (.goto 11, 3) := by decide +kernel
theorem dL_newWeak_15 : decode cL_newWeak 15 = .ok (.astore 5, 2) := by decide +kernel
theorem dL_newWeak_17 : decode cL_newWeak 17 = .ok (.iconst 1, 1) := by decide +kernel
theorem dL_newWeak_18 : decode cL_newWeak 18 = .ok (.ireturn, 1) := by decide +kernel
theorem dL_newWeak_19 : decode cL_newWeak 19 = .ok (.astore 5, 2) := by decide +kernel
theorem dL_newWeak_21 : decode cL_newWeak 21 = .ok (.iconst 2, 1) := by decide +kernel
theorem dL_newWeak_22 : decode cL_newWeak 22 = .ok (.ireturn, 1) := by decide +kernel
theorem dL_newWeak_23 : decode cL_newWeak 23 = .ok (.iconst 0, 1) := by decide +kernel
theorem dL_newWeak_24 : decode cL_newWeak 24 = .ok (.ireturn, 1) := by decide +kernel
theorem dL_newSoft_0 : decode cL_newSoft 0 = .ok (.aload 4, 2) := by decide +kernel
theorem dL_newSoft_2 : decode cL_newSoft 2 = .ok (.iconst 0, 1) := by decide +kernel
theorem dL_newSoft_3 : decode cL_newSoft 3 = .ok (.aload_n 0, 1) := by decide +kernel
theorem dL_newSoft_4 : decode cL_newSoft 4 = .ok (.iload_n 1, 1) := by decide +kernel
theorem dL_newSoft_5 : decode cL_newSoft 5 = .ok (.iload_n 2, 1) := by decide +kernel
theorem dL_newSoft_6 : decode cL_newSoft 6 = .ok (.iload_n 3, 1) := by decide +kernel
theorem dL_newSoft_7 : decode cL_newSoft 7 = .ok (.invokevirtual 52, 3) := by decide +kernel
theorem dL_newSoft_10 : decode cL_newSoft 10 = .ok (.i2l, 1) := by decide +kernel
theorem dL_newSoft_11 : decode cL_newSoft 11 = .ok (.lastore, 1) := by decide +kernel
theorem dL_newSoft_12 : decode cL_newSoft 12 = .ok (.goto 11, 3) := by decide +kernel
theorem dL_newSoft_15 : decode cL_newSoft 15 = .ok (.astore 5, 2) := by decide +kernel
theorem dL_newSoft_17 : decode cL_newSoft 17 = .ok (.iconst 1, 1) := by decide +kernel
theorem dL_newSoft_18 : decode cL_newSoft 18 = .ok (.ireturn, 1) := by decide +kernel
theorem dL_newSoft_19 : decode cL_newSoft 19 = .ok (.astore 5, 2) := by decide +kernel
theorem dL_newSoft_21 : decode cL_newSoft 21 = .ok (.iconst 2, 1) := by decide +kernel
theorem dL_newSoft_22 : decode cL_newSoft 22 = .ok (.ireturn, 1) := by decide +kernel
theorem dL_newSoft_23 : decode cL_newSoft 23 = .ok (.iconst 0, 1) := by decide +kernel
theorem dL_newSoft_24 : decode cL_newSoft 24 = .ok (.ireturn, 1) := by decide +kernel
theorem dL_newPhantom_0 : decode cL_newPhantom 0 = .ok (.aload_n 3, 1) := by decide +kernel
theorem dL_newPhantom_1 : decode cL_newPhantom 1 = .ok (.iconst 0, 1) := by decide +kernel
theorem dL_newPhantom_2 : decode cL_newPhantom 2 = .ok (.aload_n 0, 1) := by decide +kernel
theorem dL_newPhantom_3 : decode cL_newPhantom 3 = .ok (.iload_n 1, 1) := by decide +kernel
theorem dL_newPhantom_4 : decode cL_newPhantom 4 = .ok (.iload_n 2, 1) := by decide +kernel
theorem dL_newPhantom_5 : decode cL_newPhantom 5 = .ok (.invokevirtual 55, 3) := by decide +kernel
theorem dL_newPhantom_8 : decode cL_newPhantom 8 = .ok (.i2l, 1) := by decide +kernel
theorem dL_newPhantom_9 : decode cL_newPhantom 9 = .ok (.lastore, 1) := by decide +kernel
theorem dL_newPhantom_10 : decode cL_newPhantom 10 = .ok (.goto 11, 3) := by decide +kernel
theorem dL_newPhantom_13 : decode cL_newPhantom 13 = .ok (.astore 4, 2) := by decide +kernel
theorem dL_newPhantom_15 : decode cL_newPhantom 15 = .ok (.iconst 1, 1) := by decide +kernel
theorem dL_newPhantom_16 : decode cL_newPhantom 16 = .ok (.ireturn, 1) := by decide +kernel
theorem dL_newPhantom_17 : decode cL_newPhantom 17 = .ok (.astore 4, 2) := by decide +kernel
theorem dL_newPhantom_19 : decode cL_newPhantom 19 = .ok (.iconst 2, 1) := by decide +kernel
theorem dL_newPhantom_20 : decode cL_newPhantom 20 = .ok (.ireturn, 1) := by decide +kernel
theorem dL_newPhantom_21 : decode cL_newPhantom 21 = .ok (.iconst 0, 1) := by decide +kernel
theorem dL_newPhantom_22 : decode cL_newPhantom 22 = .ok (.ireturn, 1) := by decide +kernel
theorem dL_newTable_0 : decode cL_newTable 0 = .ok (.aload_n 3, 1) := by decide +kernel
theorem dL_newTable_1 : decode cL_newTable 1 = .ok (.iconst 0, 1) := by decide +kernel
theorem dL_newTable_2 : decode cL_newTable 2 = .ok (.aload_n 0, 1) := by decide +kernel
theorem dL_newTable_3 : decode cL_newTable 3 = .ok (.iload_n 1, 1) := by decide +kernel
theorem dL_newTable_4 : decode cL_newTable 4 = .ok (.iload_n 2, 1) := by decide +kernel
theorem dL_newTable_5 : decode cL_newTable 5 = .ok (.invokevirtual 58, 3) := by decide +kernel
theorem dL_newTable_8 : decode cL_newTable 8 = .ok (.i2l, 1) := by decide +kernel
theorem dL_newTable_9 : decode cL_newTable 9 = .ok (.lastore, 1) := by decide +kernel
theorem dL_newTable_10 : decode cL_newTable 10 = .ok (.goto 11, 3) := by decide +kernel
theorem dL_newTable_13 : decode cL_newTable 13 = .ok (.astore 4, 2) := by decide +kernel
theorem dL_newTable_15 : decode cL_newTable 15 = .ok (.iconst 1, 1) := by decide +kernel
theorem dL_newTable_16 : decode cL_newTable 16 = .ok (.ireturn, 1) := by decide +kernel
theorem dL_newTable_17 : decode cL_newTable 17 = .ok (.astore 4, 2) := by decide +kernel
theorem dL_newTable_19 : decode cL_newTable 19 = .ok (.iconst 2, 1) := by decide +kernel
theorem dL_newTable_20 : decode cL_newTable 20 = .ok (.ireturn, 1) := by decide +kernel
theorem dL_newTable_21 : decode cL_newTable 21 = .ok (.iconst 0, 1) := by decide +kernel
theorem dL_newTable_22 : decode cL_newTable 22 = .ok (.ireturn, 1) := by decide +kernel
theorem dL_load_0 : decode cL_load 0 = .ok (.aload 4, 2) := by decide +kernel
theorem dL_load_2 : decode cL_load 2 = .ok (.iconst 0, 1) := by decide +kernel
theorem dL_load_3 : decode cL_load 3 = .ok (.aload_n 0, 1) := by decide +kernel
theorem dL_load_4 : decode cL_load 4 = .ok (.iload_n 1, 1) := by decide +kernel
theorem dL_load_5 : decode cL_load 5 = .ok (.iload_n 2, 1) := by decide +kernel
theorem dL_load_6 : decode cL_load 6 = .ok (.iload_n 3, 1) := by decide +kernel
theorem dL_load_7 : decode cL_load 7 = .ok (.invokevirtual 61, 3) := by decide +kernel
theorem dL_load_10 : decode cL_load 10 = .ok (.i2l, 1) := by decide +kernel
theorem dL_load_11 : decode cL_load 11 = .ok (.lastore, 1) := by decide +kernel
theorem dL_load_12 : decode cL_load 12 = .ok (.goto 11, 3) := by decide +kernel
theorem dL_load_15 : decode cL_load 15 = .ok (.astore 5, 2) := by decide +kernel
theorem dL_load_17 : decode cL_load 17 = .ok (.iconst 1, 1) := by decide +kernel
theorem dL_load_18 : decode cL_load 18 = .ok (.ireturn, 1) := by decide +kernel
theorem dL_load_19 : decode cL_load 19 = .ok (.astore 5, 2) := by decide +kernel
theorem dL_load_21 : decode cL_load 21 = .ok (.iconst 2, 1) := by decide +kernel
theorem dL_load_22 : decode cL_load 22 = .ok (.ireturn, 1) := by decide +kernel
theorem dL_load_23 : decode cL_load 23 = .ok (.iconst 0, 1) := by decide +kernel
theorem dL_load_24 : decode cL_load 24 = .ok (.ireturn, 1) := by decide +kernel
theorem dL_store_0 : decode cL_store 0 = .ok (.aload 4, 2) := by decide +kernel
theorem dL_store_2 : decode cL_store 2 = .ok (.iconst 0, 1) := by decide +kernel
theorem dL_store_3 : decode cL_store 3 = .ok (.aload_n 0, 1) := by decide +kernel
theorem dL_store_4 : decode cL_store 4 = .ok (.iload_n 1, 1) := by decide +kernel
theorem dL_store_5 : decode cL_store 5 = .ok (.iload_n 2, 1) := by decide +kernel
theorem dL_store_6 : decode cL_store 6 = .ok (.iload_n 3, 1) := by decide +kernel
theorem dL_store_7 : decode cL_store 7 = .ok (.invokevirtual 65, 3) := by decide +kernel
theorem dL_store_10 : decode cL_store 10 = .ok (.i2l, 1) := by decide +kernel
theorem dL_store_11 : decode cL_store 11 = .ok (.lastore, 1) := by decide +kernel
theorem dL_store_12 : decode cL_store 12 = .ok (.goto 11, 3) := by decide +kernel
theorem dL_store_15 : decode cL_store 15 = .ok (.astore 5, 2) := by decide +kernel
theorem dL_store_17 : decode cL_store 17 = .ok (.iconst 1, 1) := by decide +kernel
theorem dL_store_18 : decode cL_store 18 = .ok (.ireturn, 1) := by decide +kernel
theorem dL_store_19 : decode cL_store 19 = .ok (.astore 5, 2) := by decide +kernel
theorem dL_store_21 : decode cL_store 21 = .ok (.iconst 2, 1) := by decide +kernel
theorem dL_store_22 : decode cL_store 22 = .ok (.ireturn, 1) := by decide +kernel
theorem dL_store_23 : decode cL_store 23 = .ok (.iconst 0, 1) := by decide +kernel
theorem dL_store_24 : decode cL_store 24 = .ok (.ireturn, 1) := by decide +kernel
theorem dL_getNumber_0 : decode cL_getNumber 0 = .ok (.aload_n 3, 1) := by decide +kernel
theorem dL_getNumber_1 : decode cL_getNumber 1 = .ok (.iconst 0, 1) := by decide +kernel
theorem dL_getNumber_2 : decode cL_getNumber 2 = .ok (.aload_n 0, 1) := by decide +kernel
theorem dL_getNumber_3 : decode cL_getNumber 3 = .ok (.iload_n 1, 1) := by decide +kernel
theorem dL_getNumber_4 : decode cL_getNumber 4 = .ok (.iload_n 2, 1) := by decide +kernel
theorem dL_getNumber_5 : decode cL_getNumber 5 = .ok (.invokevirtual 68, 3) := by decide +kernel
theorem dL_getNumber_8 : decode cL_getNumber 8 = .ok (.i2l, 1) := by decide +kernel
theorem dL_getNumber_9 : decode cL_getNumber 9 = .ok (.lastore, 1) := by decide +kernel
theorem dL_getNumber_10 : decode cL_getNumber 10 = .ok (.goto 11, 3) := by decide +kernel
theorem dL_getNumber_13 : decode cL_getNumber 13 = .ok (.astore 4, 2) := by decide +kernel
theorem dL_getNumber_15 : decode cL_getNumber 15 = .ok (.iconst 1, 1) := by decide +kernel
theorem dL_getNumber_16 : decode cL_getNumber 16 = .ok (.ireturn, 1) := by decide +kernel
theorem dL_getNumber_17 : decode cL_getNumber 17 = .ok (.astore 4, 2) := by decide +kernel
theorem dL_getNumber_19 : decode cL_getNumber 19 = .ok (.iconst 2, 1) := by decide +kernel
theorem dL_getNumber_20 : decode cL_getNumber 20 = .ok (.ireturn, 1) := by decide +kernel
theorem dL_getNumber_21 : decode cL_getNumber 21 = .ok (.iconst 0, 1) := by decide +kernel
theorem dL_getNumber_22 : decode cL_getNumber 22 = .ok (.ireturn, 1) := by decide +kernel
theorem dL_setNumber_0 : decode cL_setNumber 0 = .ok (.aload 4, 2) := by decide +kernel
theorem dL_setNumber_2 : decode cL_setNumber 2 = .ok (.iconst 0, 1) := by decide +kernel
theorem dL_setNumber_3 : decode cL_setNumber 3 = .ok (.aload_n 0, 1) := by decide +kernel
theorem dL_setNumber_4 : decode cL_setNumber 4 = .ok (.iload_n 1, 1) := by decide +kernel
theorem dL_setNumber_5 : decode cL_setNumber 5 = .ok (.iload_n 2, 1) := by decide +kernel
theorem dL_setNumber_6 : decode cL_setNumber 6 = .ok (.iload_n 3, 1) := by decide +kernel
theorem dL_setNumber_7 : decode cL_setNumber 7 = .ok (.invokevirtual 71, 3) := by decide +kernel
theorem dL_setNumber_10 : decode cL_setNumber 10 = .ok (.i2l, 1) := by decide +kernel
theorem dL_setNumber_11 : decode cL_setNumber 11 = .ok (.lastore, 1) := by decide +kernel
theorem dL_setNumber_12 : decode cL_setNumber 12 = .ok (.goto 11, 3) := by decide +kernel
theorem dL_setNumber_15 : decode cL_setNumber 15 = .ok (.astore 5, 2) := by decide +kernel
theorem dL_setNumber_17 : decode cL_setNumber 17 = .ok (.iconst 1, 1) := by decide +kernel
theorem dL_setNumber_18 : decode cL_setNumber 18 = .ok (.ireturn, 1) := by decide +kernel
theorem dL_setNumber_19 : decode cL_setNumber 19 = .ok (.astore 5, 2) := by decide +kernel
theorem dL_setNumber_21 : decode cL_setNumber 21 = .ok (.iconst 2, 1) := by decide +kernel
theorem dL_setNumber_22 : decode cL_setNumber 22 = .ok (.ireturn, 1) := by decide +kernel
theorem dL_setNumber_23 : decode cL_setNumber 23 = .ok (.iconst 0, 1) := by decide +kernel
theorem dL_setNumber_24 : decode cL_setNumber 24 = .ok (.ireturn, 1) := by decide +kernel
theorem dL_getByte_0 : decode cL_getByte 0 = .ok (.aload_n 3, 1) := by decide +kernel
theorem dL_getByte_1 : decode cL_getByte 1 = .ok (.iconst 0, 1) := by decide +kernel
theorem dL_getByte_2 : decode cL_getByte 2 = .ok (.aload_n 0, 1) := by decide +kernel
theorem dL_getByte_3 : decode cL_getByte 3 = .ok (.iload_n 1, 1) := by decide +kernel
theorem dL_getByte_4 : decode cL_getByte 4 = .ok (.iload_n 2, 1) := by decide +kernel
theorem dL_getByte_5 : decode cL_getByte 5 = .ok (.invokevirtual 74, 3) := by decide +kernel
theorem dL_getByte_8 : decode cL_getByte 8 = .ok (.i2l, 1) := by decide +kernel
theorem dL_getByte_9 : decode cL_getByte 9 = .ok (.lastore, 1) := by decide +kernel
theorem dL_getByte_10 : decode cL_getByte 10 = .ok (.goto 11, 3) := by decide +kernel
theorem dL_getByte_13 : decode cL_getByte 13 = .ok (.astore 4, 2) := by decide +kernel
theorem dL_getByte_15 : decode cL_getByte 15 = .ok (.iconst 1, 1) := by decide +kernel
theorem dL_getByte_16 : decode cL_getByte 16 = .ok (.ireturn, 1) := by decide +kernel
theorem dL_getByte_17 : decode cL_getByte 17 = .ok (.astore 4, 2) := by decide +kernel
theorem dL_getByte_19 : decode cL_getByte 19 = .ok (.iconst 2, 1) := by decide +kernel
theorem dL_getByte_20 : decode cL_getByte 20 = .ok (.ireturn, 1) := by decide +kernel
theorem dL_getByte_21 : decode cL_getByte 21 = .ok (.iconst 0, 1) := by decide +kernel
theorem dL_getByte_22 : decode cL_getByte 22 = .ok (.ireturn, 1) := by decide +kernel
theorem dL_setByte_0 : decode cL_setByte 0 = .ok (.aload 4, 2) := by decide +kernel
theorem dL_setByte_2 : decode cL_setByte 2 = .ok (.iconst 0, 1) := by decide +kernel
theorem dL_setByte_3 : decode cL_setByte 3 = .ok (.aload_n 0, 1) := by decide +kernel
theorem dL_setByte_4 : decode cL_setByte 4 = .ok (.iload_n 1, 1) := by decide +kernel
theorem dL_setByte_5 : decode cL_setByte 5 = .ok (.iload_n 2, 1) := by decide +kernel
theorem dL_setByte_6 : decode cL_setByte 6 = .ok (.iload_n 3, 1) := by decide +kernel
theorem dL_setByte_7 : decode cL_setByte 7 = .ok (.invokevirtual 77, 3) := by decide +kernel
theorem dL_setByte_10 : decode cL_setByte 10 = .ok (.i2l, 1) := by decide +kernel
theorem dL_setByte_11 : decode cL_setByte 11 = .ok (.lastore, 1) := by decide +kernel
theorem dL_setByte_12 : decode cL_setByte 12 = .ok (.goto 15, 3) := by decide +kernel
theorem dL_setByte_15 : decode cL_setByte 15 = .ok (.astore 5, 2) := by decide +kernel
theorem dL_setByte_17 : decode cL_setByte 17 = .ok (.iconst 1, 1) := by decide +kernel
theorem dL_setByte_18 : decode cL_setByte 18 = .ok (.ireturn, 1) := by decide +kernel
theorem dL_setByte_19 : decode cL_setByte 19 = .ok (.astore 5, 2) := by decide +kernel
theorem dL_setByte_21 : decode cL_setByte 21 = .ok (.iconst 2, 1) := by decide +kernel
theorem dL_setByte_22 : decode cL_setByte 22 = .ok (.ireturn, 1) := by decide +kernel
theorem dL_setByte_23 : decode cL_setByte 23 = .ok (.astore 5, 2) := by decide +kernel
theorem dL_setByte_25 : decode cL_setByte 25 = .ok (.iconst 3, 1) := by decide +kernel
theorem dL_setByte_26 : decode cL_setByte 26 = .ok (.ireturn, 1) := by decide +kernel
theorem dL_setByte_27 : decode cL_setByte 27 = .ok (.iconst 0, 1) := by decide +kernel
theorem dL_setByte_28 : decode cL_setByte 28 = .ok (.ireturn, 1) := by decide +kernel
theorem dL_read_0 : decode cL_read 0 = .ok (.aload_n 3, 1) := by decide +kernel
theorem dL_read_1 : decode cL_read 1 = .ok (.iconst 0, 1) := by decide +kernel
theorem dL_read_2 : decode cL_read 2 = .ok (.aload_n 0, 1) := by decide +kernel
theorem dL_read_3 : decode cL_read 3 = .ok (.iload_n 1, 1) := by decide +kernel
theorem dL_read_4 : decode cL_read 4 = .ok (.iload_n 2, 1) := by decide +kernel
theorem dL_read_5 : decode cL_read 5 = .ok (.invokevirtual 80, 3) := by decide +kernel
theorem dL_read_8 : decode cL_read 8 = .ok (.i2l, 1) := by decide +kernel
theorem dL_read_9 : decode cL_read 9 = .ok (.lastore, 1) := by decide +kernel
theorem dL_read_10 : decode cL_read 10 = .ok (.goto 11, 3) := by decide +kernel
theorem dL_read_13 : decode cL_read 13 = .ok (.astore 4, 2) := by decide +kernel
theorem dL_read_15 : decode cL_read 15 = .ok (.iconst 1, 1) := by decide +kernel
theorem dL_read_16 : decode cL_read 16 = .ok (.ireturn, 1) := by decide +kernel
theorem dL_read_17 : decode cL_read 17 = .ok (.astore 4, 2) := by decide +kernel
theorem dL_read_19 : decode cL_read 19 = .ok (.iconst 2, 1) := by decide +kernel
theorem dL_read_20 : decode cL_read 20 = .ok (.ireturn, 1) := by decide +kernel
theorem dL_read_21 : decode cL_read 21 = .ok (.iconst 0, 1) := by decide +kernel
theorem dL_read_22 : decode cL_read 22 = .ok (.ireturn, 1) := by decide +kernel
theorem dL_refersTo_0 : decode cL_refersTo 0 = .ok (.aload_n 3, 1) := by decide +kernel
theorem dL_refersTo_1 : decode cL_refersTo 1 = .ok (.iconst 0, 1) := by decide +kernel
theorem dL_refersTo_2 : decode cL_refersTo 2 = .ok (.aload_n 0, 1) := by decide +kernel
theorem dL_refersTo_3 : decode cL_refersTo 3 = .ok (.iload_n 1, 1) := by decide +kernel
theorem dL_refersTo_4 : decode cL_refersTo 4 = .ok (.iload_n 2, 1) := by decide +kernel
theorem dL_refersTo_5 : decode cL_refersTo 5 = .ok (.invokevirtual 83, 3) := by decide +kernel
theorem dL_refersTo_8 : decode cL_refersTo 8 = .ok (.ifCond .eq 7, 3) := by decide +kernel
theorem dL_refersTo_11 : decode cL_refersTo 11 = .ok (.lconst 1, 1) := by decide +kernel
theorem dL_refersTo_12 : decode cL_refersTo 12 = .ok (.goto 4, 3) := by decide +kernel
theorem dL_refersTo_15 : decode cL_refersTo 15 = .ok (.lconst 0, 1) := by decide +kernel
theorem dL_refersTo_16 : decode cL_refersTo 16 = .ok (.lastore, 1) := by decide +kernel
theorem dL_refersTo_17 : decode cL_refersTo 17 = .ok (.goto 11, 3) := by decide +kernel
theorem dL_refersTo_20 : decode cL_refersTo 20 = .ok (.astore 4, 2) := by decide +kernel
theorem dL_refersTo_22 : decode cL_refersTo 22 = .ok (.iconst 1, 1) := by decide +kernel
theorem dL_refersTo_23 : decode cL_refersTo 23 = .ok (.ireturn, 1) := by decide +kernel
theorem dL_refersTo_24 : decode cL_refersTo 24 = .ok (.astore 4, 2) := by decide +kernel
theorem dL_refersTo_26 : decode cL_refersTo 26 = .ok (.iconst 2, 1) := by decide +kernel
theorem dL_refersTo_27 : decode cL_refersTo 27 = .ok (.ireturn, 1) := by decide +kernel
theorem dL_refersTo_28 : decode cL_refersTo 28 = .ok (.iconst 0, 1) := by decide +kernel
theorem dL_refersTo_29 : decode cL_refersTo 29 = .ok (.ireturn, 1) := by decide +kernel
theorem dL_forget_0 : decode cL_forget 0 = .ok (.aload_n 2, 1) := by decide +kernel
theorem dL_forget_1 : decode cL_forget 1 = .ok (.iconst 0, 1) := by decide +kernel
theorem dL_forget_2 : decode cL_forget 2 = .ok (.aload_n 0, 1) := by decide +kernel
theorem dL_forget_3 : decode cL_forget 3 = .ok (.iload_n 1, 1) := by decide +kernel
theorem dL_forget_4 : decode cL_forget 4 = .ok (.invokevirtual 87, 3) := by decide +kernel
theorem dL_forget_7 : decode cL_forget 7 = .ok (.ifCond .eq 7, 3) := by decide +kernel
theorem dL_forget_10 : decode cL_forget 10 = .ok (.lconst 1, 1) := by decide +kernel
theorem dL_forget_11 : decode cL_forget 11 = .ok (.goto 4, 3) := by decide +kernel
theorem dL_forget_14 : decode cL_forget 14 = .ok (.lconst 0, 1) := by decide +kernel
theorem dL_forget_15 : decode cL_forget 15 = .ok (.lastore, 1) := by decide +kernel
theorem dL_forget_16 : decode cL_forget 16 = .ok (.goto 9, 3) := by decide +kernel
theorem dL_forget_19 : decode cL_forget 19 = .ok (.astore_n 3, 1) := by decide +kernel
theorem dL_forget_20 : decode cL_forget 20 = .ok (.iconst 1, 1) := by decide +kernel
theorem dL_forget_21 : decode cL_forget 21 = .ok (.ireturn, 1) := by decide +kernel
theorem dL_forget_22 : decode cL_forget 22 = .ok (.astore_n 3, 1) := by decide +kernel
theorem dL_forget_23 : decode cL_forget 23 = .ok (.iconst 2, 1) := by decide +kernel
theorem dL_forget_24 : decode cL_forget 24 = .ok (.ireturn, 1) := by decide +kernel
theorem dL_forget_25 : decode cL_forget 25 = .ok (.iconst 0, 1) := by decide +kernel
theorem dL_forget_26 : decode cL_forget 26 = .ok (.ireturn, 1) := by decide +kernel
theorem dL_poll_0 : decode cL_poll 0 = .ok (.aload_n 2, 1) := by decide +kernel
theorem dL_poll_1 : decode cL_poll 1 = .ok (.iconst 0, 1) := by decide +kernel
theorem dL_poll_2 : decode cL_poll 2 = .ok (.aload_n 0, 1) := by decide +kernel
theorem dL_poll_3 : decode cL_poll 3 = .ok (.iload_n 1, 1) := by decide +kernel
theorem dL_poll_4 : decode cL_poll 4 = .ok (.invokevirtual 91, 3) := by decide +kernel
theorem dL_poll_7 : decode cL_poll 7 = .ok (.i2l, 1) := by decide +kernel
theorem dL_poll_8 : decode cL_poll 8 = .ok (.lastore, 1) := by decide +kernel
theorem dL_poll_9 : decode cL_poll 9 = .ok (.goto 6, 3) := by decide +kernel
theorem dL_poll_12 : decode cL_poll 12 = .ok (.astore_n 3, 1) := by decide +kernel
theorem dL_poll_13 : decode cL_poll 13 = .ok (.iconst 1, 1) := by decide +kernel
theorem dL_poll_14 : decode cL_poll 14 = .ok (.ireturn, 1) := by decide +kernel
theorem dL_poll_15 : decode cL_poll 15 = .ok (.iconst 0, 1) := by decide +kernel
theorem dL_poll_16 : decode cL_poll 16 = .ok (.ireturn, 1) := by decide +kernel
theorem dL_takeLast_0 : decode cL_takeLast 0 = .ok (.aload_n 2, 1) := by decide +kernel
theorem dL_takeLast_1 : decode cL_takeLast 1 = .ok (.iconst 0, 1) := by decide +kernel
theorem dL_takeLast_2 : decode cL_takeLast 2 = .ok (.aload_n 0, 1) := by decide +kernel
theorem dL_takeLast_3 : decode cL_takeLast 3 = .ok (.iload_n 1, 1) := by decide +kernel
theorem dL_takeLast_4 : decode cL_takeLast 4 = .ok (.invokevirtual 94, 3) := by decide +kernel
theorem dL_takeLast_7 : decode cL_takeLast 7 = .ok (.i2l, 1) := by decide +kernel
theorem dL_takeLast_8 : decode cL_takeLast 8 = .ok (.lastore, 1) := by decide +kernel
theorem dL_takeLast_9 : decode cL_takeLast 9 = .ok (.goto 6, 3) := by decide +kernel
theorem dL_takeLast_12 : decode cL_takeLast 12 = .ok (.astore_n 3, 1) := by decide +kernel
theorem dL_takeLast_13 : decode cL_takeLast 13 = .ok (.iconst 1, 1) := by decide +kernel
theorem dL_takeLast_14 : decode cL_takeLast 14 = .ok (.ireturn, 1) := by decide +kernel
theorem dL_takeLast_15 : decode cL_takeLast 15 = .ok (.iconst 0, 1) := by decide +kernel
theorem dL_takeLast_16 : decode cL_takeLast 16 = .ok (.ireturn, 1) := by decide +kernel
theorem dL_put_0 : decode cL_put 0 = .ok (.aload 4, 2) := by decide +kernel
theorem dL_put_2 : decode cL_put 2 = .ok (.iconst 0, 1) := by decide +kernel
theorem dL_put_3 : decode cL_put 3 = .ok (.aload_n 0, 1) := by decide +kernel
theorem dL_put_4 : decode cL_put 4 = .ok (.iload_n 1, 1) := by decide +kernel
theorem dL_put_5 : decode cL_put 5 = .ok (.iload_n 2, 1) := by decide +kernel
theorem dL_put_6 : decode cL_put 6 = .ok (.iload_n 3, 1) := by decide +kernel
theorem dL_put_7 : decode cL_put 7 = .ok (.invokevirtual 97, 3) := by decide +kernel
theorem dL_put_10 : decode cL_put 10 = .ok (.ifCond .eq 7, 3) := by decide +kernel
theorem dL_put_13 : decode cL_put 13 = .ok (.lconst 1, 1) := by decide +kernel
theorem dL_put_14 : decode cL_put 14 = .ok (.goto 4, 3) := by decide +kernel
theorem dL_put_17 : decode cL_put 17 = .ok (.lconst 0, 1) := by decide +kernel
theorem dL_put_18 : decode cL_put 18 = .ok (.lastore, 1) := by decide +kernel
theorem dL_put_19 : decode cL_put 19 = .ok (.goto 11, 3) := by decide +kernel
theorem dL_put_22 : decode cL_put 22 = .ok (.astore 5, 2) := by decide +kernel
theorem dL_put_24 : decode cL_put 24 = .ok (.iconst 1, 1) := by decide +kernel
theorem dL_put_25 : decode cL_put 25 = .ok (.ireturn, 1) := by decide +kernel
theorem dL_put_26 : decode cL_put 26 = .ok (.astore 5, 2) := by decide +kernel
theorem dL_put_28 : decode cL_put 28 = .ok (.iconst 2, 1) := by decide +kernel
theorem dL_put_29 : decode cL_put 29 = .ok (.ireturn, 1) := by decide +kernel
theorem dL_put_30 : decode cL_put 30 = .ok (.iconst 0, 1) := by decide +kernel
theorem dL_put_31 : decode cL_put 31 = .ok (.ireturn, 1) := by decide +kernel
theorem dL_get_0 : decode cL_get 0 = .ok (.aload 4, 2) := by decide +kernel
theorem dL_get_2 : decode cL_get 2 = .ok (.iconst 0, 1) := by decide +kernel
theorem dL_get_3 : decode cL_get 3 = .ok (.aload_n 0, 1) := by decide +kernel
theorem dL_get_4 : decode cL_get 4 = .ok (.iload_n 1, 1) := by decide +kernel
theorem dL_get_5 : decode cL_get 5 = .ok (.iload_n 2, 1) := by decide +kernel
theorem dL_get_6 : decode cL_get 6 = .ok (.iload_n 3, 1) := by decide +kernel
theorem dL_get_7 : decode cL_get 7 = .ok (.invokevirtual 101, 3) := by decide +kernel
theorem dL_get_10 : decode cL_get 10 = .ok (.i2l, 1) := by decide +kernel
theorem dL_get_11 : decode cL_get 11 = .ok (.lastore, 1) := by decide +kernel
theorem dL_get_12 : decode cL_get 12 = .ok (.goto 11, 3) := by decide +kernel
theorem dL_get_15 : decode cL_get 15 = .ok (.astore 5, 2) := by decide +kernel
theorem dL_get_17 : decode cL_get 17 = .ok (.iconst 1, 1) := by decide +kernel
theorem dL_get_18 : decode cL_get 18 = .ok (.ireturn, 1) := by decide +kernel
theorem dL_get_19 : decode cL_get 19 = .ok (.astore 5, 2) := by decide +kernel
theorem dL_get_21 : decode cL_get 21 = .ok (.iconst 2, 1) := by decide +kernel
theorem dL_get_22 : decode cL_get 22 = .ok (.ireturn, 1) := by decide +kernel
theorem dL_get_23 : decode cL_get 23 = .ok (.iconst 0, 1) := by decide +kernel
theorem dL_get_24 : decode cL_get 24 = .ok (.ireturn, 1) := by decide +kernel
theorem dL_remove_0 : decode cL_remove 0 = .ok (.aload_n 3, 1) := by decide +kernel
theorem dL_remove_1 : decode cL_remove 1 = .ok (.iconst 0, 1) := by decide +kernel
theorem dL_remove_2 : decode cL_remove 2 = .ok (.aload_n 0, 1) := by decide +kernel
theorem dL_remove_3 : decode cL_remove 3 = .ok (.iload_n 1, 1) := by decide +kernel
theorem dL_remove_4 : decode cL_remove 4 = .ok (.iload_n 2, 1) := by decide +kernel
theorem dL_remove_5 : decode cL_remove 5 = .ok (.invokevirtual 104, 3) := by decide +kernel
theorem dL_remove_8 : decode cL_remove 8 = .ok (.ifCond .eq 7, 3) := by decide +kernel
theorem dL_remove_11 : decode cL_remove 11 = .ok (.lconst 1, 1) := by decide +kernel
theorem dL_remove_12 : decode cL_remove 12 = .ok (.goto 4, 3) := by decide +kernel
theorem dL_remove_15 : decode cL_remove 15 = .ok (.lconst 0, 1) := by decide +kernel
theorem dL_remove_16 : decode cL_remove 16 = .ok (.lastore, 1) := by decide +kernel
theorem dL_remove_17 : decode cL_remove 17 = .ok (.goto 11, 3) := by decide +kernel
theorem dL_remove_20 : decode cL_remove 20 = .ok (.astore 4, 2) := by decide +kernel
theorem dL_remove_22 : decode cL_remove 22 = .ok (.iconst 1, 1) := by decide +kernel
theorem dL_remove_23 : decode cL_remove 23 = .ok (.ireturn, 1) := by decide +kernel
theorem dL_remove_24 : decode cL_remove 24 = .ok (.astore 4, 2) := by decide +kernel
theorem dL_remove_26 : decode cL_remove 26 = .ok (.iconst 2, 1) := by decide +kernel
theorem dL_remove_27 : decode cL_remove 27 = .ok (.ireturn, 1) := by decide +kernel
theorem dL_remove_28 : decode cL_remove 28 = .ok (.iconst 0, 1) := by decide +kernel
theorem dL_remove_29 : decode cL_remove 29 = .ok (.ireturn, 1) := by decide +kernel
theorem dL_intern_0 : decode cL_intern 0 = .ok (.aload_n 3, 1) := by decide +kernel
theorem dL_intern_1 : decode cL_intern 1 = .ok (.iconst 0, 1) := by decide +kernel
theorem dL_intern_2 : decode cL_intern 2 = .ok (.aload_n 0, 1) := by decide +kernel
theorem dL_intern_3 : decode cL_intern 3 = .ok (.iload_n 1, 1) := by decide +kernel
theorem dL_intern_4 : decode cL_intern 4 = .ok (.iload_n 2, 1) := by decide +kernel
theorem dL_intern_5 : decode cL_intern 5 = .ok (.invokevirtual 107, 3) := by decide +kernel
theorem dL_intern_8 : decode cL_intern 8 = .ok (.i2l, 1) := by decide +kernel
theorem dL_intern_9 : decode cL_intern 9 = .ok (.lastore, 1) := by decide +kernel
theorem dL_intern_10 : decode cL_intern 10 = .ok (.goto 11, 3) := by decide +kernel
theorem dL_intern_13 : decode cL_intern 13 = .ok (.astore 4, 2) := by decide +kernel
theorem dL_intern_15 : decode cL_intern 15 = .ok (.iconst 1, 1) := by decide +kernel
theorem dL_intern_16 : decode cL_intern 16 = .ok (.ireturn, 1) := by decide +kernel
theorem dL_intern_17 : decode cL_intern 17 = .ok (.astore 4, 2) := by decide +kernel
theorem dL_intern_19 : decode cL_intern 19 = .ok (.iconst 2, 1) := by decide +kernel
theorem dL_intern_20 : decode cL_intern 20 = .ok (.ireturn, 1) := by decide +kernel
theorem dL_intern_21 : decode cL_intern 21 = .ok (.iconst 0, 1) := by decide +kernel
theorem dL_intern_22 : decode cL_intern 22 = .ok (.ireturn, 1) := by decide +kernel
theorem dL_deepCopy_0 : decode cL_deepCopy 0 = .ok (.aload_n 3, 1) := by decide +kernel
theorem dL_deepCopy_1 : decode cL_deepCopy 1 = .ok (.iconst 0, 1) := by decide +kernel
theorem dL_deepCopy_2 : decode cL_deepCopy 2 = .ok (.aload_n 0, 1) := by decide +kernel
theorem dL_deepCopy_3 : decode cL_deepCopy 3 = .ok (.iload_n 1, 1) := by decide +kernel
theorem dL_deepCopy_4 : decode cL_deepCopy 4 = .ok (.iload_n 2, 1) := by decide +kernel
theorem dL_deepCopy_5 : decode cL_deepCopy 5 = .ok (.invokevirtual 110, 3) := by decide +kernel
theorem dL_deepCopy_8 : decode cL_deepCopy 8 = .ok (.i2l, 1) := by decide +kernel
theorem dL_deepCopy_9 : decode cL_deepCopy 9 = .ok (.lastore, 1) := by decide +kernel
theorem dL_deepCopy_10 : decode cL_deepCopy 10 = .ok (.goto 11, 3) := by decide +kernel
theorem dL_deepCopy_13 : decode cL_deepCopy 13 = .ok (.astore 4, 2) := by decide +kernel
theorem dL_deepCopy_15 : decode cL_deepCopy 15 = .ok (.iconst 1, 1) := by decide +kernel
theorem dL_deepCopy_16 : decode cL_deepCopy 16 = .ok (.ireturn, 1) := by decide +kernel
theorem dL_deepCopy_17 : decode cL_deepCopy 17 = .ok (.astore 4, 2) := by decide +kernel
theorem dL_deepCopy_19 : decode cL_deepCopy 19 = .ok (.iconst 2, 1) := by decide +kernel
theorem dL_deepCopy_20 : decode cL_deepCopy 20 = .ok (.ireturn, 1) := by decide +kernel
theorem dL_deepCopy_21 : decode cL_deepCopy 21 = .ok (.iconst 0, 1) := by decide +kernel
theorem dL_deepCopy_22 : decode cL_deepCopy 22 = .ok (.ireturn, 1) := by decide +kernel
theorem dL_writeImage_0 : decode cL_writeImage 0 = .ok (.aload_n 2, 1) := by decide +kernel
theorem dL_writeImage_1 : decode cL_writeImage 1 = .ok (.iconst 0, 1) := by decide +kernel
theorem dL_writeImage_2 : decode cL_writeImage 2 = .ok (.aload_n 0, 1) := by decide +kernel
theorem dL_writeImage_3 : decode cL_writeImage 3 = .ok (.iload_n 1, 1) := by decide +kernel
theorem dL_writeImage_4 : decode cL_writeImage 4 = .ok (.invokevirtual 113, 3) := by decide +kernel
theorem dL_writeImage_7 : decode cL_writeImage 7 = .ok (.i2l, 1) := by decide +kernel
theorem dL_writeImage_8 : decode cL_writeImage 8 = .ok (.lastore, 1) := by decide +kernel
theorem dL_writeImage_9 : decode cL_writeImage 9 = .ok (.goto 9, 3) := by decide +kernel
theorem dL_writeImage_12 : decode cL_writeImage 12 = .ok (.astore_n 3, 1) := by decide +kernel
theorem dL_writeImage_13 : decode cL_writeImage 13 = .ok (.iconst 1, 1) := by decide +kernel
theorem dL_writeImage_14 : decode cL_writeImage 14 = .ok (.ireturn, 1) := by decide +kernel
theorem dL_writeImage_15 : decode cL_writeImage 15 = .ok (.astore_n 3, 1) := by decide +kernel
theorem dL_writeImage_16 : decode cL_writeImage 16 = .ok (.iconst 2, 1) := by decide +kernel
theorem dL_writeImage_17 : decode cL_writeImage 17 = .ok (.ireturn, 1) := by decide +kernel
theorem dL_writeImage_18 : decode cL_writeImage 18 = .ok (.iconst 0, 1) := by decide +kernel
theorem dL_writeImage_19 : decode cL_writeImage 19 = .ok (.ireturn, 1) := by decide +kernel
theorem dL_setImage_0 : decode cL_setImage 0 = .ok (.aload_n 3, 1) := by decide +kernel
theorem dL_setImage_1 : decode cL_setImage 1 = .ok (.iconst 0, 1) := by decide +kernel
theorem dL_setImage_2 : decode cL_setImage 2 = .ok (.aload_n 0, 1) := by decide +kernel
theorem dL_setImage_3 : decode cL_setImage 3 = .ok (.iload_n 1, 1) := by decide +kernel
theorem dL_setImage_4 : decode cL_setImage 4 = .ok (.iload_n 2, 1) := by decide +kernel
theorem dL_setImage_5 : decode cL_setImage 5 = .ok (.invokevirtual 116, 3) := by decide +kernel
theorem dL_setImage_8 : decode cL_setImage 8 = .ok (.i2l, 1) := by decide +kernel
theorem dL_setImage_9 : decode cL_setImage 9 = .ok (.lastore, 1) := by decide +kernel
theorem dL_setImage_10 : decode cL_setImage 10 = .ok (.goto 7, 3) := by decide +kernel
theorem dL_setImage_13 : decode cL_setImage 13 = .ok (.astore 4, 2) := by decide +kernel
theorem dL_setImage_15 : decode cL_setImage 15 = .ok (.iconst 1, 1) := by decide +kernel
theorem dL_setImage_16 : decode cL_setImage 16 = .ok (.ireturn, 1) := by decide +kernel
theorem dL_setImage_17 : decode cL_setImage 17 = .ok (.iconst 0, 1) := by decide +kernel
theorem dL_setImage_18 : decode cL_setImage 18 = .ok (.ireturn, 1) := by decide +kernel
theorem dL_readImage_0 : decode cL_readImage 0 = .ok (.aload_n 2, 1) := by decide +kernel
theorem dL_readImage_1 : decode cL_readImage 1 = .ok (.iconst 0, 1) := by decide +kernel
theorem dL_readImage_2 : decode cL_readImage 2 = .ok (.aload_n 0, 1) := by decide +kernel
theorem dL_readImage_3 : decode cL_readImage 3 = .ok (.iload_n 1, 1) := by decide +kernel
theorem dL_readImage_4 : decode cL_readImage 4 = .ok (.invokevirtual 119, 3) := by decide +kernel
theorem dL_readImage_7 : decode cL_readImage 7 = .ok (.i2l, 1) := by decide +kernel
theorem dL_readImage_8 : decode cL_readImage 8 = .ok (.lastore, 1) := by decide +kernel
theorem dL_readImage_9 : decode cL_readImage 9 = .ok (.goto 6, 3) := by decide +kernel
theorem dL_readImage_12 : decode cL_readImage 12 = .ok (.astore_n 3, 1) := by decide +kernel
theorem dL_readImage_13 : decode cL_readImage 13 = .ok (.iconst 1, 1) := by decide +kernel
theorem dL_readImage_14 : decode cL_readImage 14 = .ok (.ireturn, 1) := by decide +kernel
theorem dL_readImage_15 : decode cL_readImage 15 = .ok (.iconst 0, 1) := by decide +kernel
theorem dL_readImage_16 : decode cL_readImage 16 = .ok (.ireturn, 1) := by decide +kernel
theorem dL_setTenure_0 : decode cL_setTenure 0 = .ok (.aload_n 2, 1) := by decide +kernel
theorem dL_setTenure_1 : decode cL_setTenure 1 = .ok (.iconst 0, 1) := by decide +kernel
theorem dL_setTenure_2 : decode cL_setTenure 2 = .ok (.aload_n 0, 1) := by decide +kernel
theorem dL_setTenure_3 : decode cL_setTenure 3 = .ok (.iload_n 1, 1) := by decide +kernel
theorem dL_setTenure_4 : decode cL_setTenure 4 = .ok (.invokevirtual 122, 3) := by decide +kernel
theorem dL_setTenure_7 : decode cL_setTenure 7 = .ok (.i2l, 1) := by decide +kernel
theorem dL_setTenure_8 : decode cL_setTenure 8 = .ok (.lastore, 1) := by decide +kernel
theorem dL_setTenure_9 : decode cL_setTenure 9 = .ok (.goto 6, 3) := by decide +kernel
theorem dL_setTenure_12 : decode cL_setTenure 12 = .ok (.astore_n 3, 1) := by decide +kernel
theorem dL_setTenure_13 : decode cL_setTenure 13 = .ok (.iconst 1, 1) := by decide +kernel
theorem dL_setTenure_14 : decode cL_setTenure 14 = .ok (.ireturn, 1) := by decide +kernel
theorem dL_setTenure_15 : decode cL_setTenure 15 = .ok (.iconst 0, 1) := by decide +kernel
theorem dL_setTenure_16 : decode cL_setTenure 16 = .ok (.ireturn, 1) := by decide +kernel
theorem dL_collectYoung_0 : decode cL_collectYoung 0 = .ok (.aload_n 1, 1) := by decide +kernel
theorem dL_collectYoung_1 : decode cL_collectYoung 1 = .ok (.iconst 0, 1) := by decide +kernel
theorem dL_collectYoung_2 : decode cL_collectYoung 2 = .ok (.aload_n 0, 1) := by decide +kernel
theorem dL_collectYoung_3 : decode cL_collectYoung 3 = .ok (.invokevirtual 125, 3) := by decide +kernel
theorem dL_collectYoung_6 : decode cL_collectYoung 6 = .ok (.i2l, 1) := by decide +kernel
theorem dL_collectYoung_7 : decode cL_collectYoung 7 = .ok (.lastore, 1) := by decide +kernel
theorem dL_collectYoung_8 : decode cL_collectYoung 8 = .ok (.goto 6, 3) := by decide +kernel
theorem dL_collectYoung_11 : decode cL_collectYoung 11 = .ok (.astore_n 2, 1) := by decide +kernel
theorem dL_collectYoung_12 : decode cL_collectYoung 12 = .ok (.iconst 1, 1) := by decide +kernel
theorem dL_collectYoung_13 : decode cL_collectYoung 13 = .ok (.ireturn, 1) := by decide +kernel
theorem dL_collectYoung_14 : decode cL_collectYoung 14 = .ok (.iconst 0, 1) := by decide +kernel
theorem dL_collectYoung_15 : decode cL_collectYoung 15 = .ok (.ireturn, 1) := by decide +kernel
theorem dL_collectAll_0 : decode cL_collectAll 0 = .ok (.aload_n 2, 1) := by decide +kernel
theorem dL_collectAll_1 : decode cL_collectAll 1 = .ok (.iconst 0, 1) := by decide +kernel
theorem dL_collectAll_2 : decode cL_collectAll 2 = .ok (.aload_n 0, 1) := by decide +kernel
theorem dL_collectAll_3 : decode cL_collectAll 3 = .ok (.iload_n 1, 1) := by decide +kernel
theorem dL_collectAll_4 : decode cL_collectAll 4 = .ok (.invokevirtual 129, 3) := by decide +kernel
theorem dL_collectAll_7 : decode cL_collectAll 7 = .ok (.i2l, 1) := by decide +kernel
theorem dL_collectAll_8 : decode cL_collectAll 8 = .ok (.lastore, 1) := by decide +kernel
theorem dL_collectAll_9 : decode cL_collectAll 9 = .ok (.goto 6, 3) := by decide +kernel
theorem dL_collectAll_12 : decode cL_collectAll 12 = .ok (.astore_n 3, 1) := by decide +kernel
theorem dL_collectAll_13 : decode cL_collectAll 13 = .ok (.iconst 1, 1) := by decide +kernel
theorem dL_collectAll_14 : decode cL_collectAll 14 = .ok (.ireturn, 1) := by decide +kernel
theorem dL_collectAll_15 : decode cL_collectAll 15 = .ok (.iconst 0, 1) := by decide +kernel
theorem dL_collectAll_16 : decode cL_collectAll 16 = .ok (.ireturn, 1) := by decide +kernel
theorem dL_beginMarking_0 : decode cL_beginMarking 0 = .ok (.aload_n 1, 1) := by decide +kernel
theorem dL_beginMarking_1 : decode cL_beginMarking 1 = .ok (.iconst 0, 1) := by decide +kernel
theorem dL_beginMarking_2 : decode cL_beginMarking 2 = .ok (.aload_n 0, 1) := by decide +kernel
theorem dL_beginMarking_3 : decode cL_beginMarking 3 = .ok (.invokevirtual 133, 3) := by decide +kernel
theorem dL_beginMarking_6 : decode cL_beginMarking 6 = .ok (.i2l, 1) := by decide +kernel
theorem dL_beginMarking_7 : decode cL_beginMarking 7 = .ok (.lastore, 1) := by decide +kernel
theorem dL_beginMarking_8 : decode cL_beginMarking 8 = .ok (.goto 6, 3) := by decide +kernel
theorem dL_beginMarking_11 : decode cL_beginMarking 11 = .ok (.astore_n 2, 1) := by decide +kernel
theorem dL_beginMarking_12 : decode cL_beginMarking 12 = .ok (.iconst 1, 1) := by decide +kernel
theorem dL_beginMarking_13 : decode cL_beginMarking 13 = .ok (.ireturn, 1) := by decide +kernel
theorem dL_beginMarking_14 : decode cL_beginMarking 14 = .ok (.iconst 0, 1) := by decide +kernel
theorem dL_beginMarking_15 : decode cL_beginMarking 15 = .ok (.ireturn, 1) := by decide +kernel
theorem dL_step_0 : decode cL_step 0 = .ok (.aload_n 2, 1) := by decide +kernel
theorem dL_step_1 : decode cL_step 1 = .ok (.iconst 0, 1) := by decide +kernel
theorem dL_step_2 : decode cL_step 2 = .ok (.aload_n 0, 1) := by decide +kernel
theorem dL_step_3 : decode cL_step 3 = .ok (.iload_n 1, 1) := by decide +kernel
theorem dL_step_4 : decode cL_step 4 = .ok (.invokevirtual 136, 3) := by decide +kernel
theorem dL_step_7 : decode cL_step 7 = .ok (.i2l, 1) := by decide +kernel
theorem dL_step_8 : decode cL_step 8 = .ok (.lastore, 1) := by decide +kernel
theorem dL_step_9 : decode cL_step 9 = .ok (.goto 9, 3) := by decide +kernel
theorem dL_step_12 : decode cL_step 12 = .ok (.astore_n 3, 1) := by decide +kernel
theorem dL_step_13 : decode cL_step 13 = .ok (.iconst 1, 1) := by decide +kernel
theorem dL_step_14 : decode cL_step 14 = .ok (.ireturn, 1) := by decide +kernel
theorem dL_step_15 : decode cL_step 15 = .ok (.astore_n 3, 1) := by decide +kernel
theorem dL_step_16 : decode cL_step 16 = .ok (.iconst 2, 1) := by decide +kernel
theorem dL_step_17 : decode cL_step 17 = .ok (.ireturn, 1) := by decide +kernel
theorem dL_step_18 : decode cL_step 18 = .ok (.iconst 0, 1) := by decide +kernel
theorem dL_step_19 : decode cL_step 19 = .ok (.ireturn, 1) := by decide +kernel
theorem dL_referencesOf_0 : decode cL_referencesOf 0 = .ok (.aload_n 2, 1) := by decide +kernel
theorem dL_referencesOf_1 : decode cL_referencesOf 1 = .ok (.iconst 0, 1) := by decide +kernel
theorem dL_referencesOf_2 : decode cL_referencesOf 2 = .ok (.aload_n 0, 1) := by decide +kernel
theorem dL_referencesOf_3 : decode cL_referencesOf 3 = .ok (.iload_n 1, 1) := by decide +kernel
theorem dL_referencesOf_4 : decode cL_referencesOf 4 = .ok (.invokevirtual 139, 3) := by decide +kernel
theorem dL_referencesOf_7 : decode cL_referencesOf 7 = .ok (.i2l, 1) := by decide +kernel
theorem dL_referencesOf_8 : decode cL_referencesOf 8 = .ok (.lastore, 1) := by decide +kernel
theorem dL_referencesOf_9 : decode cL_referencesOf 9 = .ok (.goto 6, 3) := by decide +kernel
theorem dL_referencesOf_12 : decode cL_referencesOf 12 = .ok (.astore_n 3, 1) := by decide +kernel
theorem dL_referencesOf_13 : decode cL_referencesOf 13 = .ok (.iconst 1, 1) := by decide +kernel
theorem dL_referencesOf_14 : decode cL_referencesOf 14 = .ok (.ireturn, 1) := by decide +kernel
theorem dL_referencesOf_15 : decode cL_referencesOf 15 = .ok (.iconst 0, 1) := by decide +kernel
theorem dL_referencesOf_16 : decode cL_referencesOf 16 = .ok (.ireturn, 1) := by decide +kernel
theorem dL_numbersOf_0 : decode cL_numbersOf 0 = .ok (.aload_n 2, 1) := by decide +kernel
theorem dL_numbersOf_1 : decode cL_numbersOf 1 = .ok (.iconst 0, 1) := by decide +kernel
theorem dL_numbersOf_2 : decode cL_numbersOf 2 = .ok (.aload_n 0, 1) := by decide +kernel
theorem dL_numbersOf_3 : decode cL_numbersOf 3 = .ok (.iload_n 1, 1) := by decide +kernel
theorem dL_numbersOf_4 : decode cL_numbersOf 4 = .ok (.invokevirtual 142, 3) := by decide +kernel
theorem dL_numbersOf_7 : decode cL_numbersOf 7 = .ok (.i2l, 1) := by decide +kernel
theorem dL_numbersOf_8 : decode cL_numbersOf 8 = .ok (.lastore, 1) := by decide +kernel
theorem dL_numbersOf_9 : decode cL_numbersOf 9 = .ok (.goto 6, 3) := by decide +kernel
theorem dL_numbersOf_12 : decode cL_numbersOf 12 = .ok (.astore_n 3, 1) := by decide +kernel
theorem dL_numbersOf_13 : decode cL_numbersOf 13 = .ok (.iconst 1, 1) := by decide +kernel
theorem dL_numbersOf_14 : decode cL_numbersOf 14 = .ok (.ireturn, 1) := by decide +kernel
theorem dL_numbersOf_15 : decode cL_numbersOf 15 = .ok (.iconst 0, 1) := by decide +kernel
theorem dL_numbersOf_16 : decode cL_numbersOf 16 = .ok (.ireturn, 1) := by decide +kernel
theorem dL_isFinal_0 : decode cL_isFinal 0 = .ok (.aload_n 2, 1) := by decide +kernel
theorem dL_isFinal_1 : decode cL_isFinal 1 = .ok (.iconst 0, 1) := by decide +kernel
theorem dL_isFinal_2 : decode cL_isFinal 2 = .ok (.aload_n 0, 1) := by decide +kernel
theorem dL_isFinal_3 : decode cL_isFinal 3 = .ok (.iload_n 1, 1) := by decide +kernel
theorem dL_isFinal_4 : decode cL_isFinal 4 = .ok (.invokevirtual 145, 3) := by decide +kernel
theorem dL_isFinal_7 : decode cL_isFinal 7 = .ok (.ifCond .eq 7, 3) := by decide +kernel
theorem dL_isFinal_10 : decode cL_isFinal 10 = .ok (.lconst 1, 1) := by decide +kernel
theorem dL_isFinal_11 : decode cL_isFinal 11 = .ok (.goto 4, 3) := by decide +kernel
theorem dL_isFinal_14 : decode cL_isFinal 14 = .ok (.lconst 0, 1) := by decide +kernel
theorem dL_isFinal_15 : decode cL_isFinal 15 = .ok (.lastore, 1) := by decide +kernel
theorem dL_isFinal_16 : decode cL_isFinal 16 = .ok (.goto 6, 3) := by decide +kernel
theorem dL_isFinal_19 : decode cL_isFinal 19 = .ok (.astore_n 3, 1) := by decide +kernel
theorem dL_isFinal_20 : decode cL_isFinal 20 = .ok (.iconst 1, 1) := by decide +kernel
theorem dL_isFinal_21 : decode cL_isFinal 21 = .ok (.ireturn, 1) := by decide +kernel
theorem dL_isFinal_22 : decode cL_isFinal 22 = .ok (.iconst 0, 1) := by decide +kernel
theorem dL_isFinal_23 : decode cL_isFinal 23 = .ok (.ireturn, 1) := by decide +kernel
theorem dL_isKindOf_0 : decode cL_isKindOf 0 = .ok (.aload_n 3, 1) := by decide +kernel
theorem dL_isKindOf_1 : decode cL_isKindOf 1 = .ok (.iconst 0, 1) := by decide +kernel
theorem dL_isKindOf_2 : decode cL_isKindOf 2 = .ok (.aload_n 0, 1) := by decide +kernel
theorem dL_isKindOf_3 : decode cL_isKindOf 3 = .ok (.iload_n 1, 1) := by decide +kernel
theorem dL_isKindOf_4 : decode cL_isKindOf 4 = .ok (.iload_n 2, 1) := by decide +kernel
theorem dL_isKindOf_5 : decode cL_isKindOf 5 = .ok (.invokevirtual 148, 3) := by decide +kernel
theorem dL_isKindOf_8 : decode cL_isKindOf 8 = .ok (.ifCond .eq 7, 3) := by decide +kernel
theorem dL_isKindOf_11 : decode cL_isKindOf 11 = .ok (.lconst 1, 1) := by decide +kernel
theorem dL_isKindOf_12 : decode cL_isKindOf 12 = .ok (.goto 4, 3) := by decide +kernel
theorem dL_isKindOf_15 : decode cL_isKindOf 15 = .ok (.lconst 0, 1) := by decide +kernel
theorem dL_isKindOf_16 : decode cL_isKindOf 16 = .ok (.lastore, 1) := by decide +kernel
theorem dL_isKindOf_17 : decode cL_isKindOf 17 = .ok (.goto 7, 3) := by decide +kernel
theorem dL_isKindOf_20 : decode cL_isKindOf 20 = .ok (.astore 4, 2) := by decide +kernel
theorem dL_isKindOf_22 : decode cL_isKindOf 22 = .ok (.iconst 1, 1) := by decide +kernel
theorem dL_isKindOf_23 : decode cL_isKindOf 23 = .ok (.ireturn, 1) := by decide +kernel
theorem dL_isKindOf_24 : decode cL_isKindOf 24 = .ok (.iconst 0, 1) := by decide +kernel
theorem dL_isKindOf_25 : decode cL_isKindOf 25 = .ok (.ireturn, 1) := by decide +kernel
theorem dL_numberOf_0 : decode cL_numberOf 0 = .ok (.aload_n 2, 1) := by decide +kernel
theorem dL_numberOf_1 : decode cL_numberOf 1 = .ok (.iconst 0, 1) := by decide +kernel
theorem dL_numberOf_2 : decode cL_numberOf 2 = .ok (.aload_n 0, 1) := by decide +kernel
theorem dL_numberOf_3 : decode cL_numberOf 3 = .ok (.iload_n 1, 1) := by decide +kernel
theorem dL_numberOf_4 : decode cL_numberOf 4 = .ok (.invokevirtual 151, 3) := by decide +kernel
theorem dL_numberOf_7 : decode cL_numberOf 7 = .ok (.i2l, 1) := by decide +kernel
theorem dL_numberOf_8 : decode cL_numberOf 8 = .ok (.lastore, 1) := by decide +kernel
theorem dL_numberOf_9 : decode cL_numberOf 9 = .ok (.goto 6, 3) := by decide +kernel
theorem dL_numberOf_12 : decode cL_numberOf 12 = .ok (.astore_n 3, 1) := by decide +kernel
theorem dL_numberOf_13 : decode cL_numberOf 13 = .ok (.iconst 1, 1) := by decide +kernel
theorem dL_numberOf_14 : decode cL_numberOf 14 = .ok (.ireturn, 1) := by decide +kernel
theorem dL_numberOf_15 : decode cL_numberOf 15 = .ok (.iconst 0, 1) := by decide +kernel
theorem dL_numberOf_16 : decode cL_numberOf 16 = .ok (.ireturn, 1) := by decide +kernel
theorem dL_globalNumber_0 : decode cL_globalNumber 0 = .ok (.aload_n 2, 1) := by decide +kernel
theorem dL_globalNumber_1 : decode cL_globalNumber 1 = .ok (.iconst 0, 1) := by decide +kernel
theorem dL_globalNumber_2 : decode cL_globalNumber 2 = .ok (.aload_n 0, 1) := by decide +kernel
theorem dL_globalNumber_3 : decode cL_globalNumber 3 = .ok (.iload_n 1, 1) := by decide +kernel
theorem dL_globalNumber_4 : decode cL_globalNumber 4 = .ok (.invokevirtual 154, 3) := by decide +kernel
theorem dL_globalNumber_7 : decode cL_globalNumber 7 = .ok (.i2l, 1) := by decide +kernel
theorem dL_globalNumber_8 : decode cL_globalNumber 8 = .ok (.lastore, 1) := by decide +kernel
theorem dL_globalNumber_9 : decode cL_globalNumber 9 = .ok (.goto 6, 3) := by decide +kernel
theorem dL_globalNumber_12 : decode cL_globalNumber 12 = .ok (.astore_n 3, 1) := by decide +kernel
theorem dL_globalNumber_13 : decode cL_globalNumber 13 = .ok (.iconst 1, 1) := by decide +kernel
theorem dL_globalNumber_14 : decode cL_globalNumber 14 = .ok (.ireturn, 1) := by decide +kernel
theorem dL_globalNumber_15 : decode cL_globalNumber 15 = .ok (.iconst 0, 1) := by decide +kernel
theorem dL_globalNumber_16 : decode cL_globalNumber 16 = .ok (.ireturn, 1) := by decide +kernel
theorem dL_formOf_0 : decode cL_formOf 0 = .ok (.aload_n 2, 1) := by decide +kernel
theorem dL_formOf_1 : decode cL_formOf 1 = .ok (.iconst 0, 1) := by decide +kernel
theorem dL_formOf_2 : decode cL_formOf 2 = .ok (.aload_n 0, 1) := by decide +kernel
theorem dL_formOf_3 : decode cL_formOf 3 = .ok (.iload_n 1, 1) := by decide +kernel
theorem dL_formOf_4 : decode cL_formOf 4 = .ok (.invokevirtual 157, 3) := by decide +kernel
theorem dL_formOf_7 : decode cL_formOf 7 = .ok (.i2l, 1) := by decide +kernel
theorem dL_formOf_8 : decode cL_formOf 8 = .ok (.lastore, 1) := by decide +kernel
theorem dL_formOf_9 : decode cL_formOf 9 = .ok (.goto 6, 3) := by decide +kernel
theorem dL_formOf_12 : decode cL_formOf 12 = .ok (.astore_n 3, 1) := by decide +kernel
theorem dL_formOf_13 : decode cL_formOf 13 = .ok (.iconst 1, 1) := by decide +kernel
theorem dL_formOf_14 : decode cL_formOf 14 = .ok (.ireturn, 1) := by decide +kernel
theorem dL_formOf_15 : decode cL_formOf 15 = .ok (.iconst 0, 1) := by decide +kernel
theorem dL_formOf_16 : decode cL_formOf 16 = .ok (.ireturn, 1) := by decide +kernel
theorem dL_kindOf_0 : decode cL_kindOf 0 = .ok (.aload_n 2, 1) := by decide +kernel
theorem dL_kindOf_1 : decode cL_kindOf 1 = .ok (.iconst 0, 1) := by decide +kernel
theorem dL_kindOf_2 : decode cL_kindOf 2 = .ok (.aload_n 0, 1) := by decide +kernel
theorem dL_kindOf_3 : decode cL_kindOf 3 = .ok (.iload_n 1, 1) := by decide +kernel
theorem dL_kindOf_4 : decode cL_kindOf 4 = .ok (.invokevirtual 160, 3) := by decide +kernel
theorem dL_kindOf_7 : decode cL_kindOf 7 = .ok (.i2l, 1) := by decide +kernel
theorem dL_kindOf_8 : decode cL_kindOf 8 = .ok (.lastore, 1) := by decide +kernel
theorem dL_kindOf_9 : decode cL_kindOf 9 = .ok (.goto 6, 3) := by decide +kernel
theorem dL_kindOf_12 : decode cL_kindOf 12 = .ok (.astore_n 3, 1) := by decide +kernel
theorem dL_kindOf_13 : decode cL_kindOf 13 = .ok (.iconst 1, 1) := by decide +kernel
theorem dL_kindOf_14 : decode cL_kindOf 14 = .ok (.ireturn, 1) := by decide +kernel
theorem dL_kindOf_15 : decode cL_kindOf 15 = .ok (.iconst 0, 1) := by decide +kernel
theorem dL_kindOf_16 : decode cL_kindOf 16 = .ok (.ireturn, 1) := by decide +kernel
theorem dL_lengthOf_0 : decode cL_lengthOf 0 = .ok (.aload_n 2, 1) := by decide +kernel
theorem dL_lengthOf_1 : decode cL_lengthOf 1 = .ok (.iconst 0, 1) := by decide +kernel
theorem dL_lengthOf_2 : decode cL_lengthOf 2 = .ok (.aload_n 0, 1) := by decide +kernel
theorem dL_lengthOf_3 : decode cL_lengthOf 3 = .ok (.iload_n 1, 1) := by decide +kernel
theorem dL_lengthOf_4 : decode cL_lengthOf 4 = .ok (.invokevirtual 163, 3) := by decide +kernel
theorem dL_lengthOf_7 : decode cL_lengthOf 7 = .ok (.i2l, 1) := by decide +kernel
theorem dL_lengthOf_8 : decode cL_lengthOf 8 = .ok (.lastore, 1) := by decide +kernel
theorem dL_lengthOf_9 : decode cL_lengthOf 9 = .ok (.goto 6, 3) := by decide +kernel
theorem dL_lengthOf_12 : decode cL_lengthOf 12 = .ok (.astore_n 3, 1) := by decide +kernel
theorem dL_lengthOf_13 : decode cL_lengthOf 13 = .ok (.iconst 1, 1) := by decide +kernel
theorem dL_lengthOf_14 : decode cL_lengthOf 14 = .ok (.ireturn, 1) := by decide +kernel
theorem dL_lengthOf_15 : decode cL_lengthOf 15 = .ok (.iconst 0, 1) := by decide +kernel
theorem dL_lengthOf_16 : decode cL_lengthOf 16 = .ok (.ireturn, 1) := by decide +kernel
theorem dL_wordsOf_0 : decode cL_wordsOf 0 = .ok (.aload_n 2, 1) := by decide +kernel
theorem dL_wordsOf_1 : decode cL_wordsOf 1 = .ok (.iconst 0, 1) := by decide +kernel
theorem dL_wordsOf_2 : decode cL_wordsOf 2 = .ok (.aload_n 0, 1) := by decide +kernel
theorem dL_wordsOf_3 : decode cL_wordsOf 3 = .ok (.iload_n 1, 1) := by decide +kernel
theorem dL_wordsOf_4 : decode cL_wordsOf 4 = .ok (.invokevirtual 166, 3) := by decide +kernel
theorem dL_wordsOf_7 : decode cL_wordsOf 7 = .ok (.i2l, 1) := by decide +kernel
theorem dL_wordsOf_8 : decode cL_wordsOf 8 = .ok (.lastore, 1) := by decide +kernel
theorem dL_wordsOf_9 : decode cL_wordsOf 9 = .ok (.goto 6, 3) := by decide +kernel
theorem dL_wordsOf_12 : decode cL_wordsOf 12 = .ok (.astore_n 3, 1) := by decide +kernel
theorem dL_wordsOf_13 : decode cL_wordsOf 13 = .ok (.iconst 1, 1) := by decide +kernel
theorem dL_wordsOf_14 : decode cL_wordsOf 14 = .ok (.ireturn, 1) := by decide +kernel
theorem dL_wordsOf_15 : decode cL_wordsOf 15 = .ok (.iconst 0, 1) := by decide +kernel
theorem dL_wordsOf_16 : decode cL_wordsOf 16 = .ok (.ireturn, 1) := by decide +kernel
theorem dL_ageOf_0 : decode cL_ageOf 0 = .ok (.aload_n 2, 1) := by decide +kernel
theorem dL_ageOf_1 : decode cL_ageOf 1 = .ok (.iconst 0, 1) := by decide +kernel
theorem dL_ageOf_2 : decode cL_ageOf 2 = .ok (.aload_n 0, 1) := by decide +kernel
theorem dL_ageOf_3 : decode cL_ageOf 3 = .ok (.iload_n 1, 1) := by decide +kernel
theorem dL_ageOf_4 : decode cL_ageOf 4 = .ok (.invokevirtual 169, 3) := by decide +kernel
theorem dL_ageOf_7 : decode cL_ageOf 7 = .ok (.i2l, 1) := by decide +kernel
theorem dL_ageOf_8 : decode cL_ageOf 8 = .ok (.lastore, 1) := by decide +kernel
theorem dL_ageOf_9 : decode cL_ageOf 9 = .ok (.goto 6, 3) := by decide +kernel
theorem dL_ageOf_12 : decode cL_ageOf 12 = .ok (.astore_n 3, 1) := by decide +kernel
theorem dL_ageOf_13 : decode cL_ageOf 13 = .ok (.iconst 1, 1) := by decide +kernel
theorem dL_ageOf_14 : decode cL_ageOf 14 = .ok (.ireturn, 1) := by decide +kernel
theorem dL_ageOf_15 : decode cL_ageOf 15 = .ok (.iconst 0, 1) := by decide +kernel
theorem dL_ageOf_16 : decode cL_ageOf 16 = .ok (.ireturn, 1) := by decide +kernel
theorem dL_isOld_0 : decode cL_isOld 0 = .ok (.aload_n 2, 1) := by decide +kernel
theorem dL_isOld_1 : decode cL_isOld 1 = .ok (.iconst 0, 1) := by decide +kernel
theorem dL_isOld_2 : decode cL_isOld 2 = .ok (.aload_n 0, 1) := by decide +kernel
theorem dL_isOld_3 : decode cL_isOld 3 = .ok (.iload_n 1, 1) := by decide +kernel
theorem dL_isOld_4 : decode cL_isOld 4 = .ok (.invokevirtual 172, 3) := by decide +kernel
theorem dL_isOld_7 : decode cL_isOld 7 = .ok (.ifCond .eq 7, 3) := by decide +kernel
theorem dL_isOld_10 : decode cL_isOld 10 = .ok (.lconst 1, 1) := by decide +kernel
theorem dL_isOld_11 : decode cL_isOld 11 = .ok (.goto 4, 3) := by decide +kernel
theorem dL_isOld_14 : decode cL_isOld 14 = .ok (.lconst 0, 1) := by decide +kernel
theorem dL_isOld_15 : decode cL_isOld 15 = .ok (.lastore, 1) := by decide +kernel
theorem dL_isOld_16 : decode cL_isOld 16 = .ok (.goto 6, 3) := by decide +kernel
theorem dL_isOld_19 : decode cL_isOld 19 = .ok (.astore_n 3, 1) := by decide +kernel
theorem dL_isOld_20 : decode cL_isOld 20 = .ok (.iconst 1, 1) := by decide +kernel
theorem dL_isOld_21 : decode cL_isOld 21 = .ok (.ireturn, 1) := by decide +kernel
theorem dL_isOld_22 : decode cL_isOld 22 = .ok (.iconst 0, 1) := by decide +kernel
theorem dL_isOld_23 : decode cL_isOld 23 = .ok (.ireturn, 1) := by decide +kernel
theorem dL_isFinalized_0 : decode cL_isFinalized 0 = .ok (.aload_n 2, 1) := by decide +kernel
theorem dL_isFinalized_1 : decode cL_isFinalized 1 = .ok (.iconst 0, 1) := by decide +kernel
theorem dL_isFinalized_2 : decode cL_isFinalized 2 = .ok (.aload_n 0, 1) := by decide +kernel
theorem dL_isFinalized_3 : decode cL_isFinalized 3 = .ok (.iload_n 1, 1) := by decide +kernel
theorem dL_isFinalized_4 : decode cL_isFinalized 4 = .ok (.invokevirtual 175, 3) := by decide +kernel
theorem dL_isFinalized_7 : decode cL_isFinalized 7 = .ok (.ifCond .eq 7, 3) := by decide +kernel
theorem dL_isFinalized_10 : decode cL_isFinalized 10 = .ok (.lconst 1, 1) := by decide +kernel
theorem dL_isFinalized_11 : decode cL_isFinalized 11 = .ok (.goto 4, 3) := by decide +kernel
theorem dL_isFinalized_14 : decode cL_isFinalized 14 = .ok (.lconst 0, 1) := by decide +kernel
theorem dL_isFinalized_15 : decode cL_isFinalized 15 = .ok (.lastore, 1) := by decide +kernel
theorem dL_isFinalized_16 : decode cL_isFinalized 16 = .ok (.goto 6, 3) := by decide +kernel
theorem dL_isFinalized_19 : decode cL_isFinalized 19 = .ok (.astore_n 3, 1) := by decide +kernel
theorem dL_isFinalized_20 : decode cL_isFinalized 20 = .ok (.iconst 1, 1) := by decide +kernel
theorem dL_isFinalized_21 : decode cL_isFinalized 21 = .ok (.ireturn, 1) := by decide +kernel
theorem dL_isFinalized_22 : decode cL_isFinalized 22 = .ok (.iconst 0, 1) := by decide +kernel
theorem dL_isFinalized_23 : decode cL_isFinalized 23 = .ok (.ireturn, 1) := by decide +kernel
theorem dL_isInterned_0 : decode cL_isInterned 0 = .ok (.aload_n 2, 1) := by decide +kernel
theorem dL_isInterned_1 : decode cL_isInterned 1 = .ok (.iconst 0, 1) := by decide +kernel
theorem dL_isInterned_2 : decode cL_isInterned 2 = .ok (.aload_n 0, 1) := by decide +kernel
theorem dL_isInterned_3 : decode cL_isInterned 3 = .ok (.iload_n 1, 1) := by decide +kernel
theorem dL_isInterned_4 : decode cL_isInterned 4 = .ok (.invokevirtual 178, 3) := by decide +kernel
theorem dL_isInterned_7 : decode cL_isInterned 7 = .ok (.ifCond .eq 7, 3) := by decide +kernel
theorem dL_isInterned_10 : decode cL_isInterned 10 = .ok (.lconst 1, 1) := by decide +kernel
theorem dL_isInterned_11 : decode cL_isInterned 11 = .ok (.goto 4, 3) := by decide +kernel
theorem dL_isInterned_14 : decode cL_isInterned 14 = .ok (.lconst 0, 1) := by decide +kernel
theorem dL_isInterned_15 : decode cL_isInterned 15 = .ok (.lastore, 1) := by decide +kernel
theorem dL_isInterned_16 : decode cL_isInterned 16 = .ok (.goto 6, 3) := by decide +kernel
theorem dL_isInterned_19 : decode cL_isInterned 19 = .ok (.astore_n 3, 1) := by decide +kernel
theorem dL_isInterned_20 : decode cL_isInterned 20 = .ok (.iconst 1, 1) := by decide +kernel
theorem dL_isInterned_21 : decode cL_isInterned 21 = .ok (.ireturn, 1) := by decide +kernel
theorem dL_isInterned_22 : decode cL_isInterned 22 = .ok (.iconst 0, 1) := by decide +kernel
theorem dL_isInterned_23 : decode cL_isInterned 23 = .ok (.ireturn, 1) := by decide +kernel
theorem dL_isCleared_0 : decode cL_isCleared 0 = .ok (.aload_n 2, 1) := by decide +kernel
theorem dL_isCleared_1 : decode cL_isCleared 1 = .ok (.iconst 0, 1) := by decide +kernel
theorem dL_isCleared_2 : decode cL_isCleared 2 = .ok (.aload_n 0, 1) := by decide +kernel
theorem dL_isCleared_3 : decode cL_isCleared 3 = .ok (.iload_n 1, 1) := by decide +kernel
theorem dL_isCleared_4 : decode cL_isCleared 4 = .ok (.invokevirtual 181, 3) := by decide +kernel
theorem dL_isCleared_7 : decode cL_isCleared 7 = .ok (.ifCond .eq 7, 3) := by decide +kernel
theorem dL_isCleared_10 : decode cL_isCleared 10 = .ok (.lconst 1, 1) := by decide +kernel
theorem dL_isCleared_11 : decode cL_isCleared 11 = .ok (.goto 4, 3) := by decide +kernel
theorem dL_isCleared_14 : decode cL_isCleared 14 = .ok (.lconst 0, 1) := by decide +kernel
theorem dL_isCleared_15 : decode cL_isCleared 15 = .ok (.lastore, 1) := by decide +kernel
theorem dL_isCleared_16 : decode cL_isCleared 16 = .ok (.goto 6, 3) := by decide +kernel
theorem dL_isCleared_19 : decode cL_isCleared 19 = .ok (.astore_n 3, 1) := by decide +kernel
theorem dL_isCleared_20 : decode cL_isCleared 20 = .ok (.iconst 1, 1) := by decide +kernel
theorem dL_isCleared_21 : decode cL_isCleared 21 = .ok (.ireturn, 1) := by decide +kernel
theorem dL_isCleared_22 : decode cL_isCleared 22 = .ok (.iconst 0, 1) := by decide +kernel
theorem dL_isCleared_23 : decode cL_isCleared 23 = .ok (.ireturn, 1) := by decide +kernel
theorem dL_entriesOf_0 : decode cL_entriesOf 0 = .ok (.aload_n 2, 1) := by decide +kernel
theorem dL_entriesOf_1 : decode cL_entriesOf 1 = .ok (.iconst 0, 1) := by decide +kernel
theorem dL_entriesOf_2 : decode cL_entriesOf 2 = .ok (.aload_n 0, 1) := by decide +kernel
theorem dL_entriesOf_3 : decode cL_entriesOf 3 = .ok (.iload_n 1, 1) := by decide +kernel
theorem dL_entriesOf_4 : decode cL_entriesOf 4 = .ok (.invokevirtual 184, 3) := by decide +kernel
theorem dL_entriesOf_7 : decode cL_entriesOf 7 = .ok (.i2l, 1) := by decide +kernel
theorem dL_entriesOf_8 : decode cL_entriesOf 8 = .ok (.lastore, 1) := by decide +kernel
theorem dL_entriesOf_9 : decode cL_entriesOf 9 = .ok (.goto 6, 3) := by decide +kernel
theorem dL_entriesOf_12 : decode cL_entriesOf 12 = .ok (.astore_n 3, 1) := by decide +kernel
theorem dL_entriesOf_13 : decode cL_entriesOf 13 = .ok (.iconst 1, 1) := by decide +kernel
theorem dL_entriesOf_14 : decode cL_entriesOf 14 = .ok (.ireturn, 1) := by decide +kernel
theorem dL_entriesOf_15 : decode cL_entriesOf 15 = .ok (.iconst 0, 1) := by decide +kernel
theorem dL_entriesOf_16 : decode cL_entriesOf 16 = .ok (.ireturn, 1) := by decide +kernel
theorem dL_imageAt_0 : decode cL_imageAt 0 = .ok (.aload_n 2, 1) := by decide +kernel
theorem dL_imageAt_1 : decode cL_imageAt 1 = .ok (.iconst 0, 1) := by decide +kernel
theorem dL_imageAt_2 : decode cL_imageAt 2 = .ok (.aload_n 0, 1) := by decide +kernel
theorem dL_imageAt_3 : decode cL_imageAt 3 = .ok (.iload_n 1, 1) := by decide +kernel
theorem dL_imageAt_4 : decode cL_imageAt 4 = .ok (.invokevirtual 187, 3) := by decide +kernel
theorem dL_imageAt_7 : decode cL_imageAt 7 = .ok (.i2l, 1) := by decide +kernel
theorem dL_imageAt_8 : decode cL_imageAt 8 = .ok (.lastore, 1) := by decide +kernel
theorem dL_imageAt_9 : decode cL_imageAt 9 = .ok (.goto 6, 3) := by decide +kernel
theorem dL_imageAt_12 : decode cL_imageAt 12 = .ok (.astore_n 3, 1) := by decide +kernel
theorem dL_imageAt_13 : decode cL_imageAt 13 = .ok (.iconst 1, 1) := by decide +kernel
theorem dL_imageAt_14 : decode cL_imageAt 14 = .ok (.ireturn, 1) := by decide +kernel
theorem dL_imageAt_15 : decode cL_imageAt 15 = .ok (.iconst 0, 1) := by decide +kernel
theorem dL_imageAt_16 : decode cL_imageAt 16 = .ok (.ireturn, 1) := by decide +kernel
theorem dL_retained_0 : decode cL_retained 0 = .ok (.aload_n 2, 1) := by decide +kernel
theorem dL_retained_1 : decode cL_retained 1 = .ok (.iconst 0, 1) := by decide +kernel
theorem dL_retained_2 : decode cL_retained 2 = .ok (.aload_n 0, 1) := by decide +kernel
theorem dL_retained_3 : decode cL_retained 3 = .ok (.iload_n 1, 1) := by decide +kernel
theorem dL_retained_4 : decode cL_retained 4 = .ok (.invokevirtual 190, 3) := by decide +kernel
theorem dL_retained_7 : decode cL_retained 7 = .ok (.i2l, 1) := by decide +kernel
theorem dL_retained_8 : decode cL_retained 8 = .ok (.lastore, 1) := by decide +kernel
theorem dL_retained_9 : decode cL_retained 9 = .ok (.goto 9, 3) := by decide +kernel
theorem dL_retained_12 : decode cL_retained 12 = .ok (.astore_n 3, 1) := by decide +kernel
theorem dL_retained_13 : decode cL_retained 13 = .ok (.iconst 1, 1) := by decide +kernel
theorem dL_retained_14 : decode cL_retained 14 = .ok (.ireturn, 1) := by decide +kernel
theorem dL_retained_15 : decode cL_retained 15 = .ok (.astore_n 3, 1) := by decide +kernel
theorem dL_retained_16 : decode cL_retained 16 = .ok (.iconst 2, 1) := by decide +kernel
theorem dL_retained_17 : decode cL_retained 17 = .ok (.ireturn, 1) := by decide +kernel
theorem dL_retained_18 : decode cL_retained 18 = .ok (.iconst 0, 1) := by decide +kernel
theorem dL_retained_19 : decode cL_retained 19 = .ok (.ireturn, 1) := by decide +kernel
theorem dL_onCircle_0 : decode cL_onCircle 0 = .ok (.aload_n 2, 1) := by decide +kernel
theorem dL_onCircle_1 : decode cL_onCircle 1 = .ok (.iconst 0, 1) := by decide +kernel
theorem dL_onCircle_2 : decode cL_onCircle 2 = .ok (.aload_n 0, 1) := by decide +kernel
theorem dL_onCircle_3 : decode cL_onCircle 3 = .ok (.iload_n 1, 1) := by decide +kernel
theorem dL_onCircle_4 : decode cL_onCircle 4 = .ok (.invokevirtual 193, 3) := by decide +kernel
theorem dL_onCircle_7 : decode cL_onCircle 7 = .ok (.ifCond .eq 7, 3) := by decide +kernel
theorem dL_onCircle_10 : decode cL_onCircle 10 = .ok (.lconst 1, 1) := by decide +kernel
theorem dL_onCircle_11 : decode cL_onCircle 11 = .ok (.goto 4, 3) := by decide +kernel
theorem dL_onCircle_14 : decode cL_onCircle 14 = .ok (.lconst 0, 1) := by decide +kernel
theorem dL_onCircle_15 : decode cL_onCircle 15 = .ok (.lastore, 1) := by decide +kernel
theorem dL_onCircle_16 : decode cL_onCircle 16 = .ok (.goto 9, 3) := by decide +kernel
theorem dL_onCircle_19 : decode cL_onCircle 19 = .ok (.astore_n 3, 1) := by decide +kernel
theorem dL_onCircle_20 : decode cL_onCircle 20 = .ok (.iconst 1, 1) := by decide +kernel
theorem dL_onCircle_21 : decode cL_onCircle 21 = .ok (.ireturn, 1) := by decide +kernel
theorem dL_onCircle_22 : decode cL_onCircle 22 = .ok (.astore_n 3, 1) := by decide +kernel
theorem dL_onCircle_23 : decode cL_onCircle 23 = .ok (.iconst 2, 1) := by decide +kernel
theorem dL_onCircle_24 : decode cL_onCircle 24 = .ok (.ireturn, 1) := by decide +kernel
theorem dL_onCircle_25 : decode cL_onCircle 25 = .ok (.iconst 0, 1) := by decide +kernel
theorem dL_onCircle_26 : decode cL_onCircle 26 = .ok (.ireturn, 1) := by decide +kernel
theorem dL_referrers_0 : decode cL_referrers 0 = .ok (.aload_n 2, 1) := by decide +kernel
theorem dL_referrers_1 : decode cL_referrers 1 = .ok (.iconst 0, 1) := by decide +kernel
theorem dL_referrers_2 : decode cL_referrers 2 = .ok (.aload_n 0, 1) := by decide +kernel
theorem dL_referrers_3 : decode cL_referrers 3 = .ok (.iload_n 1, 1) := by decide +kernel
theorem dL_referrers_4 : decode cL_referrers 4 = .ok (.invokevirtual 196, 3) := by decide +kernel
theorem dL_referrers_7 : decode cL_referrers 7 = .ok (.i2l, 1) := by decide +kernel
theorem dL_referrers_8 : decode cL_referrers 8 = .ok (.lastore, 1) := by decide +kernel
theorem dL_referrers_9 : decode cL_referrers 9 = .ok (.goto 9, 3) := by decide +kernel
theorem dL_referrers_12 : decode cL_referrers 12 = .ok (.astore_n 3, 1) := by decide +kernel
theorem dL_referrers_13 : decode cL_referrers 13 = .ok (.iconst 1, 1) := by decide +kernel
theorem dL_referrers_14 : decode cL_referrers 14 = .ok (.ireturn, 1) := by decide +kernel
theorem dL_referrers_15 : decode cL_referrers 15 = .ok (.astore_n 3, 1) := by decide +kernel
theorem dL_referrers_16 : decode cL_referrers 16 = .ok (.iconst 2, 1) := by decide +kernel
theorem dL_referrers_17 : decode cL_referrers 17 = .ok (.ireturn, 1) := by decide +kernel
theorem dL_referrers_18 : decode cL_referrers 18 = .ok (.iconst 0, 1) := by decide +kernel
theorem dL_referrers_19 : decode cL_referrers 19 = .ok (.ireturn, 1) := by decide +kernel
theorem dL_sameShape_0 : decode cL_sameShape 0 = .ok (.aload_n 3, 1) := by decide +kernel
theorem dL_sameShape_1 : decode cL_sameShape 1 = .ok (.iconst 0, 1) := by decide +kernel
theorem dL_sameShape_2 : decode cL_sameShape 2 = .ok (.aload_n 0, 1) := by decide +kernel
theorem dL_sameShape_3 : decode cL_sameShape 3 = .ok (.iload_n 1, 1) := by decide +kernel
theorem dL_sameShape_4 : decode cL_sameShape 4 = .ok (.iload_n 2, 1) := by decide +kernel
theorem dL_sameShape_5 : decode cL_sameShape 5 = .ok (.invokevirtual 199, 3) := by decide +kernel
theorem dL_sameShape_8 : decode cL_sameShape 8 = .ok (.ifCond .eq 7, 3) := by decide +kernel
theorem dL_sameShape_11 : decode cL_sameShape 11 = .ok (.lconst 1, 1) := by decide +kernel
theorem dL_sameShape_12 : decode cL_sameShape 12 = .ok (.goto 4, 3) := by decide +kernel
theorem dL_sameShape_15 : decode cL_sameShape 15 = .ok (.lconst 0, 1) := by decide +kernel
theorem dL_sameShape_16 : decode cL_sameShape 16 = .ok (.lastore, 1) := by decide +kernel
theorem dL_sameShape_17 : decode cL_sameShape 17 = .ok (.goto 11, 3) := by decide +kernel
theorem dL_sameShape_20 : decode cL_sameShape 20 = .ok (.astore 4, 2) := by decide +kernel
theorem dL_sameShape_22 : decode cL_sameShape 22 = .ok (.iconst 1, 1) := by decide +kernel
theorem dL_sameShape_23 : decode cL_sameShape 23 = .ok (.ireturn, 1) := by decide +kernel
theorem dL_sameShape_24 : decode cL_sameShape 24 = .ok (.astore 4, 2) := by decide +kernel
theorem dL_sameShape_26 : decode cL_sameShape 26 = .ok (.iconst 2, 1) := by decide +kernel
theorem dL_sameShape_27 : decode cL_sameShape 27 = .ok (.ireturn, 1) := by decide +kernel
theorem dL_sameShape_28 : decode cL_sameShape 28 = .ok (.iconst 0, 1) := by decide +kernel
theorem dL_sameShape_29 : decode cL_sameShape 29 = .ok (.ireturn, 1) := by decide +kernel
theorem lv_L_7 : Lv RL 7 md_X11_defineKind 4 := ⟨mk_X11_defineKind, Or.inl (wa_4 165 rfl rfl), (wa_4 166 rfl rfl), (wa_4 167 rfl rfl)⟩
theorem lm_L_7 : Cond.methodLink RL 7 yX11_defineKind ∈ wAll := (wa_4 165 rfl rfl)
theorem lv_L_19 : Lv RL 19 md_X11_push 1 := ⟨mk_X11_push, Or.inl (wa_4 225 rfl rfl), (wa_4 226 rfl rfl), (wa_4 227 rfl rfl)⟩
theorem lm_L_19 : Cond.methodLink RL 19 yX11_push ∈ wAll := (wa_4 225 rfl rfl)
theorem lv_L_23 : Lv RL 23 md_X11_pop 1 := ⟨mk_X11_pop, Or.inl (wa_4 235 rfl rfl), (wa_4 236 rfl rfl), (wa_4 237 rfl rfl)⟩
theorem lm_L_23 : Cond.methodLink RL 23 yX11_pop ∈ wAll := (wa_4 235 rfl rfl)
theorem lv_L_26 : Lv RL 26 md_X11_assign 2 := ⟨mk_X11_assign, Or.inl (wa_5 8 rfl rfl), (wa_5 9 rfl rfl), (wa_5 10 rfl rfl)⟩
theorem lm_L_26 : Cond.methodLink RL 26 yX11_assign ∈ wAll := (wa_5 8 rfl rfl)
theorem lv_L_30 : Lv RL 30 md_X11_clear 1 := ⟨mk_X11_clear, Or.inl (wa_5 19 rfl rfl), (wa_5 20 rfl rfl), (wa_5 21 rfl rfl)⟩
theorem lm_L_30 : Cond.methodLink RL 30 yX11_clear ∈ wAll := (wa_5 19 rfl rfl)
theorem lv_L_33 : Lv RL 33 md_X11_toGlobal 2 := ⟨mk_X11_toGlobal, Or.inl (wa_5 26 rfl rfl), (wa_5 27 rfl rfl), (wa_5 28 rfl rfl)⟩
theorem lm_L_33 : Cond.methodLink RL 33 yX11_toGlobal ∈ wAll := (wa_5 26 rfl rfl)
theorem lv_L_36 : Lv RL 36 md_X11_fromGlobal 2 := ⟨mk_X11_fromGlobal, Or.inl (wa_5 33 rfl rfl), (wa_5 34 rfl rfl), (wa_5 35 rfl rfl)⟩
theorem lm_L_36 : Cond.methodLink RL 36 yX11_fromGlobal ∈ wAll := (wa_5 33 rfl rfl)
theorem lv_L_39 : Lv RL 39 md_X11_newObject 2 := ⟨mk_X11_newObject, Or.inl (wa_5 40 rfl rfl), (wa_5 41 rfl rfl), (wa_5 42 rfl rfl)⟩
theorem lm_L_39 : Cond.methodLink RL 39 yX11_newObject ∈ wAll := (wa_5 40 rfl rfl)
theorem lv_L_42 : Lv RL 42 md_X11_newRow 2 := ⟨mk_X11_newRow, Or.inl (wa_5 151 rfl rfl), (wa_5 152 rfl rfl), (wa_5 153 rfl rfl)⟩
theorem lm_L_42 : Cond.methodLink RL 42 yX11_newRow ∈ wAll := (wa_5 151 rfl rfl)
theorem lv_L_45 : Lv RL 45 md_X11_newText 2 := ⟨mk_X11_newText, Or.inl (wa_5 163 rfl rfl), (wa_5 164 rfl rfl), (wa_5 165 rfl rfl)⟩
theorem lm_L_45 : Cond.methodLink RL 45 yX11_newText ∈ wAll := (wa_5 163 rfl rfl)
theorem lv_L_48 : Lv RL 48 md_X11_newWeak 3 := ⟨mk_X11_newWeak, Or.inl (wa_5 170 rfl rfl), (wa_5 171 rfl rfl), (wa_5 172 rfl rfl)⟩
theorem lm_L_48 : Cond.methodLink RL 48 yX11_newWeak ∈ wAll := (wa_5 170 rfl rfl)
theorem lv_L_52 : Lv RL 52 md_X11_newSoft 3 := ⟨mk_X11_newSoft, Or.inl (wa_5 187 rfl rfl), (wa_5 188 rfl rfl), (wa_5 189 rfl rfl)⟩
theorem lm_L_52 : Cond.methodLink RL 52 yX11_newSoft ∈ wAll := (wa_5 187 rfl rfl)
theorem lv_L_55 : Lv RL 55 md_X11_newPhantom 2 := ⟨mk_X11_newPhantom, Or.inl (wa_5 194 rfl rfl), (wa_5 195 rfl rfl), (wa_5 196 rfl rfl)⟩
theorem lm_L_55 : Cond.methodLink RL 55 yX11_newPhantom ∈ wAll := (wa_5 194 rfl rfl)
theorem lv_L_58 : Lv RL 58 md_X11_newTable 2 := ⟨mk_X11_newTable, Or.inl (wa_5 201 rfl rfl), (wa_5 202 rfl rfl), (wa_5 203 rfl rfl)⟩
theorem lm_L_58 : Cond.methodLink RL 58 yX11_newTable ∈ wAll := (wa_5 201 rfl rfl)
theorem lv_L_61 : Lv RL 61 md_X11_load 3 := ⟨mk_X11_load, Or.inl (wa_5 208 rfl rfl), (wa_5 209 rfl rfl), (wa_5 210 rfl rfl)⟩
theorem lm_L_61 : Cond.methodLink RL 61 yX11_load ∈ wAll := (wa_5 208 rfl rfl)
theorem lv_L_65 : Lv RL 65 md_X11_store 3 := ⟨mk_X11_store, Or.inl (wa_5 221 rfl rfl), (wa_5 222 rfl rfl), (wa_5 223 rfl rfl)⟩
theorem lm_L_65 : Cond.methodLink RL 65 yX11_store ∈ wAll := (wa_5 221 rfl rfl)
theorem lv_L_68 : Lv RL 68 md_X11_getNumber 2 := ⟨mk_X11_getNumber, Or.inl (wa_5 228 rfl rfl), (wa_5 229 rfl rfl), (wa_5 230 rfl rfl)⟩
theorem lm_L_68 : Cond.methodLink RL 68 yX11_getNumber ∈ wAll := (wa_5 228 rfl rfl)
theorem lv_L_71 : Lv RL 71 md_X11_setNumber 3 := ⟨mk_X11_setNumber, Or.inl (wa_6 1 rfl rfl), (wa_6 2 rfl rfl), (wa_6 3 rfl rfl)⟩
theorem lm_L_71 : Cond.methodLink RL 71 yX11_setNumber ∈ wAll := (wa_6 1 rfl rfl)
theorem lv_L_74 : Lv RL 74 md_X11_getByte 2 := ⟨mk_X11_getByte, Or.inl (wa_6 8 rfl rfl), (wa_6 9 rfl rfl), (wa_6 10 rfl rfl)⟩
theorem lm_L_74 : Cond.methodLink RL 74 yX11_getByte ∈ wAll := (wa_6 8 rfl rfl)
theorem lv_L_77 : Lv RL 77 md_X11_setByte 3 := ⟨mk_X11_setByte, Or.inl (wa_6 20 rfl rfl), (wa_6 21 rfl rfl), (wa_6 22 rfl rfl)⟩
theorem lm_L_77 : Cond.methodLink RL 77 yX11_setByte ∈ wAll := (wa_6 20 rfl rfl)
theorem lv_L_80 : Lv RL 80 md_X11_read 2 := ⟨mk_X11_read, Or.inl (wa_6 28 rfl rfl), (wa_6 29 rfl rfl), (wa_6 30 rfl rfl)⟩
theorem lm_L_80 : Cond.methodLink RL 80 yX11_read ∈ wAll := (wa_6 28 rfl rfl)
theorem lv_L_83 : Lv RL 83 md_X11_refersTo 2 := ⟨mk_X11_refersTo, Or.inl (wa_6 46 rfl rfl), (wa_6 47 rfl rfl), (wa_6 48 rfl rfl)⟩
theorem lm_L_83 : Cond.methodLink RL 83 yX11_refersTo ∈ wAll := (wa_6 46 rfl rfl)
theorem lv_L_87 : Lv RL 87 md_X11_forget 1 := ⟨mk_X11_forget, Or.inl (wa_6 53 rfl rfl), (wa_6 54 rfl rfl), (wa_6 55 rfl rfl)⟩
theorem lm_L_87 : Cond.methodLink RL 87 yX11_forget ∈ wAll := (wa_6 53 rfl rfl)
theorem lv_L_91 : Lv RL 91 md_X11_poll 1 := ⟨mk_X11_poll, Or.inl (wa_6 60 rfl rfl), (wa_6 61 rfl rfl), (wa_6 62 rfl rfl)⟩
theorem lm_L_91 : Cond.methodLink RL 91 yX11_poll ∈ wAll := (wa_6 60 rfl rfl)
theorem lv_L_94 : Lv RL 94 md_X11_takeLast 1 := ⟨mk_X11_takeLast, Or.inl (wa_6 76 rfl rfl), (wa_6 77 rfl rfl), (wa_6 78 rfl rfl)⟩
theorem lm_L_94 : Cond.methodLink RL 94 yX11_takeLast ∈ wAll := (wa_6 76 rfl rfl)
theorem lv_L_97 : Lv RL 97 md_X11_put 3 := ⟨mk_X11_put, Or.inl (wa_6 83 rfl rfl), (wa_6 84 rfl rfl), (wa_6 85 rfl rfl)⟩
theorem lm_L_97 : Cond.methodLink RL 97 yX11_put ∈ wAll := (wa_6 83 rfl rfl)
theorem lv_L_101 : Lv RL 101 md_X11_get 3 := ⟨mk_X11_get, Or.inl (wa_6 100 rfl rfl), (wa_6 101 rfl rfl), (wa_6 102 rfl rfl)⟩
theorem lm_L_101 : Cond.methodLink RL 101 yX11_get ∈ wAll := (wa_6 100 rfl rfl)
theorem lv_L_104 : Lv RL 104 md_X11_remove 2 := ⟨mk_X11_remove, Or.inl (wa_6 107 rfl rfl), (wa_6 108 rfl rfl), (wa_6 109 rfl rfl)⟩
theorem lm_L_104 : Cond.methodLink RL 104 yX11_remove ∈ wAll := (wa_6 107 rfl rfl)
theorem lv_L_107 : Lv RL 107 md_X11_intern 2 := ⟨mk_X11_intern, Or.inl (wa_6 114 rfl rfl), (wa_6 115 rfl rfl), (wa_6 116 rfl rfl)⟩
theorem lm_L_107 : Cond.methodLink RL 107 yX11_intern ∈ wAll := (wa_6 114 rfl rfl)
theorem lv_L_110 : Lv RL 110 md_X11_deepCopy 2 := ⟨mk_X11_deepCopy, Or.inl (wa_6 130 rfl rfl), (wa_6 131 rfl rfl), (wa_6 132 rfl rfl)⟩
theorem lm_L_110 : Cond.methodLink RL 110 yX11_deepCopy ∈ wAll := (wa_6 130 rfl rfl)
theorem lv_L_113 : Lv RL 113 md_X11_writeImage 1 := ⟨mk_X11_writeImage, Or.inl (wa_6 169 rfl rfl), (wa_6 170 rfl rfl), (wa_6 171 rfl rfl)⟩
theorem lm_L_113 : Cond.methodLink RL 113 yX11_writeImage ∈ wAll := (wa_6 169 rfl rfl)
theorem lv_L_116 : Lv RL 116 md_X11_setImage 2 := ⟨mk_X11_setImage, Or.inl (wa_6 192 rfl rfl), (wa_6 193 rfl rfl), (wa_6 194 rfl rfl)⟩
theorem lm_L_116 : Cond.methodLink RL 116 yX11_setImage ∈ wAll := (wa_6 192 rfl rfl)
theorem lv_L_119 : Lv RL 119 md_X11_readImage 1 := ⟨mk_X11_readImage, Or.inl (wa_6 204 rfl rfl), (wa_6 205 rfl rfl), (wa_6 206 rfl rfl)⟩
theorem lm_L_119 : Cond.methodLink RL 119 yX11_readImage ∈ wAll := (wa_6 204 rfl rfl)
theorem lv_L_122 : Lv RL 122 md_X11_setTenure 1 := ⟨mk_X11_setTenure, Or.inl (wa_7 19 rfl rfl), (wa_7 20 rfl rfl), (wa_7 21 rfl rfl)⟩
theorem lm_L_122 : Cond.methodLink RL 122 yX11_setTenure ∈ wAll := (wa_7 19 rfl rfl)
theorem lv_L_125 : Lv RL 125 md_X11_collectYoung 0 := ⟨mk_X11_collectYoung, Or.inl (wa_7 26 rfl rfl), (wa_7 27 rfl rfl), (wa_7 28 rfl rfl)⟩
theorem lm_L_125 : Cond.methodLink RL 125 yX11_collectYoung ∈ wAll := (wa_7 26 rfl rfl)
theorem lv_L_129 : Lv RL 129 md_X11_collectAll 1 := ⟨mk_X11_collectAll, Or.inl (wa_7 39 rfl rfl), (wa_7 40 rfl rfl), (wa_7 41 rfl rfl)⟩
theorem lm_L_129 : Cond.methodLink RL 129 yX11_collectAll ∈ wAll := (wa_7 39 rfl rfl)
theorem lv_L_133 : Lv RL 133 md_X11_beginMarking 0 := ⟨mk_X11_beginMarking, Or.inl (wa_7 46 rfl rfl), (wa_7 47 rfl rfl), (wa_7 48 rfl rfl)⟩
theorem lm_L_133 : Cond.methodLink RL 133 yX11_beginMarking ∈ wAll := (wa_7 46 rfl rfl)
theorem lv_L_136 : Lv RL 136 md_X11_step 1 := ⟨mk_X11_step, Or.inl (wa_7 60 rfl rfl), (wa_7 61 rfl rfl), (wa_7 62 rfl rfl)⟩
theorem lm_L_136 : Cond.methodLink RL 136 yX11_step ∈ wAll := (wa_7 60 rfl rfl)
theorem lv_L_139 : Lv RL 139 md_X11_referencesOf 1 := ⟨mk_X11_referencesOf, Or.inl (wa_7 79 rfl rfl), (wa_7 80 rfl rfl), (wa_7 81 rfl rfl)⟩
theorem lm_L_139 : Cond.methodLink RL 139 yX11_referencesOf ∈ wAll := (wa_7 79 rfl rfl)
theorem lv_L_142 : Lv RL 142 md_X11_numbersOf 1 := ⟨mk_X11_numbersOf, Or.inl (wa_7 86 rfl rfl), (wa_7 87 rfl rfl), (wa_7 88 rfl rfl)⟩
theorem lm_L_142 : Cond.methodLink RL 142 yX11_numbersOf ∈ wAll := (wa_7 86 rfl rfl)
theorem lv_L_145 : Lv RL 145 md_X11_isFinal 1 := ⟨mk_X11_isFinal, Or.inl (wa_7 93 rfl rfl), (wa_7 94 rfl rfl), (wa_7 95 rfl rfl)⟩
theorem lm_L_145 : Cond.methodLink RL 145 yX11_isFinal ∈ wAll := (wa_7 93 rfl rfl)
theorem lv_L_148 : Lv RL 148 md_X11_isKindOf 2 := ⟨mk_X11_isKindOf, Or.inl (wa_7 100 rfl rfl), (wa_7 101 rfl rfl), (wa_7 102 rfl rfl)⟩
theorem lm_L_148 : Cond.methodLink RL 148 yX11_isKindOf ∈ wAll := (wa_7 100 rfl rfl)
theorem lv_L_151 : Lv RL 151 md_X11_numberOf 1 := ⟨mk_X11_numberOf, Or.inl (wa_7 111 rfl rfl), (wa_4 14 rfl rfl), (wa_4 15 rfl rfl)⟩
theorem lm_L_151 : Cond.methodLink RL 151 yX11_numberOf ∈ wAll := (wa_7 111 rfl rfl)
theorem lv_L_154 : Lv RL 154 md_X11_globalNumber 1 := ⟨mk_X11_globalNumber, Or.inl (wa_7 115 rfl rfl), (wa_4 147 rfl rfl), (wa_4 148 rfl rfl)⟩
theorem lm_L_154 : Cond.methodLink RL 154 yX11_globalNumber ∈ wAll := (wa_7 115 rfl rfl)
theorem lv_L_157 : Lv RL 157 md_X11_formOf 1 := ⟨mk_X11_formOf, Or.inl (wa_7 119 rfl rfl), (wa_4 95 rfl rfl), (wa_4 96 rfl rfl)⟩
theorem lm_L_157 : Cond.methodLink RL 157 yX11_formOf ∈ wAll := (wa_7 119 rfl rfl)
theorem lv_L_160 : Lv RL 160 md_X11_kindOf 1 := ⟨mk_X11_kindOf, Or.inl (wa_7 123 rfl rfl), (wa_4 99 rfl rfl), (wa_4 100 rfl rfl)⟩
theorem lm_L_160 : Cond.methodLink RL 160 yX11_kindOf ∈ wAll := (wa_7 123 rfl rfl)
theorem lv_L_163 : Lv RL 163 md_X11_lengthOf 1 := ⟨mk_X11_lengthOf, Or.inl (wa_7 127 rfl rfl), (wa_4 103 rfl rfl), (wa_4 104 rfl rfl)⟩
theorem lm_L_163 : Cond.methodLink RL 163 yX11_lengthOf ∈ wAll := (wa_7 127 rfl rfl)
theorem lv_L_166 : Lv RL 166 md_X11_wordsOf 1 := ⟨mk_X11_wordsOf, Or.inl (wa_7 131 rfl rfl), (wa_4 107 rfl rfl), (wa_4 108 rfl rfl)⟩
theorem lm_L_166 : Cond.methodLink RL 166 yX11_wordsOf ∈ wAll := (wa_7 131 rfl rfl)
theorem lv_L_169 : Lv RL 169 md_X11_ageOf 1 := ⟨mk_X11_ageOf, Or.inl (wa_7 135 rfl rfl), (wa_4 111 rfl rfl), (wa_4 112 rfl rfl)⟩
theorem lm_L_169 : Cond.methodLink RL 169 yX11_ageOf ∈ wAll := (wa_7 135 rfl rfl)
theorem lv_L_172 : Lv RL 172 md_X11_isOld 1 := ⟨mk_X11_isOld, Or.inl (wa_7 139 rfl rfl), (wa_4 115 rfl rfl), (wa_4 116 rfl rfl)⟩
theorem lm_L_172 : Cond.methodLink RL 172 yX11_isOld ∈ wAll := (wa_7 139 rfl rfl)
theorem lv_L_175 : Lv RL 175 md_X11_isFinalized 1 := ⟨mk_X11_isFinalized, Or.inl (wa_7 143 rfl rfl), (wa_4 119 rfl rfl), (wa_4 120 rfl rfl)⟩
theorem lm_L_175 : Cond.methodLink RL 175 yX11_isFinalized ∈ wAll := (wa_7 143 rfl rfl)
theorem lv_L_178 : Lv RL 178 md_X11_isInterned 1 := ⟨mk_X11_isInterned, Or.inl (wa_7 147 rfl rfl), (wa_4 123 rfl rfl), (wa_4 124 rfl rfl)⟩
theorem lm_L_178 : Cond.methodLink RL 178 yX11_isInterned ∈ wAll := (wa_7 147 rfl rfl)
theorem lv_L_181 : Lv RL 181 md_X11_isCleared 1 := ⟨mk_X11_isCleared, Or.inl (wa_7 151 rfl rfl), (wa_4 127 rfl rfl), (wa_4 128 rfl rfl)⟩
theorem lm_L_181 : Cond.methodLink RL 181 yX11_isCleared ∈ wAll := (wa_7 151 rfl rfl)
theorem lv_L_184 : Lv RL 184 md_X11_entriesOf 1 := ⟨mk_X11_entriesOf, Or.inl (wa_7 155 rfl rfl), (wa_4 139 rfl rfl), (wa_4 140 rfl rfl)⟩
theorem lm_L_184 : Cond.methodLink RL 184 yX11_entriesOf ∈ wAll := (wa_7 155 rfl rfl)
theorem lv_L_187 : Lv RL 187 md_X11_imageAt 1 := ⟨mk_X11_imageAt, Or.inl (wa_7 159 rfl rfl), (wa_7 160 rfl rfl), (wa_7 161 rfl rfl)⟩
theorem lm_L_187 : Cond.methodLink RL 187 yX11_imageAt ∈ wAll := (wa_7 159 rfl rfl)
theorem lv_L_190 : Lv RL 190 md_X11_retained 1 := ⟨mk_X11_retained, Or.inl (wa_7 166 rfl rfl), (wa_7 167 rfl rfl), (wa_7 168 rfl rfl)⟩
theorem lm_L_190 : Cond.methodLink RL 190 yX11_retained ∈ wAll := (wa_7 166 rfl rfl)
theorem lv_L_193 : Lv RL 193 md_X11_onCircle 1 := ⟨mk_X11_onCircle, Or.inl (wa_7 174 rfl rfl), (wa_7 175 rfl rfl), (wa_7 176 rfl rfl)⟩
theorem lm_L_193 : Cond.methodLink RL 193 yX11_onCircle ∈ wAll := (wa_7 174 rfl rfl)
theorem lv_L_196 : Lv RL 196 md_X11_referrers 1 := ⟨mk_X11_referrers, Or.inl (wa_7 186 rfl rfl), (wa_7 187 rfl rfl), (wa_7 188 rfl rfl)⟩
theorem lm_L_196 : Cond.methodLink RL 196 yX11_referrers ∈ wAll := (wa_7 186 rfl rfl)
theorem lv_L_199 : Lv RL 199 md_X11_sameShape 2 := ⟨mk_X11_sameShape, Or.inl (wa_7 197 rfl rfl), (wa_7 198 rfl rfl), (wa_7 199 rfl rfl)⟩
theorem lm_L_199 : Cond.methodLink RL 199 yX11_sameShape ∈ wAll := (wa_7 197 rfl rfl)
theorem lv_L_211 : Lv RL 211 md_X13_defineKind 4 := ⟨mk_X13_defineKind, Or.inl (wa_8 162 rfl rfl), (wa_8 163 rfl rfl), (wa_8 164 rfl rfl)⟩
theorem lm_L_211 : Cond.methodLink RL 211 yX13_defineKind ∈ wAll := (wa_8 162 rfl rfl)
theorem lv_L_212 : Lv RL 212 md_X13_thrown 0 := ⟨mk_X13_thrown, Or.inl (wa_8 158 rfl rfl), (wa_8 159 rfl rfl), (wa_8 160 rfl rfl)⟩
theorem lm_L_212 : Cond.methodLink RL 212 yX13_thrown ∈ wAll := (wa_8 158 rfl rfl)
theorem lv_L_218 : Lv RL 218 md_X13_push 1 := ⟨mk_X13_push, Or.inl (wa_8 185 rfl rfl), (wa_8 186 rfl rfl), (wa_8 187 rfl rfl)⟩
theorem lm_L_218 : Cond.methodLink RL 218 yX13_push ∈ wAll := (wa_8 185 rfl rfl)
theorem lv_L_221 : Lv RL 221 md_X13_pop 1 := ⟨mk_X13_pop, Or.inl (wa_8 189 rfl rfl), (wa_8 190 rfl rfl), (wa_8 191 rfl rfl)⟩
theorem lm_L_221 : Cond.methodLink RL 221 yX13_pop ∈ wAll := (wa_8 189 rfl rfl)
theorem lv_L_225 : Lv RL 225 md_X13_assign 2 := ⟨mk_X13_assign, Or.inl (wa_8 209 rfl rfl), (wa_8 210 rfl rfl), (wa_8 211 rfl rfl)⟩
theorem lm_L_225 : Cond.methodLink RL 225 yX13_assign ∈ wAll := (wa_8 209 rfl rfl)
theorem lv_L_228 : Lv RL 228 md_X13_clear 1 := ⟨mk_X13_clear, Or.inl (wa_8 213 rfl rfl), (wa_8 214 rfl rfl), (wa_8 215 rfl rfl)⟩
theorem lm_L_228 : Cond.methodLink RL 228 yX13_clear ∈ wAll := (wa_8 213 rfl rfl)
theorem lv_L_231 : Lv RL 231 md_X13_toGlobal 2 := ⟨mk_X13_toGlobal, Or.inl (wa_8 217 rfl rfl), (wa_8 218 rfl rfl), (wa_8 219 rfl rfl)⟩
theorem lm_L_231 : Cond.methodLink RL 231 yX13_toGlobal ∈ wAll := (wa_8 217 rfl rfl)
theorem lv_L_234 : Lv RL 234 md_X13_fromGlobal 2 := ⟨mk_X13_fromGlobal, Or.inl (wa_8 224 rfl rfl), (wa_8 225 rfl rfl), (wa_8 226 rfl rfl)⟩
theorem lm_L_234 : Cond.methodLink RL 234 yX13_fromGlobal ∈ wAll := (wa_8 224 rfl rfl)
theorem lv_L_237 : Lv RL 237 md_X13_newObject 2 := ⟨mk_X13_newObject, Or.inl (wa_8 228 rfl rfl), (wa_8 229 rfl rfl), (wa_8 230 rfl rfl)⟩
theorem lm_L_237 : Cond.methodLink RL 237 yX13_newObject ∈ wAll := (wa_8 228 rfl rfl)
theorem lv_L_240 : Lv RL 240 md_X13_newRow 2 := ⟨mk_X13_newRow, Or.inl (wa_10 139 rfl rfl), (wa_10 140 rfl rfl), (wa_10 141 rfl rfl)⟩
theorem lm_L_240 : Cond.methodLink RL 240 yX13_newRow ∈ wAll := (wa_10 139 rfl rfl)
theorem lv_L_243 : Lv RL 243 md_X13_newText 2 := ⟨mk_X13_newText, Or.inl (wa_10 143 rfl rfl), (wa_10 144 rfl rfl), (wa_10 145 rfl rfl)⟩
theorem lm_L_243 : Cond.methodLink RL 243 yX13_newText ∈ wAll := (wa_10 143 rfl rfl)
theorem lv_L_247 : Lv RL 247 md_X13_newWeak 3 := ⟨mk_X13_newWeak, Or.inl (wa_10 147 rfl rfl), (wa_10 148 rfl rfl), (wa_10 149 rfl rfl)⟩
theorem lm_L_247 : Cond.methodLink RL 247 yX13_newWeak ∈ wAll := (wa_10 147 rfl rfl)
theorem lv_L_250 : Lv RL 250 md_X13_newSoft 3 := ⟨mk_X13_newSoft, Or.inl (wa_10 156 rfl rfl), (wa_10 157 rfl rfl), (wa_10 158 rfl rfl)⟩
theorem lm_L_250 : Cond.methodLink RL 250 yX13_newSoft ∈ wAll := (wa_10 156 rfl rfl)
theorem lv_L_253 : Lv RL 253 md_X13_newPhantom 2 := ⟨mk_X13_newPhantom, Or.inl (wa_10 160 rfl rfl), (wa_10 161 rfl rfl), (wa_10 162 rfl rfl)⟩
theorem lm_L_253 : Cond.methodLink RL 253 yX13_newPhantom ∈ wAll := (wa_10 160 rfl rfl)
theorem lv_L_256 : Lv RL 256 md_X13_newTable 2 := ⟨mk_X13_newTable, Or.inl (wa_10 164 rfl rfl), (wa_10 165 rfl rfl), (wa_10 166 rfl rfl)⟩
theorem lm_L_256 : Cond.methodLink RL 256 yX13_newTable ∈ wAll := (wa_10 164 rfl rfl)
theorem lv_L_260 : Lv RL 260 md_X13_load 3 := ⟨mk_X13_load, Or.inl (wa_10 168 rfl rfl), (wa_10 169 rfl rfl), (wa_10 170 rfl rfl)⟩
theorem lm_L_260 : Cond.methodLink RL 260 yX13_load ∈ wAll := (wa_10 168 rfl rfl)
theorem lv_L_263 : Lv RL 263 md_X13_store 3 := ⟨mk_X13_store, Or.inl (wa_10 181 rfl rfl), (wa_10 182 rfl rfl), (wa_10 183 rfl rfl)⟩
theorem lm_L_263 : Cond.methodLink RL 263 yX13_store ∈ wAll := (wa_10 181 rfl rfl)
theorem lv_L_266 : Lv RL 266 md_X13_getNumber 2 := ⟨mk_X13_getNumber, Or.inl (wa_10 189 rfl rfl), (wa_10 190 rfl rfl), (wa_10 191 rfl rfl)⟩
theorem lm_L_266 : Cond.methodLink RL 266 yX13_getNumber ∈ wAll := (wa_10 189 rfl rfl)
theorem lv_L_269 : Lv RL 269 md_X13_setNumber 3 := ⟨mk_X13_setNumber, Or.inl (wa_10 197 rfl rfl), (wa_10 198 rfl rfl), (wa_10 199 rfl rfl)⟩
theorem lm_L_269 : Cond.methodLink RL 269 yX13_setNumber ∈ wAll := (wa_10 197 rfl rfl)
theorem lv_L_272 : Lv RL 272 md_X13_getByte 2 := ⟨mk_X13_getByte, Or.inl (wa_10 201 rfl rfl), (wa_10 202 rfl rfl), (wa_10 203 rfl rfl)⟩
theorem lm_L_272 : Cond.methodLink RL 272 yX13_getByte ∈ wAll := (wa_10 201 rfl rfl)
theorem lv_L_275 : Lv RL 275 md_X13_setByte 3 := ⟨mk_X13_setByte, Or.inl (wa_10 209 rfl rfl), (wa_10 210 rfl rfl), (wa_10 211 rfl rfl)⟩
theorem lm_L_275 : Cond.methodLink RL 275 yX13_setByte ∈ wAll := (wa_10 209 rfl rfl)
theorem lv_L_278 : Lv RL 278 md_X13_read_ 2 := ⟨mk_X13_read_, Or.inl (wa_10 218 rfl rfl), (wa_10 219 rfl rfl), (wa_10 220 rfl rfl)⟩
theorem lm_L_278 : Cond.methodLink RL 278 yX13_read_ ∈ wAll := (wa_10 218 rfl rfl)
theorem lv_L_281 : Lv RL 281 md_X13_refersTo 2 := ⟨mk_X13_refersTo, Or.inl (wa_10 234 rfl rfl), (wa_10 235 rfl rfl), (wa_10 236 rfl rfl)⟩
theorem lm_L_281 : Cond.methodLink RL 281 yX13_refersTo ∈ wAll := (wa_10 234 rfl rfl)
theorem lv_L_284 : Lv RL 284 md_X13_forget 1 := ⟨mk_X13_forget, Or.inl (wa_11 2 rfl rfl), (wa_11 3 rfl rfl), (wa_11 4 rfl rfl)⟩
theorem lm_L_284 : Cond.methodLink RL 284 yX13_forget ∈ wAll := (wa_11 2 rfl rfl)
theorem lv_L_287 : Lv RL 287 md_X13_poll 1 := ⟨mk_X13_poll, Or.inl (wa_11 6 rfl rfl), (wa_11 7 rfl rfl), (wa_11 8 rfl rfl)⟩
theorem lm_L_287 : Cond.methodLink RL 287 yX13_poll ∈ wAll := (wa_11 6 rfl rfl)
theorem lv_L_290 : Lv RL 290 md_X13_takeLast 1 := ⟨mk_X13_takeLast, Or.inl (wa_11 11 rfl rfl), (wa_11 12 rfl rfl), (wa_11 13 rfl rfl)⟩
theorem lm_L_290 : Cond.methodLink RL 290 yX13_takeLast ∈ wAll := (wa_11 11 rfl rfl)
theorem lv_L_293 : Lv RL 293 md_X13_put 3 := ⟨mk_X13_put, Or.inl (wa_11 15 rfl rfl), (wa_11 16 rfl rfl), (wa_11 17 rfl rfl)⟩
theorem lm_L_293 : Cond.methodLink RL 293 yX13_put ∈ wAll := (wa_11 15 rfl rfl)
theorem lv_L_296 : Lv RL 296 md_X13_get 3 := ⟨mk_X13_get, Or.inl (wa_11 27 rfl rfl), (wa_11 28 rfl rfl), (wa_11 29 rfl rfl)⟩
theorem lm_L_296 : Cond.methodLink RL 296 yX13_get ∈ wAll := (wa_11 27 rfl rfl)
theorem lv_L_299 : Lv RL 299 md_X13_remove 2 := ⟨mk_X13_remove, Or.inl (wa_11 31 rfl rfl), (wa_11 32 rfl rfl), (wa_11 33 rfl rfl)⟩
theorem lm_L_299 : Cond.methodLink RL 299 yX13_remove ∈ wAll := (wa_11 31 rfl rfl)
theorem lv_L_302 : Lv RL 302 md_X13_intern 2 := ⟨mk_X13_intern, Or.inl (wa_11 36 rfl rfl), (wa_11 37 rfl rfl), (wa_11 38 rfl rfl)⟩
theorem lm_L_302 : Cond.methodLink RL 302 yX13_intern ∈ wAll := (wa_11 36 rfl rfl)
theorem lv_L_305 : Lv RL 305 md_X13_deepCopy 2 := ⟨mk_X13_deepCopy, Or.inl (wa_11 44 rfl rfl), (wa_11 45 rfl rfl), (wa_11 46 rfl rfl)⟩
theorem lm_L_305 : Cond.methodLink RL 305 yX13_deepCopy ∈ wAll := (wa_11 44 rfl rfl)
theorem lv_L_308 : Lv RL 308 md_X13_writeImage 1 := ⟨mk_X13_writeImage, Or.inl (wa_11 65 rfl rfl), (wa_11 66 rfl rfl), (wa_11 67 rfl rfl)⟩
theorem lm_L_308 : Cond.methodLink RL 308 yX13_writeImage ∈ wAll := (wa_11 65 rfl rfl)
theorem lv_L_311 : Lv RL 311 md_X13_setImage 2 := ⟨mk_X13_setImage, Or.inl (wa_11 73 rfl rfl), (wa_11 74 rfl rfl), (wa_11 75 rfl rfl)⟩
theorem lm_L_311 : Cond.methodLink RL 311 yX13_setImage ∈ wAll := (wa_11 73 rfl rfl)
theorem lv_L_314 : Lv RL 314 md_X13_readImage 1 := ⟨mk_X13_readImage, Or.inl (wa_11 77 rfl rfl), (wa_11 78 rfl rfl), (wa_11 79 rfl rfl)⟩
theorem lm_L_314 : Cond.methodLink RL 314 yX13_readImage ∈ wAll := (wa_11 77 rfl rfl)
theorem lv_L_317 : Lv RL 317 md_X13_setTenure 1 := ⟨mk_X13_setTenure, Or.inl (wa_11 99 rfl rfl), (wa_11 100 rfl rfl), (wa_11 101 rfl rfl)⟩
theorem lm_L_317 : Cond.methodLink RL 317 yX13_setTenure ∈ wAll := (wa_11 99 rfl rfl)
theorem lv_L_321 : Lv RL 321 md_X13_collectYoung 0 := ⟨mk_X13_collectYoung, Or.inl (wa_11 103 rfl rfl), (wa_11 104 rfl rfl), (wa_11 105 rfl rfl)⟩
theorem lm_L_321 : Cond.methodLink RL 321 yX13_collectYoung ∈ wAll := (wa_11 103 rfl rfl)
theorem lv_L_325 : Lv RL 325 md_X13_collectAll 1 := ⟨mk_X13_collectAll, Or.inl (wa_11 107 rfl rfl), (wa_11 108 rfl rfl), (wa_11 109 rfl rfl)⟩
theorem lm_L_325 : Cond.methodLink RL 325 yX13_collectAll ∈ wAll := (wa_11 107 rfl rfl)
theorem lv_L_328 : Lv RL 328 md_X13_beginMarking 0 := ⟨mk_X13_beginMarking, Or.inl (wa_11 111 rfl rfl), (wa_11 112 rfl rfl), (wa_11 113 rfl rfl)⟩
theorem lm_L_328 : Cond.methodLink RL 328 yX13_beginMarking ∈ wAll := (wa_11 111 rfl rfl)
theorem lv_L_331 : Lv RL 331 md_X13_step 1 := ⟨mk_X13_step, Or.inl (wa_11 121 rfl rfl), (wa_11 122 rfl rfl), (wa_11 123 rfl rfl)⟩
theorem lm_L_331 : Cond.methodLink RL 331 yX13_step ∈ wAll := (wa_11 121 rfl rfl)
theorem lv_L_332 : Lv RL 332 md_X11_frames 0 := ⟨mk_X11_frames, Or.inl (wa_3 17 rfl rfl), (wa_3 18 rfl rfl), (wa_3 19 rfl rfl)⟩
theorem lm_L_332 : Cond.methodLink RL 332 yX11_frames ∈ wAll := (wa_3 17 rfl rfl)
theorem lv_L_335 : Lv RL 335 md_X13_frames 0 := ⟨mk_X13_frames, Or.inl (wa_11 126 rfl rfl), (wa_11 127 rfl rfl), (wa_11 128 rfl rfl)⟩
theorem lm_L_335 : Cond.methodLink RL 335 yX13_frames ∈ wAll := (wa_11 126 rfl rfl)
theorem lv_L_336 : Lv RL 336 md_X11_slots 0 := ⟨mk_X11_slots, Or.inl (wa_3 21 rfl rfl), (wa_3 22 rfl rfl), (wa_3 23 rfl rfl)⟩
theorem lm_L_336 : Cond.methodLink RL 336 yX11_slots ∈ wAll := (wa_3 21 rfl rfl)
theorem lv_L_339 : Lv RL 339 md_X13_slots 0 := ⟨mk_X13_slots, Or.inl (wa_11 134 rfl rfl), (wa_11 135 rfl rfl), (wa_11 136 rfl rfl)⟩
theorem lm_L_339 : Cond.methodLink RL 339 yX13_slots ∈ wAll := (wa_11 134 rfl rfl)
theorem lv_L_340 : Lv RL 340 md_X11_kinds 0 := ⟨mk_X11_kinds, Or.inl (wa_3 29 rfl rfl), (wa_3 30 rfl rfl), (wa_3 31 rfl rfl)⟩
theorem lm_L_340 : Cond.methodLink RL 340 yX11_kinds ∈ wAll := (wa_3 29 rfl rfl)
theorem lv_L_343 : Lv RL 343 md_X13_kinds 0 := ⟨mk_X13_kinds, Or.inl (wa_11 138 rfl rfl), (wa_11 139 rfl rfl), (wa_11 140 rfl rfl)⟩
theorem lm_L_343 : Cond.methodLink RL 343 yX13_kinds ∈ wAll := (wa_11 138 rfl rfl)
theorem lv_L_346 : Lv RL 346 md_X13_referencesOf 1 := ⟨mk_X13_referencesOf, Or.inl (wa_11 142 rfl rfl), (wa_11 143 rfl rfl), (wa_11 144 rfl rfl)⟩
theorem lm_L_346 : Cond.methodLink RL 346 yX13_referencesOf ∈ wAll := (wa_11 142 rfl rfl)
theorem lv_L_349 : Lv RL 349 md_X13_numbersOf 1 := ⟨mk_X13_numbersOf, Or.inl (wa_11 146 rfl rfl), (wa_11 147 rfl rfl), (wa_11 148 rfl rfl)⟩
theorem lm_L_349 : Cond.methodLink RL 349 yX13_numbersOf ∈ wAll := (wa_11 146 rfl rfl)
theorem lv_L_352 : Lv RL 352 md_X13_isFinal 1 := ⟨mk_X13_isFinal, Or.inl (wa_11 150 rfl rfl), (wa_11 151 rfl rfl), (wa_11 152 rfl rfl)⟩
theorem lm_L_352 : Cond.methodLink RL 352 yX13_isFinal ∈ wAll := (wa_11 150 rfl rfl)
theorem lv_L_355 : Lv RL 355 md_X13_isKindOf 2 := ⟨mk_X13_isKindOf, Or.inl (wa_11 154 rfl rfl), (wa_11 155 rfl rfl), (wa_11 156 rfl rfl)⟩
theorem lm_L_355 : Cond.methodLink RL 355 yX13_isKindOf ∈ wAll := (wa_11 154 rfl rfl)
theorem lv_L_358 : Lv RL 358 md_X13_numberOf 1 := ⟨mk_X13_numberOf, Or.inl (wa_11 158 rfl rfl), (wa_11 159 rfl rfl), (wa_11 160 rfl rfl)⟩
theorem lm_L_358 : Cond.methodLink RL 358 yX13_numberOf ∈ wAll := (wa_11 158 rfl rfl)
theorem lv_L_361 : Lv RL 361 md_X13_globalNumber 1 := ⟨mk_X13_globalNumber, Or.inl (wa_11 162 rfl rfl), (wa_11 163 rfl rfl), (wa_11 164 rfl rfl)⟩
theorem lm_L_361 : Cond.methodLink RL 361 yX13_globalNumber ∈ wAll := (wa_11 162 rfl rfl)
theorem lv_L_364 : Lv RL 364 md_X13_formOf 1 := ⟨mk_X13_formOf, Or.inl (wa_11 166 rfl rfl), (wa_11 167 rfl rfl), (wa_11 168 rfl rfl)⟩
theorem lm_L_364 : Cond.methodLink RL 364 yX13_formOf ∈ wAll := (wa_11 166 rfl rfl)
theorem lv_L_367 : Lv RL 367 md_X13_kindOf 1 := ⟨mk_X13_kindOf, Or.inl (wa_11 170 rfl rfl), (wa_11 171 rfl rfl), (wa_11 172 rfl rfl)⟩
theorem lm_L_367 : Cond.methodLink RL 367 yX13_kindOf ∈ wAll := (wa_11 170 rfl rfl)
theorem lv_L_370 : Lv RL 370 md_X13_lengthOf 1 := ⟨mk_X13_lengthOf, Or.inl (wa_11 178 rfl rfl), (wa_11 179 rfl rfl), (wa_11 180 rfl rfl)⟩
theorem lm_L_370 : Cond.methodLink RL 370 yX13_lengthOf ∈ wAll := (wa_11 178 rfl rfl)
theorem lv_L_373 : Lv RL 373 md_X13_wordsOf 1 := ⟨mk_X13_wordsOf, Or.inl (wa_11 186 rfl rfl), (wa_11 187 rfl rfl), (wa_11 188 rfl rfl)⟩
theorem lm_L_373 : Cond.methodLink RL 373 yX13_wordsOf ∈ wAll := (wa_11 186 rfl rfl)
theorem lv_L_376 : Lv RL 376 md_X13_ageOf 1 := ⟨mk_X13_ageOf, Or.inl (wa_11 194 rfl rfl), (wa_11 195 rfl rfl), (wa_11 196 rfl rfl)⟩
theorem lm_L_376 : Cond.methodLink RL 376 yX13_ageOf ∈ wAll := (wa_11 194 rfl rfl)
theorem lv_L_379 : Lv RL 379 md_X13_isOld 1 := ⟨mk_X13_isOld, Or.inl (wa_11 202 rfl rfl), (wa_11 203 rfl rfl), (wa_11 204 rfl rfl)⟩
theorem lm_L_379 : Cond.methodLink RL 379 yX13_isOld ∈ wAll := (wa_11 202 rfl rfl)
theorem lv_L_382 : Lv RL 382 md_X13_isFinalized 1 := ⟨mk_X13_isFinalized, Or.inl (wa_11 206 rfl rfl), (wa_11 207 rfl rfl), (wa_11 208 rfl rfl)⟩
theorem lm_L_382 : Cond.methodLink RL 382 yX13_isFinalized ∈ wAll := (wa_11 206 rfl rfl)
theorem lv_L_385 : Lv RL 385 md_X13_isInterned 1 := ⟨mk_X13_isInterned, Or.inl (wa_11 210 rfl rfl), (wa_11 211 rfl rfl), (wa_11 212 rfl rfl)⟩
theorem lm_L_385 : Cond.methodLink RL 385 yX13_isInterned ∈ wAll := (wa_11 210 rfl rfl)
theorem lv_L_388 : Lv RL 388 md_X13_isCleared 1 := ⟨mk_X13_isCleared, Or.inl (wa_11 214 rfl rfl), (wa_11 215 rfl rfl), (wa_11 216 rfl rfl)⟩
theorem lm_L_388 : Cond.methodLink RL 388 yX13_isCleared ∈ wAll := (wa_11 214 rfl rfl)
theorem lv_L_391 : Lv RL 391 md_X13_entriesOf 1 := ⟨mk_X13_entriesOf, Or.inl (wa_11 222 rfl rfl), (wa_11 223 rfl rfl), (wa_11 224 rfl rfl)⟩
theorem lm_L_391 : Cond.methodLink RL 391 yX13_entriesOf ∈ wAll := (wa_11 222 rfl rfl)
theorem lv_L_392 : Lv RL 392 md_X11_objects 0 := ⟨mk_X11_objects, Or.inl (wa_3 33 rfl rfl), (wa_3 34 rfl rfl), (wa_3 35 rfl rfl)⟩
theorem lm_L_392 : Cond.methodLink RL 392 yX11_objects ∈ wAll := (wa_3 33 rfl rfl)
theorem lv_L_395 : Lv RL 395 md_X13_objects 0 := ⟨mk_X13_objects, Or.inl (wa_11 234 rfl rfl), (wa_11 235 rfl rfl), (wa_11 236 rfl rfl)⟩
theorem lm_L_395 : Cond.methodLink RL 395 yX13_objects ∈ wAll := (wa_11 234 rfl rfl)
theorem lv_L_396 : Lv RL 396 md_X11_youngObjects 0 := ⟨mk_X11_youngObjects, Or.inl (wa_3 37 rfl rfl), (wa_3 38 rfl rfl), (wa_3 39 rfl rfl)⟩
theorem lm_L_396 : Cond.methodLink RL 396 yX11_youngObjects ∈ wAll := (wa_3 37 rfl rfl)
theorem lv_L_399 : Lv RL 399 md_X13_youngObjects 0 := ⟨mk_X13_youngObjects, Or.inl (wa_11 238 rfl rfl), (wa_11 239 rfl rfl), (wa_12 0 rfl rfl)⟩
theorem lm_L_399 : Cond.methodLink RL 399 yX13_youngObjects ∈ wAll := (wa_11 238 rfl rfl)
theorem lv_L_400 : Lv RL 400 md_X11_youngWords 0 := ⟨mk_X11_youngWords, Or.inl (wa_3 45 rfl rfl), (wa_3 46 rfl rfl), (wa_3 47 rfl rfl)⟩
theorem lm_L_400 : Cond.methodLink RL 400 yX11_youngWords ∈ wAll := (wa_3 45 rfl rfl)
theorem lv_L_403 : Lv RL 403 md_X13_youngWords 0 := ⟨mk_X13_youngWords, Or.inl (wa_12 6 rfl rfl), (wa_12 7 rfl rfl), (wa_12 8 rfl rfl)⟩
theorem lm_L_403 : Cond.methodLink RL 403 yX13_youngWords ∈ wAll := (wa_12 6 rfl rfl)
theorem lv_L_404 : Lv RL 404 md_X11_oldWords 0 := ⟨mk_X11_oldWords, Or.inl (wa_3 49 rfl rfl), (wa_3 50 rfl rfl), (wa_3 51 rfl rfl)⟩
theorem lm_L_404 : Cond.methodLink RL 404 yX11_oldWords ∈ wAll := (wa_3 49 rfl rfl)
theorem lv_L_407 : Lv RL 407 md_X13_oldWords 0 := ⟨mk_X13_oldWords, Or.inl (wa_12 10 rfl rfl), (wa_12 11 rfl rfl), (wa_12 12 rfl rfl)⟩
theorem lm_L_407 : Cond.methodLink RL 407 yX13_oldWords ∈ wAll := (wa_12 10 rfl rfl)
theorem lv_L_408 : Lv RL 408 md_X11_made 0 := ⟨mk_X11_made, Or.inl (wa_3 53 rfl rfl), (wa_3 54 rfl rfl), (wa_3 55 rfl rfl)⟩
theorem lm_L_408 : Cond.methodLink RL 408 yX11_made ∈ wAll := (wa_3 53 rfl rfl)
theorem lv_L_411 : Lv RL 411 md_X13_made 0 := ⟨mk_X13_made, Or.inl (wa_12 14 rfl rfl), (wa_12 15 rfl rfl), (wa_12 16 rfl rfl)⟩
theorem lm_L_411 : Cond.methodLink RL 411 yX13_made ∈ wAll := (wa_12 14 rfl rfl)
theorem lv_L_412 : Lv RL 412 md_X11_queued 0 := ⟨mk_X11_queued, Or.inl (wa_3 57 rfl rfl), (wa_3 58 rfl rfl), (wa_3 59 rfl rfl)⟩
theorem lm_L_412 : Cond.methodLink RL 412 yX11_queued ∈ wAll := (wa_3 57 rfl rfl)
theorem lv_L_415 : Lv RL 415 md_X13_queued 0 := ⟨mk_X13_queued, Or.inl (wa_12 18 rfl rfl), (wa_12 19 rfl rfl), (wa_12 20 rfl rfl)⟩
theorem lm_L_415 : Cond.methodLink RL 415 yX13_queued ∈ wAll := (wa_12 18 rfl rfl)
theorem lv_L_416 : Lv RL 416 md_X11_lasts 0 := ⟨mk_X11_lasts, Or.inl (wa_3 61 rfl rfl), (wa_3 62 rfl rfl), (wa_3 63 rfl rfl)⟩
theorem lm_L_416 : Cond.methodLink RL 416 yX11_lasts ∈ wAll := (wa_3 61 rfl rfl)
theorem lv_L_419 : Lv RL 419 md_X13_lasts 0 := ⟨mk_X13_lasts, Or.inl (wa_12 22 rfl rfl), (wa_12 23 rfl rfl), (wa_12 24 rfl rfl)⟩
theorem lm_L_419 : Cond.methodLink RL 419 yX13_lasts ∈ wAll := (wa_12 22 rfl rfl)
theorem lv_L_420 : Lv RL 420 md_X11_interned 0 := ⟨mk_X11_interned, Or.inl (wa_3 65 rfl rfl), (wa_3 66 rfl rfl), (wa_3 67 rfl rfl)⟩
theorem lm_L_420 : Cond.methodLink RL 420 yX11_interned ∈ wAll := (wa_3 65 rfl rfl)
theorem lv_L_423 : Lv RL 423 md_X13_interned 0 := ⟨mk_X13_interned, Or.inl (wa_12 26 rfl rfl), (wa_12 27 rfl rfl), (wa_12 28 rfl rfl)⟩
theorem lm_L_423 : Cond.methodLink RL 423 yX13_interned ∈ wAll := (wa_12 26 rfl rfl)
theorem lv_L_424 : Lv RL 424 md_X11_youngCollections 0 := ⟨mk_X11_youngCollections, Or.inl (wa_3 73 rfl rfl), (wa_3 74 rfl rfl), (wa_3 75 rfl rfl)⟩
theorem lm_L_424 : Cond.methodLink RL 424 yX11_youngCollections ∈ wAll := (wa_3 73 rfl rfl)
theorem lv_L_427 : Lv RL 427 md_X13_youngCollections 0 := ⟨mk_X13_youngCollections, Or.inl (wa_12 30 rfl rfl), (wa_12 31 rfl rfl), (wa_12 32 rfl rfl)⟩
theorem lm_L_427 : Cond.methodLink RL 427 yX13_youngCollections ∈ wAll := (wa_12 30 rfl rfl)
theorem lv_L_428 : Lv RL 428 md_X11_fullCollections 0 := ⟨mk_X11_fullCollections, Or.inl (wa_3 77 rfl rfl), (wa_3 78 rfl rfl), (wa_3 79 rfl rfl)⟩
theorem lm_L_428 : Cond.methodLink RL 428 yX11_fullCollections ∈ wAll := (wa_3 77 rfl rfl)
theorem lv_L_431 : Lv RL 431 md_X13_fullCollections 0 := ⟨mk_X13_fullCollections, Or.inl (wa_12 34 rfl rfl), (wa_12 35 rfl rfl), (wa_12 36 rfl rfl)⟩
theorem lm_L_431 : Cond.methodLink RL 431 yX13_fullCollections ∈ wAll := (wa_12 34 rfl rfl)
theorem lv_L_432 : Lv RL 432 md_X11_isMarking 0 := ⟨mk_X11_isMarking, Or.inl (wa_3 81 rfl rfl), (wa_3 82 rfl rfl), (wa_3 83 rfl rfl)⟩
theorem lm_L_432 : Cond.methodLink RL 432 yX11_isMarking ∈ wAll := (wa_3 81 rfl rfl)
theorem lv_L_436 : Lv RL 436 md_X13_isMarking 0 := ⟨mk_X13_isMarking, Or.inl (wa_12 38 rfl rfl), (wa_12 39 rfl rfl), (wa_12 40 rfl rfl)⟩
theorem lm_L_436 : Cond.methodLink RL 436 yX13_isMarking ∈ wAll := (wa_12 38 rfl rfl)
theorem lv_L_437 : Lv RL 437 md_X11_tenure 0 := ⟨mk_X11_tenure, Or.inl (wa_3 85 rfl rfl), (wa_3 86 rfl rfl), (wa_3 87 rfl rfl)⟩
theorem lm_L_437 : Cond.methodLink RL 437 yX11_tenure ∈ wAll := (wa_3 85 rfl rfl)
theorem lv_L_440 : Lv RL 440 md_X13_tenure 0 := ⟨mk_X13_tenure, Or.inl (wa_12 42 rfl rfl), (wa_12 43 rfl rfl), (wa_12 44 rfl rfl)⟩
theorem lm_L_440 : Cond.methodLink RL 440 yX13_tenure ∈ wAll := (wa_12 42 rfl rfl)
theorem lv_L_441 : Lv RL 441 md_X11_imageLength 0 := ⟨mk_X11_imageLength, Or.inl (wa_3 89 rfl rfl), (wa_3 90 rfl rfl), (wa_3 91 rfl rfl)⟩
theorem lm_L_441 : Cond.methodLink RL 441 yX11_imageLength ∈ wAll := (wa_3 89 rfl rfl)
theorem lv_L_444 : Lv RL 444 md_X13_imageLength 0 := ⟨mk_X13_imageLength, Or.inl (wa_12 46 rfl rfl), (wa_12 47 rfl rfl), (wa_12 48 rfl rfl)⟩
theorem lm_L_444 : Cond.methodLink RL 444 yX13_imageLength ∈ wAll := (wa_12 46 rfl rfl)
theorem lv_L_447 : Lv RL 447 md_X13_imageAt 1 := ⟨mk_X13_imageAt, Or.inl (wa_12 50 rfl rfl), (wa_12 51 rfl rfl), (wa_12 52 rfl rfl)⟩
theorem lm_L_447 : Cond.methodLink RL 447 yX13_imageAt ∈ wAll := (wa_12 50 rfl rfl)
theorem lv_L_448 : Lv RL 448 md_X11_isPresent 1 := ⟨mk_X11_isPresent, Or.inl (wa_3 93 rfl rfl), (wa_3 94 rfl rfl), (wa_3 95 rfl rfl)⟩
theorem lm_L_448 : Cond.methodLink RL 448 yX11_isPresent ∈ wAll := (wa_3 93 rfl rfl)
theorem lv_L_451 : Lv RL 451 md_X13_isPresent 1 := ⟨mk_X13_isPresent, Or.inl (wa_12 54 rfl rfl), (wa_12 55 rfl rfl), (wa_12 56 rfl rfl)⟩
theorem lm_L_451 : Cond.methodLink RL 451 yX13_isPresent ∈ wAll := (wa_12 54 rfl rfl)
theorem lv_L_452 : Lv RL 452 md_X11_isReached 1 := ⟨mk_X11_isReached, Or.inl (wa_3 101 rfl rfl), (wa_3 102 rfl rfl), (wa_3 103 rfl rfl)⟩
theorem lm_L_452 : Cond.methodLink RL 452 yX11_isReached ∈ wAll := (wa_3 101 rfl rfl)
theorem lv_L_455 : Lv RL 455 md_X13_isReached 1 := ⟨mk_X13_isReached, Or.inl (wa_12 58 rfl rfl), (wa_12 59 rfl rfl), (wa_12 60 rfl rfl)⟩
theorem lm_L_455 : Cond.methodLink RL 455 yX13_isReached ∈ wAll := (wa_12 58 rfl rfl)
theorem lv_L_456 : Lv RL 456 md_X11_distance 1 := ⟨mk_X11_distance, Or.inl (wa_3 135 rfl rfl), (wa_3 136 rfl rfl), (wa_3 137 rfl rfl)⟩
theorem lm_L_456 : Cond.methodLink RL 456 yX11_distance ∈ wAll := (wa_3 135 rfl rfl)
theorem lv_L_459 : Lv RL 459 md_X13_distance 1 := ⟨mk_X13_distance, Or.inl (wa_12 66 rfl rfl), (wa_12 67 rfl rfl), (wa_12 68 rfl rfl)⟩
theorem lm_L_459 : Cond.methodLink RL 459 yX13_distance ∈ wAll := (wa_12 66 rfl rfl)
theorem lv_L_460 : Lv RL 460 md_X11_wouldRemove 1 := ⟨mk_X11_wouldRemove, Or.inl (wa_3 156 rfl rfl), (wa_3 157 rfl rfl), (wa_3 158 rfl rfl)⟩
theorem lm_L_460 : Cond.methodLink RL 460 yX11_wouldRemove ∈ wAll := (wa_3 156 rfl rfl)
theorem lv_L_463 : Lv RL 463 md_X13_wouldRemove 1 := ⟨mk_X13_wouldRemove, Or.inl (wa_12 74 rfl rfl), (wa_12 75 rfl rfl), (wa_12 76 rfl rfl)⟩
theorem lm_L_463 : Cond.methodLink RL 463 yX13_wouldRemove ∈ wAll := (wa_12 74 rfl rfl)
theorem lv_L_466 : Lv RL 466 md_X13_retained 1 := ⟨mk_X13_retained, Or.inl (wa_12 78 rfl rfl), (wa_12 79 rfl rfl), (wa_12 80 rfl rfl)⟩
theorem lm_L_466 : Cond.methodLink RL 466 yX13_retained ∈ wAll := (wa_12 78 rfl rfl)
theorem lv_L_467 : Lv RL 467 md_X11_heaviest 0 := ⟨mk_X11_heaviest, Or.inl (wa_3 190 rfl rfl), (wa_3 191 rfl rfl), (wa_3 192 rfl rfl)⟩
theorem lm_L_467 : Cond.methodLink RL 467 yX11_heaviest ∈ wAll := (wa_3 190 rfl rfl)
theorem lv_L_470 : Lv RL 470 md_X13_heaviest 0 := ⟨mk_X13_heaviest, Or.inl (wa_12 87 rfl rfl), (wa_12 88 rfl rfl), (wa_12 89 rfl rfl)⟩
theorem lm_L_470 : Cond.methodLink RL 470 yX13_heaviest ∈ wAll := (wa_12 87 rfl rfl)
theorem lv_L_473 : Lv RL 473 md_X13_onCircle 1 := ⟨mk_X13_onCircle, Or.inl (wa_12 96 rfl rfl), (wa_12 97 rfl rfl), (wa_12 98 rfl rfl)⟩
theorem lm_L_473 : Cond.methodLink RL 473 yX13_onCircle ∈ wAll := (wa_12 96 rfl rfl)
theorem lv_L_476 : Lv RL 476 md_X13_referrers 1 := ⟨mk_X13_referrers, Or.inl (wa_12 104 rfl rfl), (wa_12 105 rfl rfl), (wa_12 106 rfl rfl)⟩
theorem lm_L_476 : Cond.methodLink RL 476 yX13_referrers ∈ wAll := (wa_12 104 rfl rfl)
theorem lv_L_479 : Lv RL 479 md_X13_sameShape 2 := ⟨mk_X13_sameShape, Or.inl (wa_12 108 rfl rfl), (wa_12 109 rfl rfl), (wa_12 110 rfl rfl)⟩
theorem lm_L_479 : Cond.methodLink RL 479 yX13_sameShape ∈ wAll := (wa_12 108 rfl rfl)
theorem lv_L_480 : Lv RL 480 md_X11_flaws 0 := ⟨mk_X11_flaws, Or.inl (wa_3 207 rfl rfl), (wa_3 208 rfl rfl), (wa_3 209 rfl rfl)⟩
theorem lm_L_480 : Cond.methodLink RL 480 yX11_flaws ∈ wAll := (wa_3 207 rfl rfl)
theorem lv_L_483 : Lv RL 483 md_X13_flaws 0 := ⟨mk_X13_flaws, Or.inl (wa_12 121 rfl rfl), (wa_12 122 rfl rfl), (wa_12 123 rfl rfl)⟩
theorem lm_L_483 : Cond.methodLink RL 483 yX13_flaws ∈ wAll := (wa_12 121 rfl rfl)
theorem lv_L_484 : Lv RL 484 md_X11_meanWords 0 := ⟨mk_X11_meanWords, Or.inl (wa_3 216 rfl rfl), (wa_3 217 rfl rfl), (wa_3 218 rfl rfl)⟩
theorem lm_L_484 : Cond.methodLink RL 484 yX11_meanWords ∈ wAll := (wa_3 216 rfl rfl)
theorem lv_L_488 : Lv RL 488 md_X13_meanWords 0 := ⟨mk_X13_meanWords, Or.inl (wa_12 125 rfl rfl), (wa_12 126 rfl rfl), (wa_12 127 rfl rfl)⟩
theorem lm_L_488 : Cond.methodLink RL 488 yX13_meanWords ∈ wAll := (wa_12 125 rfl rfl)
theorem lv_L_489 : Lv RL 489 md_X11_digest 0 := ⟨mk_X11_digest, Or.inl (wa_3 220 rfl rfl), (wa_3 221 rfl rfl), (wa_3 222 rfl rfl)⟩
theorem lm_L_489 : Cond.methodLink RL 489 yX11_digest ∈ wAll := (wa_3 220 rfl rfl)
theorem lv_L_493 : Lv RL 493 md_X13_digest 0 := ⟨mk_X13_digest, Or.inl (wa_12 129 rfl rfl), (wa_12 130 rfl rfl), (wa_12 131 rfl rfl)⟩
theorem lm_L_493 : Cond.methodLink RL 493 yX13_digest ∈ wAll := (wa_12 129 rfl rfl)
abbrev md_L_defineKind : Md := (yL_defineKind, cL_defineKind, 7, (some .int), 4)
abbrev hh_L_defineKind : List (Nat × Nat × Nat × Nat) := [(0, 14, 17, 13), (0, 14, 21, 15), (0, 14, 25, 17)]
theorem mk_L_defineKind : MkW md_L_defineKind hh_L_defineKind 6 := ⟨by decide +kernel, (wa_4 161 rfl rfl), (wa_1 0 rfl rfl), by decide +kernel, by decide⟩
def T_L_defineKind (G : GT) (Q : Int → Mem → (Nat → Int64) → Prop) (qo : Nat) (x1 : Int) (x2 : Int) (x3 : Int) (x4 : Int) (M : Mem) (f : Nat → Int64) : Prop := (OkI (gB G) (gl G) md_X11_defineKind 0 0 [.ref (ad (gB G) 0), .int (I x1), .int (I x2), .int (I x3), .int (I x4)] (Xo (gB G) qo f) M (fun r9 M1 => inR r9 → (∀ f1 : Nat → Int64, f1 = vp_updL f 0 ((I r9).toInt64) → (inR (0 : Int) ∧ Q (0 : Int) M1 f1))) NoX ∨ OkI (gB G) (gl G) md_X11_defineKind 1 6 [.ref (ad (gB G) 0), .int (I x1), .int (I x2), .int (I x3), .int (I x4)] (Xo (gB G) qo f) M (fun _ _ => False) (fun E9 M1 => (E9 = "java/lang/IndexOutOfBoundsException" ∧ (inR (1 : Int) ∧ Q (1 : Int) M1 f)) ∨ (E9 = "java/lang/IllegalArgumentException" ∧ (inR (2 : Int) ∧ Q (2 : Int) M1 f)) ∨ (E9 = "java/lang/IllegalStateException" ∧ (inR (3 : Int) ∧ Q (3 : Int) M1 f))))
set_option maxRecDepth 100000 in
set_option maxHeartbeats 4000000 in
theorem ok_L_defineKind {B : WB} {l : Launch} {qo : Nat} {f : Nat → Int64} {M : Mem} {Q : Int → Mem → (Nat → Int64) → Prop} {x1 : Int} {x2 : Int} {x3 : Int} {x4 : Int} (hl : l.stackTraces = false) (body : ∀ G : GT, gB G = B → gl G = l → T_L_defineKind G Q qo x1 x2 x3 x4 M f) : OkW B l md_L_defineKind hh_L_defineKind [.ref (ad B 0), .int (I x1), .int (I x2), .int (I x3), .int (I x4), .ref qo] qo f M Q := by
  refine OkW_of mk_L_defineKind hl (Nat.le_of_ble_eq_true rfl) (fun G hC hR hg => ?_)
  have kk := body G hg.1 hg.2.2
  obtain ⟨rfl, hgr, rfl⟩ := hg
  unfold T_L_defineKind at kk
  refine V_aload hC 5 rfl dL_defineKind_0 ?_
  refine V_iconst hC dL_defineKind_2 ?_
  refine V_aload_n hC 0 rfl dL_defineKind_3 ?_
  refine V_iload_n hC 1 rfl dL_defineKind_4 ?_
  refine V_iload_n hC 2 rfl dL_defineKind_5 ?_
  refine V_iload_n hC 3 rfl dL_defineKind_6 ?_
  refine V_iload hC 4 rfl dL_defineKind_7 ?_
  rcases kk with kk | kk
  · refine V_cVi hC (As := [_, _, _, _]) lv_L_7 dL_defineKind_9 (d0 := 4) (Nat.le_of_ble_eq_true rfl) (Rm_of hgr) rv_0 rfl (Nat.le_of_ble_eq_true rfl) zk kk (fun r9 M9 z kk => ?_)
    replace kk := kk z
    refine V_i2l hC dL_defineKind_12 ?_
    refine V_lastW hC dL_defineKind_13 ?_
    replace kk := kk _ rfl
    refine V_goto hC 29 rfl dL_defineKind_14 ?_
    refine V_iconst hC dL_defineKind_29 ?_
    obtain ⟨hr, kk⟩ := kk
    exact V_retW hC hR rfl zk dL_defineKind_30 hr kk
  · refine V_cH hC hR (As := [_, _, _, _]) ⟨lv_L_7.1, lm_L_7, lv_L_7.2.2.1, lv_L_7.2.2.2⟩ dL_defineKind_9 (d0 := 4) (Nat.le_of_ble_eq_true rfl) (Rm_of hgr) rv_0 rfl (Nat.le_of_ble_eq_true rfl) (Rk_of hgr ⟨Nat.le_refl _, Nat.le_refl _⟩) kk (noI fun _ _ q => q) (fun E9 M9 kk => ?_)
    have k8 := (show _ ∧ _ ∨ _ ∧ _ ∨ _ ∧ _ from kk)
    clear kk
    rcases k8 with ⟨rfl, kk⟩ | ⟨rfl, kk⟩ | ⟨rfl, kk⟩
    · refine ⟨17, ⟨[], [(0, 14, 21, 15), (0, 14, 25, 17)], (0, 14, 17, 13), rfl, fun z hz => absurd hz List.not_mem_nil, by decide, by decide, (wa_4 162 rfl rfl), wn_4 23 rfl rfl, rfl⟩, fun q9 => ?_⟩
      refine V_astore hC (lv' := [(6, _), (0, _), (1, _), (2, _), (3, _), (4, _), (5, _)]) (Nat.le_of_ble_eq_true rfl) rfl dL_defineKind_17 ?_
      refine V_iconst hC dL_defineKind_19 ?_
      obtain ⟨hr, kk⟩ := kk
      exact V_retW hC hR rfl (by rw [hgr]; exact ⟨Nat.le_refl _, Nat.le_refl _⟩) dL_defineKind_20 hr kk
    · refine ⟨21, ⟨[(0, 14, 17, 13)], [(0, 14, 25, 17)], (0, 14, 21, 15), rfl, List.forall_mem_cons.mpr ⟨⟨by decide, _, (wa_4 162 rfl rfl), Or.inl ⟨rfl, rfl⟩⟩, fun z hz => absurd hz List.not_mem_nil⟩, by decide, by decide, (wa_4 163 rfl rfl), wn_4 186 rfl rfl, rfl⟩, fun q9 => ?_⟩
      refine V_astore hC (lv' := [(6, _), (0, _), (1, _), (2, _), (3, _), (4, _), (5, _)]) (Nat.le_of_ble_eq_true rfl) rfl dL_defineKind_21 ?_
      refine V_iconst hC dL_defineKind_23 ?_
      obtain ⟨hr, kk⟩ := kk
      exact V_retW hC hR rfl (by rw [hgr]; exact ⟨Nat.le_refl _, Nat.le_refl _⟩) dL_defineKind_24 hr kk
    · refine ⟨25, ⟨[(0, 14, 17, 13), (0, 14, 21, 15)], [], (0, 14, 25, 17), rfl, List.forall_mem_cons.mpr ⟨⟨by decide, _, (wa_4 162 rfl rfl), Or.inr (Or.inl ⟨rfl, rfl⟩)⟩, List.forall_mem_cons.mpr ⟨⟨by decide, _, (wa_4 163 rfl rfl), Or.inr (Or.inr ⟨rfl, rfl⟩)⟩, fun z hz => absurd hz List.not_mem_nil⟩⟩, by decide, by decide, (wa_4 164 rfl rfl), wn_4 202 rfl rfl, rfl⟩, fun q9 => ?_⟩
      refine V_astore hC (lv' := [(6, _), (0, _), (1, _), (2, _), (3, _), (4, _), (5, _)]) (Nat.le_of_ble_eq_true rfl) rfl dL_defineKind_25 ?_
      refine V_iconst hC dL_defineKind_27 ?_
      obtain ⟨hr, kk⟩ := kk
      exact V_retW hC hR rfl (by rw [hgr]; exact ⟨Nat.le_refl _, Nat.le_refl _⟩) dL_defineKind_28 hr kk
abbrev md_L_push : Md := (yL_push, cL_push, 4, (some .int), 3)
abbrev hh_L_push : List (Nat × Nat × Nat × Nat) := [(0, 9, 12, 15), (0, 9, 15, 17)]
theorem mk_L_push : MkW md_L_push hh_L_push 3 := ⟨by decide +kernel, (wa_4 224 rfl rfl), (wa_1 0 rfl rfl), by decide +kernel, by decide⟩
def T_L_push (G : GT) (Q : Int → Mem → (Nat → Int64) → Prop) (qo : Nat) (x1 : Int) (M : Mem) (f : Nat → Int64) : Prop := (OkI (gB G) (gl G) md_X11_push 0 0 [.ref (ad (gB G) 0), .int (I x1)] (Xo (gB G) qo f) M (fun r4 M1 => inR r4 → (∀ f1 : Nat → Int64, f1 = vp_updL f 0 ((I r4).toInt64) → (inR (0 : Int) ∧ Q (0 : Int) M1 f1))) NoX ∨ OkI (gB G) (gl G) md_X11_push 1 6 [.ref (ad (gB G) 0), .int (I x1)] (Xo (gB G) qo f) M (fun _ _ => False) (fun E9 M1 => (E9 = "java/lang/IllegalArgumentException" ∧ (inR (1 : Int) ∧ Q (1 : Int) M1 f)) ∨ (E9 = "java/lang/IllegalStateException" ∧ (inR (2 : Int) ∧ Q (2 : Int) M1 f))))
set_option maxRecDepth 100000 in
set_option maxHeartbeats 4000000 in
theorem ok_L_push {B : WB} {l : Launch} {qo : Nat} {f : Nat → Int64} {M : Mem} {Q : Int → Mem → (Nat → Int64) → Prop} {x1 : Int} (hl : l.stackTraces = false) (body : ∀ G : GT, gB G = B → gl G = l → T_L_push G Q qo x1 M f) : OkW B l md_L_push hh_L_push [.ref (ad B 0), .int (I x1), .ref qo] qo f M Q := by
  refine OkW_of mk_L_push hl (Nat.le_of_ble_eq_true rfl) (fun G hC hR hg => ?_)
  have kk := body G hg.1 hg.2.2
  obtain ⟨rfl, hgr, rfl⟩ := hg
  unfold T_L_push at kk
  refine V_aload_n hC 2 rfl dL_push_0 ?_
  refine V_iconst hC dL_push_1 ?_
  refine V_aload_n hC 0 rfl dL_push_2 ?_
  refine V_iload_n hC 1 rfl dL_push_3 ?_
  rcases kk with kk | kk
  · refine V_cVi hC (As := [_]) lv_L_19 dL_push_4 (d0 := 3) (Nat.le_of_ble_eq_true rfl) (Rm_of hgr) rv_0 rfl (Nat.le_of_ble_eq_true rfl) zk kk (fun r9 M9 z kk => ?_)
    replace kk := kk z
    refine V_i2l hC dL_push_7 ?_
    refine V_lastW hC dL_push_8 ?_
    replace kk := kk _ rfl
    refine V_goto hC 18 rfl dL_push_9 ?_
    refine V_iconst hC dL_push_18 ?_
    obtain ⟨hr, kk⟩ := kk
    exact V_retW hC hR rfl zk dL_push_19 hr kk
  · refine V_cH hC hR (As := [_]) ⟨lv_L_19.1, lm_L_19, lv_L_19.2.2.1, lv_L_19.2.2.2⟩ dL_push_4 (d0 := 3) (Nat.le_of_ble_eq_true rfl) (Rm_of hgr) rv_0 rfl (Nat.le_of_ble_eq_true rfl) (Rk_of hgr ⟨Nat.le_refl _, Nat.le_refl _⟩) kk (noI fun _ _ q => q) (fun E9 M9 kk => ?_)
    have k8 := (show _ ∧ _ ∨ _ ∧ _ from kk)
    clear kk
    rcases k8 with ⟨rfl, kk⟩ | ⟨rfl, kk⟩
    · refine ⟨12, ⟨[], [(0, 9, 15, 17)], (0, 9, 12, 15), rfl, fun z hz => absurd hz List.not_mem_nil, by decide, by decide, (wa_4 163 rfl rfl), wn_4 186 rfl rfl, rfl⟩, fun q9 => ?_⟩
      refine V_astore_n hC (lv' := [(3, _), (0, _), (1, _), (2, _)]) (Nat.le_of_ble_eq_true rfl) rfl dL_push_12 ?_
      refine V_iconst hC dL_push_13 ?_
      obtain ⟨hr, kk⟩ := kk
      exact V_retW hC hR rfl (by rw [hgr]; exact ⟨Nat.le_refl _, Nat.le_refl _⟩) dL_push_14 hr kk
    · refine ⟨15, ⟨[(0, 9, 12, 15)], [], (0, 9, 15, 17), rfl, List.forall_mem_cons.mpr ⟨⟨by decide, _, (wa_4 163 rfl rfl), Or.inr (Or.inr ⟨rfl, rfl⟩)⟩, fun z hz => absurd hz List.not_mem_nil⟩, by decide, by decide, (wa_4 164 rfl rfl), wn_4 202 rfl rfl, rfl⟩, fun q9 => ?_⟩
      refine V_astore_n hC (lv' := [(3, _), (0, _), (1, _), (2, _)]) (Nat.le_of_ble_eq_true rfl) rfl dL_push_15 ?_
      refine V_iconst hC dL_push_16 ?_
      obtain ⟨hr, kk⟩ := kk
      exact V_retW hC hR rfl (by rw [hgr]; exact ⟨Nat.le_refl _, Nat.le_refl _⟩) dL_push_17 hr kk
abbrev md_L_pop : Md := (yL_pop, cL_pop, 4, (some .int), 3)
abbrev hh_L_pop : List (Nat × Nat × Nat × Nat) := [(0, 9, 12, 13), (0, 9, 15, 17)]
theorem mk_L_pop : MkW md_L_pop hh_L_pop 3 := ⟨by decide +kernel, (wa_4 234 rfl rfl), (wa_1 0 rfl rfl), by decide +kernel, by decide⟩
def T_L_pop (G : GT) (Q : Int → Mem → (Nat → Int64) → Prop) (qo : Nat) (x1 : Int) (M : Mem) (f : Nat → Int64) : Prop := (OkI (gB G) (gl G) md_X11_pop 0 0 [.ref (ad (gB G) 0), .int (I x1)] (Xo (gB G) qo f) M (fun r4 M1 => inR r4 → (∀ f1 : Nat → Int64, f1 = vp_updL f 0 ((I r4).toInt64) → (inR (0 : Int) ∧ Q (0 : Int) M1 f1))) NoX ∨ OkI (gB G) (gl G) md_X11_pop 1 6 [.ref (ad (gB G) 0), .int (I x1)] (Xo (gB G) qo f) M (fun _ _ => False) (fun E9 M1 => (E9 = "java/lang/IndexOutOfBoundsException" ∧ (inR (1 : Int) ∧ Q (1 : Int) M1 f)) ∨ (E9 = "java/lang/IllegalStateException" ∧ (inR (2 : Int) ∧ Q (2 : Int) M1 f))))
set_option maxRecDepth 100000 in
set_option maxHeartbeats 4000000 in
theorem ok_L_pop {B : WB} {l : Launch} {qo : Nat} {f : Nat → Int64} {M : Mem} {Q : Int → Mem → (Nat → Int64) → Prop} {x1 : Int} (hl : l.stackTraces = false) (body : ∀ G : GT, gB G = B → gl G = l → T_L_pop G Q qo x1 M f) : OkW B l md_L_pop hh_L_pop [.ref (ad B 0), .int (I x1), .ref qo] qo f M Q := by
  refine OkW_of mk_L_pop hl (Nat.le_of_ble_eq_true rfl) (fun G hC hR hg => ?_)
  have kk := body G hg.1 hg.2.2
  obtain ⟨rfl, hgr, rfl⟩ := hg
  unfold T_L_pop at kk
  refine V_aload_n hC 2 rfl dL_pop_0 ?_
  refine V_iconst hC dL_pop_1 ?_
  refine V_aload_n hC 0 rfl dL_pop_2 ?_
  refine V_iload_n hC 1 rfl dL_pop_3 ?_
  rcases kk with kk | kk
  · refine V_cVi hC (As := [_]) lv_L_23 dL_pop_4 (d0 := 3) (Nat.le_of_ble_eq_true rfl) (Rm_of hgr) rv_0 rfl (Nat.le_of_ble_eq_true rfl) zk kk (fun r9 M9 z kk => ?_)
    replace kk := kk z
    refine V_i2l hC dL_pop_7 ?_
    refine V_lastW hC dL_pop_8 ?_
    replace kk := kk _ rfl
    refine V_goto hC 18 rfl dL_pop_9 ?_
    refine V_iconst hC dL_pop_18 ?_
    obtain ⟨hr, kk⟩ := kk
    exact V_retW hC hR rfl zk dL_pop_19 hr kk
  · refine V_cH hC hR (As := [_]) ⟨lv_L_23.1, lm_L_23, lv_L_23.2.2.1, lv_L_23.2.2.2⟩ dL_pop_4 (d0 := 3) (Nat.le_of_ble_eq_true rfl) (Rm_of hgr) rv_0 rfl (Nat.le_of_ble_eq_true rfl) (Rk_of hgr ⟨Nat.le_refl _, Nat.le_refl _⟩) kk (noI fun _ _ q => q) (fun E9 M9 kk => ?_)
    have k8 := (show _ ∧ _ ∨ _ ∧ _ from kk)
    clear kk
    rcases k8 with ⟨rfl, kk⟩ | ⟨rfl, kk⟩
    · refine ⟨12, ⟨[], [(0, 9, 15, 17)], (0, 9, 12, 13), rfl, fun z hz => absurd hz List.not_mem_nil, by decide, by decide, (wa_4 162 rfl rfl), wn_4 23 rfl rfl, rfl⟩, fun q9 => ?_⟩
      refine V_astore_n hC (lv' := [(3, _), (0, _), (1, _), (2, _)]) (Nat.le_of_ble_eq_true rfl) rfl dL_pop_12 ?_
      refine V_iconst hC dL_pop_13 ?_
      obtain ⟨hr, kk⟩ := kk
      exact V_retW hC hR rfl (by rw [hgr]; exact ⟨Nat.le_refl _, Nat.le_refl _⟩) dL_pop_14 hr kk
    · refine ⟨15, ⟨[(0, 9, 12, 13)], [], (0, 9, 15, 17), rfl, List.forall_mem_cons.mpr ⟨⟨by decide, _, (wa_4 162 rfl rfl), Or.inr (Or.inl ⟨rfl, rfl⟩)⟩, fun z hz => absurd hz List.not_mem_nil⟩, by decide, by decide, (wa_4 164 rfl rfl), wn_4 202 rfl rfl, rfl⟩, fun q9 => ?_⟩
      refine V_astore_n hC (lv' := [(3, _), (0, _), (1, _), (2, _)]) (Nat.le_of_ble_eq_true rfl) rfl dL_pop_15 ?_
      refine V_iconst hC dL_pop_16 ?_
      obtain ⟨hr, kk⟩ := kk
      exact V_retW hC hR rfl (by rw [hgr]; exact ⟨Nat.le_refl _, Nat.le_refl _⟩) dL_pop_17 hr kk
abbrev md_L_assign : Md := (yL_assign, cL_assign, 5, (some .int), 3)
abbrev hh_L_assign : List (Nat × Nat × Nat × Nat) := [(0, 10, 13, 13)]
theorem mk_L_assign : MkW md_L_assign hh_L_assign 4 := ⟨by decide +kernel, (wa_5 7 rfl rfl), (wa_1 0 rfl rfl), by decide +kernel, by decide⟩
def T_L_assign (G : GT) (Q : Int → Mem → (Nat → Int64) → Prop) (qo : Nat) (x1 : Int) (x2 : Int) (M : Mem) (f : Nat → Int64) : Prop := (OkI (gB G) (gl G) md_X11_assign 0 0 [.ref (ad (gB G) 0), .int (I x1), .int (I x2)] (Xo (gB G) qo f) M (fun r5 M1 => inR r5 → (∀ f1 : Nat → Int64, f1 = vp_updL f 0 ((I r5).toInt64) → (inR (0 : Int) ∧ Q (0 : Int) M1 f1))) NoX ∨ OkI (gB G) (gl G) md_X11_assign 1 6 [.ref (ad (gB G) 0), .int (I x1), .int (I x2)] (Xo (gB G) qo f) M (fun _ _ => False) (fun E9 M1 => (E9 = "java/lang/IndexOutOfBoundsException" ∧ (inR (1 : Int) ∧ Q (1 : Int) M1 f))))
set_option maxRecDepth 100000 in
set_option maxHeartbeats 4000000 in
theorem ok_L_assign {B : WB} {l : Launch} {qo : Nat} {f : Nat → Int64} {M : Mem} {Q : Int → Mem → (Nat → Int64) → Prop} {x1 : Int} {x2 : Int} (hl : l.stackTraces = false) (body : ∀ G : GT, gB G = B → gl G = l → T_L_assign G Q qo x1 x2 M f) : OkW B l md_L_assign hh_L_assign [.ref (ad B 0), .int (I x1), .int (I x2), .ref qo] qo f M Q := by
  refine OkW_of mk_L_assign hl (Nat.le_of_ble_eq_true rfl) (fun G hC hR hg => ?_)
  have kk := body G hg.1 hg.2.2
  obtain ⟨rfl, hgr, rfl⟩ := hg
  unfold T_L_assign at kk
  refine V_aload_n hC 3 rfl dL_assign_0 ?_
  refine V_iconst hC dL_assign_1 ?_
  refine V_aload_n hC 0 rfl dL_assign_2 ?_
  refine V_iload_n hC 1 rfl dL_assign_3 ?_
  refine V_iload_n hC 2 rfl dL_assign_4 ?_
  rcases kk with kk | kk
  · refine V_cVi hC (As := [_, _]) lv_L_26 dL_assign_5 (d0 := 3) (Nat.le_of_ble_eq_true rfl) (Rm_of hgr) rv_0 rfl (Nat.le_of_ble_eq_true rfl) zk kk (fun r9 M9 z kk => ?_)
    replace kk := kk z
    refine V_i2l hC dL_assign_8 ?_
    refine V_lastW hC dL_assign_9 ?_
    replace kk := kk _ rfl
    refine V_goto hC 17 rfl dL_assign_10 ?_
    refine V_iconst hC dL_assign_17 ?_
    obtain ⟨hr, kk⟩ := kk
    exact V_retW hC hR rfl zk dL_assign_18 hr kk
  · refine V_cH hC hR (As := [_, _]) ⟨lv_L_26.1, lm_L_26, lv_L_26.2.2.1, lv_L_26.2.2.2⟩ dL_assign_5 (d0 := 3) (Nat.le_of_ble_eq_true rfl) (Rm_of hgr) rv_0 rfl (Nat.le_of_ble_eq_true rfl) (Rk_of hgr ⟨Nat.le_refl _, Nat.le_refl _⟩) kk (noI fun _ _ q => q) (fun E9 M9 kk => ?_)
    have k8 := (show _ ∧ _ from kk)
    clear kk
    obtain ⟨rfl, kk⟩ := k8
    refine ⟨13, ⟨[], [], (0, 10, 13, 13), rfl, fun z hz => absurd hz List.not_mem_nil, by decide, by decide, (wa_4 162 rfl rfl), wn_4 23 rfl rfl, rfl⟩, fun q9 => ?_⟩
    refine V_astore hC (lv' := [(4, _), (0, _), (1, _), (2, _), (3, _)]) (Nat.le_of_ble_eq_true rfl) rfl dL_assign_13 ?_
    refine V_iconst hC dL_assign_15 ?_
    obtain ⟨hr, kk⟩ := kk
    exact V_retW hC hR rfl (by rw [hgr]; exact ⟨Nat.le_refl _, Nat.le_refl _⟩) dL_assign_16 hr kk
abbrev md_L_clear : Md := (yL_clear, cL_clear, 4, (some .int), 3)
abbrev hh_L_clear : List (Nat × Nat × Nat × Nat) := [(0, 9, 12, 13)]
theorem mk_L_clear : MkW md_L_clear hh_L_clear 3 := ⟨by decide +kernel, (wa_5 18 rfl rfl), (wa_1 0 rfl rfl), by decide +kernel, by decide⟩
def T_L_clear (G : GT) (Q : Int → Mem → (Nat → Int64) → Prop) (qo : Nat) (x1 : Int) (M : Mem) (f : Nat → Int64) : Prop := (OkI (gB G) (gl G) md_X11_clear 0 0 [.ref (ad (gB G) 0), .int (I x1)] (Xo (gB G) qo f) M (fun r4 M1 => inR r4 → (∀ f1 : Nat → Int64, f1 = vp_updL f 0 ((I r4).toInt64) → (inR (0 : Int) ∧ Q (0 : Int) M1 f1))) NoX ∨ OkI (gB G) (gl G) md_X11_clear 1 6 [.ref (ad (gB G) 0), .int (I x1)] (Xo (gB G) qo f) M (fun _ _ => False) (fun E9 M1 => (E9 = "java/lang/IndexOutOfBoundsException" ∧ (inR (1 : Int) ∧ Q (1 : Int) M1 f))))
set_option maxRecDepth 100000 in
set_option maxHeartbeats 4000000 in
theorem ok_L_clear {B : WB} {l : Launch} {qo : Nat} {f : Nat → Int64} {M : Mem} {Q : Int → Mem → (Nat → Int64) → Prop} {x1 : Int} (hl : l.stackTraces = false) (body : ∀ G : GT, gB G = B → gl G = l → T_L_clear G Q qo x1 M f) : OkW B l md_L_clear hh_L_clear [.ref (ad B 0), .int (I x1), .ref qo] qo f M Q := by
  refine OkW_of mk_L_clear hl (Nat.le_of_ble_eq_true rfl) (fun G hC hR hg => ?_)
  have kk := body G hg.1 hg.2.2
  obtain ⟨rfl, hgr, rfl⟩ := hg
  unfold T_L_clear at kk
  refine V_aload_n hC 2 rfl dL_clear_0 ?_
  refine V_iconst hC dL_clear_1 ?_
  refine V_aload_n hC 0 rfl dL_clear_2 ?_
  refine V_iload_n hC 1 rfl dL_clear_3 ?_
  rcases kk with kk | kk
  · refine V_cVi hC (As := [_]) lv_L_30 dL_clear_4 (d0 := 3) (Nat.le_of_ble_eq_true rfl) (Rm_of hgr) rv_0 rfl (Nat.le_of_ble_eq_true rfl) zk kk (fun r9 M9 z kk => ?_)
    replace kk := kk z
    refine V_i2l hC dL_clear_7 ?_
    refine V_lastW hC dL_clear_8 ?_
    replace kk := kk _ rfl
    refine V_goto hC 15 rfl dL_clear_9 ?_
    refine V_iconst hC dL_clear_15 ?_
    obtain ⟨hr, kk⟩ := kk
    exact V_retW hC hR rfl zk dL_clear_16 hr kk
  · refine V_cH hC hR (As := [_]) ⟨lv_L_30.1, lm_L_30, lv_L_30.2.2.1, lv_L_30.2.2.2⟩ dL_clear_4 (d0 := 3) (Nat.le_of_ble_eq_true rfl) (Rm_of hgr) rv_0 rfl (Nat.le_of_ble_eq_true rfl) (Rk_of hgr ⟨Nat.le_refl _, Nat.le_refl _⟩) kk (noI fun _ _ q => q) (fun E9 M9 kk => ?_)
    have k8 := (show _ ∧ _ from kk)
    clear kk
    obtain ⟨rfl, kk⟩ := k8
    refine ⟨12, ⟨[], [], (0, 9, 12, 13), rfl, fun z hz => absurd hz List.not_mem_nil, by decide, by decide, (wa_4 162 rfl rfl), wn_4 23 rfl rfl, rfl⟩, fun q9 => ?_⟩
    refine V_astore_n hC (lv' := [(3, _), (0, _), (1, _), (2, _)]) (Nat.le_of_ble_eq_true rfl) rfl dL_clear_12 ?_
    refine V_iconst hC dL_clear_13 ?_
    obtain ⟨hr, kk⟩ := kk
    exact V_retW hC hR rfl (by rw [hgr]; exact ⟨Nat.le_refl _, Nat.le_refl _⟩) dL_clear_14 hr kk
abbrev md_L_toGlobal : Md := (yL_toGlobal, cL_toGlobal, 5, (some .int), 3)
abbrev hh_L_toGlobal : List (Nat × Nat × Nat × Nat) := [(0, 10, 13, 13)]
theorem mk_L_toGlobal : MkW md_L_toGlobal hh_L_toGlobal 4 := ⟨by decide +kernel, (wa_5 25 rfl rfl), (wa_1 0 rfl rfl), by decide +kernel, by decide⟩
def T_L_toGlobal (G : GT) (Q : Int → Mem → (Nat → Int64) → Prop) (qo : Nat) (x1 : Int) (x2 : Int) (M : Mem) (f : Nat → Int64) : Prop := (OkI (gB G) (gl G) md_X11_toGlobal 0 0 [.ref (ad (gB G) 0), .int (I x1), .int (I x2)] (Xo (gB G) qo f) M (fun r5 M1 => inR r5 → (∀ f1 : Nat → Int64, f1 = vp_updL f 0 ((I r5).toInt64) → (inR (0 : Int) ∧ Q (0 : Int) M1 f1))) NoX ∨ OkI (gB G) (gl G) md_X11_toGlobal 1 6 [.ref (ad (gB G) 0), .int (I x1), .int (I x2)] (Xo (gB G) qo f) M (fun _ _ => False) (fun E9 M1 => (E9 = "java/lang/IndexOutOfBoundsException" ∧ (inR (1 : Int) ∧ Q (1 : Int) M1 f))))
set_option maxRecDepth 100000 in
set_option maxHeartbeats 4000000 in
theorem ok_L_toGlobal {B : WB} {l : Launch} {qo : Nat} {f : Nat → Int64} {M : Mem} {Q : Int → Mem → (Nat → Int64) → Prop} {x1 : Int} {x2 : Int} (hl : l.stackTraces = false) (body : ∀ G : GT, gB G = B → gl G = l → T_L_toGlobal G Q qo x1 x2 M f) : OkW B l md_L_toGlobal hh_L_toGlobal [.ref (ad B 0), .int (I x1), .int (I x2), .ref qo] qo f M Q := by
  refine OkW_of mk_L_toGlobal hl (Nat.le_of_ble_eq_true rfl) (fun G hC hR hg => ?_)
  have kk := body G hg.1 hg.2.2
  obtain ⟨rfl, hgr, rfl⟩ := hg
  unfold T_L_toGlobal at kk
  refine V_aload_n hC 3 rfl dL_toGlobal_0 ?_
  refine V_iconst hC dL_toGlobal_1 ?_
  refine V_aload_n hC 0 rfl dL_toGlobal_2 ?_
  refine V_iload_n hC 1 rfl dL_toGlobal_3 ?_
  refine V_iload_n hC 2 rfl dL_toGlobal_4 ?_
  rcases kk with kk | kk
  · refine V_cVi hC (As := [_, _]) lv_L_33 dL_toGlobal_5 (d0 := 3) (Nat.le_of_ble_eq_true rfl) (Rm_of hgr) rv_0 rfl (Nat.le_of_ble_eq_true rfl) zk kk (fun r9 M9 z kk => ?_)
    replace kk := kk z
    refine V_i2l hC dL_toGlobal_8 ?_
    refine V_lastW hC dL_toGlobal_9 ?_
    replace kk := kk _ rfl
    refine V_goto hC 17 rfl dL_toGlobal_10 ?_
    refine V_iconst hC dL_toGlobal_17 ?_
    obtain ⟨hr, kk⟩ := kk
    exact V_retW hC hR rfl zk dL_toGlobal_18 hr kk
  · refine V_cH hC hR (As := [_, _]) ⟨lv_L_33.1, lm_L_33, lv_L_33.2.2.1, lv_L_33.2.2.2⟩ dL_toGlobal_5 (d0 := 3) (Nat.le_of_ble_eq_true rfl) (Rm_of hgr) rv_0 rfl (Nat.le_of_ble_eq_true rfl) (Rk_of hgr ⟨Nat.le_refl _, Nat.le_refl _⟩) kk (noI fun _ _ q => q) (fun E9 M9 kk => ?_)
    have k8 := (show _ ∧ _ from kk)
    clear kk
    obtain ⟨rfl, kk⟩ := k8
    refine ⟨13, ⟨[], [], (0, 10, 13, 13), rfl, fun z hz => absurd hz List.not_mem_nil, by decide, by decide, (wa_4 162 rfl rfl), wn_4 23 rfl rfl, rfl⟩, fun q9 => ?_⟩
    refine V_astore hC (lv' := [(4, _), (0, _), (1, _), (2, _), (3, _)]) (Nat.le_of_ble_eq_true rfl) rfl dL_toGlobal_13 ?_
    refine V_iconst hC dL_toGlobal_15 ?_
    obtain ⟨hr, kk⟩ := kk
    exact V_retW hC hR rfl (by rw [hgr]; exact ⟨Nat.le_refl _, Nat.le_refl _⟩) dL_toGlobal_16 hr kk
abbrev md_L_fromGlobal : Md := (yL_fromGlobal, cL_fromGlobal, 5, (some .int), 3)
abbrev hh_L_fromGlobal : List (Nat × Nat × Nat × Nat) := [(0, 10, 13, 13)]
theorem mk_L_fromGlobal : MkW md_L_fromGlobal hh_L_fromGlobal 4 := ⟨by decide +kernel, (wa_5 32 rfl rfl), (wa_1 0 rfl rfl), by decide +kernel, by decide⟩
def T_L_fromGlobal (G : GT) (Q : Int → Mem → (Nat → Int64) → Prop) (qo : Nat) (x1 : Int) (x2 : Int) (M : Mem) (f : Nat → Int64) : Prop := (OkI (gB G) (gl G) md_X11_fromGlobal 0 0 [.ref (ad (gB G) 0), .int (I x1), .int (I x2)] (Xo (gB G) qo f) M (fun r5 M1 => inR r5 → (∀ f1 : Nat → Int64, f1 = vp_updL f 0 ((I r5).toInt64) → (inR (0 : Int) ∧ Q (0 : Int) M1 f1))) NoX ∨ OkI (gB G) (gl G) md_X11_fromGlobal 1 6 [.ref (ad (gB G) 0), .int (I x1), .int (I x2)] (Xo (gB G) qo f) M (fun _ _ => False) (fun E9 M1 => (E9 = "java/lang/IndexOutOfBoundsException" ∧ (inR (1 : Int) ∧ Q (1 : Int) M1 f))))
set_option maxRecDepth 100000 in
set_option maxHeartbeats 4000000 in
theorem ok_L_fromGlobal {B : WB} {l : Launch} {qo : Nat} {f : Nat → Int64} {M : Mem} {Q : Int → Mem → (Nat → Int64) → Prop} {x1 : Int} {x2 : Int} (hl : l.stackTraces = false) (body : ∀ G : GT, gB G = B → gl G = l → T_L_fromGlobal G Q qo x1 x2 M f) : OkW B l md_L_fromGlobal hh_L_fromGlobal [.ref (ad B 0), .int (I x1), .int (I x2), .ref qo] qo f M Q := by
  refine OkW_of mk_L_fromGlobal hl (Nat.le_of_ble_eq_true rfl) (fun G hC hR hg => ?_)
  have kk := body G hg.1 hg.2.2
  obtain ⟨rfl, hgr, rfl⟩ := hg
  unfold T_L_fromGlobal at kk
  refine V_aload_n hC 3 rfl dL_fromGlobal_0 ?_
  refine V_iconst hC dL_fromGlobal_1 ?_
  refine V_aload_n hC 0 rfl dL_fromGlobal_2 ?_
  refine V_iload_n hC 1 rfl dL_fromGlobal_3 ?_
  refine V_iload_n hC 2 rfl dL_fromGlobal_4 ?_
  rcases kk with kk | kk
  · refine V_cVi hC (As := [_, _]) lv_L_36 dL_fromGlobal_5 (d0 := 3) (Nat.le_of_ble_eq_true rfl) (Rm_of hgr) rv_0 rfl (Nat.le_of_ble_eq_true rfl) zk kk (fun r9 M9 z kk => ?_)
    replace kk := kk z
    refine V_i2l hC dL_fromGlobal_8 ?_
    refine V_lastW hC dL_fromGlobal_9 ?_
    replace kk := kk _ rfl
    refine V_goto hC 17 rfl dL_fromGlobal_10 ?_
    refine V_iconst hC dL_fromGlobal_17 ?_
    obtain ⟨hr, kk⟩ := kk
    exact V_retW hC hR rfl zk dL_fromGlobal_18 hr kk
  · refine V_cH hC hR (As := [_, _]) ⟨lv_L_36.1, lm_L_36, lv_L_36.2.2.1, lv_L_36.2.2.2⟩ dL_fromGlobal_5 (d0 := 3) (Nat.le_of_ble_eq_true rfl) (Rm_of hgr) rv_0 rfl (Nat.le_of_ble_eq_true rfl) (Rk_of hgr ⟨Nat.le_refl _, Nat.le_refl _⟩) kk (noI fun _ _ q => q) (fun E9 M9 kk => ?_)
    have k8 := (show _ ∧ _ from kk)
    clear kk
    obtain ⟨rfl, kk⟩ := k8
    refine ⟨13, ⟨[], [], (0, 10, 13, 13), rfl, fun z hz => absurd hz List.not_mem_nil, by decide, by decide, (wa_4 162 rfl rfl), wn_4 23 rfl rfl, rfl⟩, fun q9 => ?_⟩
    refine V_astore hC (lv' := [(4, _), (0, _), (1, _), (2, _), (3, _)]) (Nat.le_of_ble_eq_true rfl) rfl dL_fromGlobal_13 ?_
    refine V_iconst hC dL_fromGlobal_15 ?_
    obtain ⟨hr, kk⟩ := kk
    exact V_retW hC hR rfl (by rw [hgr]; exact ⟨Nat.le_refl _, Nat.le_refl _⟩) dL_fromGlobal_16 hr kk
abbrev md_L_newObject : Md := (yL_newObject, cL_newObject, 5, (some .int), 7)
abbrev hh_L_newObject : List (Nat × Nat × Nat × Nat) := [(0, 10, 13, 13), (0, 10, 17, 15)]
theorem mk_L_newObject : MkW md_L_newObject hh_L_newObject 4 := ⟨by decide +kernel, (wa_5 39 rfl rfl), (wa_1 0 rfl rfl), by decide +kernel, by decide⟩
def T_L_newObject (G : GT) (Q : Int → Mem → (Nat → Int64) → Prop) (qo : Nat) (x1 : Int) (x2 : Int) (M : Mem) (f : Nat → Int64) : Prop := (OkI (gB G) (gl G) md_X11_newObject 0 0 [.ref (ad (gB G) 0), .int (I x1), .int (I x2)] (Xo (gB G) qo f) M (fun r5 M1 => inR r5 → (∀ f1 : Nat → Int64, f1 = vp_updL f 0 ((I r5).toInt64) → (inR (0 : Int) ∧ Q (0 : Int) M1 f1))) NoX ∨ OkI (gB G) (gl G) md_X11_newObject 1 6 [.ref (ad (gB G) 0), .int (I x1), .int (I x2)] (Xo (gB G) qo f) M (fun _ _ => False) (fun E9 M1 => (E9 = "java/lang/IndexOutOfBoundsException" ∧ (inR (1 : Int) ∧ Q (1 : Int) M1 f)) ∨ (E9 = "java/lang/IllegalArgumentException" ∧ (inR (2 : Int) ∧ Q (2 : Int) M1 f))))
set_option maxRecDepth 100000 in
set_option maxHeartbeats 4000000 in
theorem ok_L_newObject {B : WB} {l : Launch} {qo : Nat} {f : Nat → Int64} {M : Mem} {Q : Int → Mem → (Nat → Int64) → Prop} {x1 : Int} {x2 : Int} (hl : l.stackTraces = false) (body : ∀ G : GT, gB G = B → gl G = l → T_L_newObject G Q qo x1 x2 M f) : OkW B l md_L_newObject hh_L_newObject [.ref (ad B 0), .int (I x1), .int (I x2), .ref qo] qo f M Q := by
  refine OkW_of mk_L_newObject hl (Nat.le_of_ble_eq_true rfl) (fun G hC hR hg => ?_)
  have kk := body G hg.1 hg.2.2
  obtain ⟨rfl, hgr, rfl⟩ := hg
  unfold T_L_newObject at kk
  refine V_aload_n hC 3 rfl dL_newObject_0 ?_
  refine V_iconst hC dL_newObject_1 ?_
  refine V_aload_n hC 0 rfl dL_newObject_2 ?_
  refine V_iload_n hC 1 rfl dL_newObject_3 ?_
  refine V_iload_n hC 2 rfl dL_newObject_4 ?_
  rcases kk with kk | kk
  · refine V_cVi hC (As := [_, _]) lv_L_39 dL_newObject_5 (d0 := 7) (Nat.le_of_ble_eq_true rfl) (Rm_of hgr) rv_0 rfl (Nat.le_of_ble_eq_true rfl) zk kk (fun r9 M9 z kk => ?_)
    replace kk := kk z
    refine V_i2l hC dL_newObject_8 ?_
    refine V_lastW hC dL_newObject_9 ?_
    replace kk := kk _ rfl
    refine V_goto hC 21 rfl dL_newObject_10 ?_
    refine V_iconst hC dL_newObject_21 ?_
    obtain ⟨hr, kk⟩ := kk
    exact V_retW hC hR rfl zk dL_newObject_22 hr kk
  · refine V_cH hC hR (As := [_, _]) ⟨lv_L_39.1, lm_L_39, lv_L_39.2.2.1, lv_L_39.2.2.2⟩ dL_newObject_5 (d0 := 7) (Nat.le_of_ble_eq_true rfl) (Rm_of hgr) rv_0 rfl (Nat.le_of_ble_eq_true rfl) (Rk_of hgr ⟨Nat.le_refl _, Nat.le_refl _⟩) kk (noI fun _ _ q => q) (fun E9 M9 kk => ?_)
    have k8 := (show _ ∧ _ ∨ _ ∧ _ from kk)
    clear kk
    rcases k8 with ⟨rfl, kk⟩ | ⟨rfl, kk⟩
    · refine ⟨13, ⟨[], [(0, 10, 17, 15)], (0, 10, 13, 13), rfl, fun z hz => absurd hz List.not_mem_nil, by decide, by decide, (wa_4 162 rfl rfl), wn_4 23 rfl rfl, rfl⟩, fun q9 => ?_⟩
      refine V_astore hC (lv' := [(4, _), (0, _), (1, _), (2, _), (3, _)]) (Nat.le_of_ble_eq_true rfl) rfl dL_newObject_13 ?_
      refine V_iconst hC dL_newObject_15 ?_
      obtain ⟨hr, kk⟩ := kk
      exact V_retW hC hR rfl (by rw [hgr]; exact ⟨Nat.le_refl _, Nat.le_refl _⟩) dL_newObject_16 hr kk
    · refine ⟨17, ⟨[(0, 10, 13, 13)], [], (0, 10, 17, 15), rfl, List.forall_mem_cons.mpr ⟨⟨by decide, _, (wa_4 162 rfl rfl), Or.inl ⟨rfl, rfl⟩⟩, fun z hz => absurd hz List.not_mem_nil⟩, by decide, by decide, (wa_4 163 rfl rfl), wn_4 186 rfl rfl, rfl⟩, fun q9 => ?_⟩
      refine V_astore hC (lv' := [(4, _), (0, _), (1, _), (2, _), (3, _)]) (Nat.le_of_ble_eq_true rfl) rfl dL_newObject_17 ?_
      refine V_iconst hC dL_newObject_19 ?_
      obtain ⟨hr, kk⟩ := kk
      exact V_retW hC hR rfl (by rw [hgr]; exact ⟨Nat.le_refl _, Nat.le_refl _⟩) dL_newObject_20 hr kk
abbrev md_L_newRow : Md := (yL_newRow, cL_newRow, 5, (some .int), 7)
abbrev hh_L_newRow : List (Nat × Nat × Nat × Nat) := [(0, 10, 13, 13), (0, 10, 17, 15)]
theorem mk_L_newRow : MkW md_L_newRow hh_L_newRow 4 := ⟨by decide +kernel, (wa_5 150 rfl rfl), (wa_1 0 rfl rfl), by decide +kernel, by decide⟩
def T_L_newRow (G : GT) (Q : Int → Mem → (Nat → Int64) → Prop) (qo : Nat) (x1 : Int) (x2 : Int) (M : Mem) (f : Nat → Int64) : Prop := (OkI (gB G) (gl G) md_X11_newRow 0 0 [.ref (ad (gB G) 0), .int (I x1), .int (I x2)] (Xo (gB G) qo f) M (fun r5 M1 => inR r5 → (∀ f1 : Nat → Int64, f1 = vp_updL f 0 ((I r5).toInt64) → (inR (0 : Int) ∧ Q (0 : Int) M1 f1))) NoX ∨ OkI (gB G) (gl G) md_X11_newRow 1 6 [.ref (ad (gB G) 0), .int (I x1), .int (I x2)] (Xo (gB G) qo f) M (fun _ _ => False) (fun E9 M1 => (E9 = "java/lang/IndexOutOfBoundsException" ∧ (inR (1 : Int) ∧ Q (1 : Int) M1 f)) ∨ (E9 = "java/lang/IllegalArgumentException" ∧ (inR (2 : Int) ∧ Q (2 : Int) M1 f))))
set_option maxRecDepth 100000 in
set_option maxHeartbeats 4000000 in
theorem ok_L_newRow {B : WB} {l : Launch} {qo : Nat} {f : Nat → Int64} {M : Mem} {Q : Int → Mem → (Nat → Int64) → Prop} {x1 : Int} {x2 : Int} (hl : l.stackTraces = false) (body : ∀ G : GT, gB G = B → gl G = l → T_L_newRow G Q qo x1 x2 M f) : OkW B l md_L_newRow hh_L_newRow [.ref (ad B 0), .int (I x1), .int (I x2), .ref qo] qo f M Q := by
  refine OkW_of mk_L_newRow hl (Nat.le_of_ble_eq_true rfl) (fun G hC hR hg => ?_)
  have kk := body G hg.1 hg.2.2
  obtain ⟨rfl, hgr, rfl⟩ := hg
  unfold T_L_newRow at kk
  refine V_aload_n hC 3 rfl dL_newRow_0 ?_
  refine V_iconst hC dL_newRow_1 ?_
  refine V_aload_n hC 0 rfl dL_newRow_2 ?_
  refine V_iload_n hC 1 rfl dL_newRow_3 ?_
  refine V_iload_n hC 2 rfl dL_newRow_4 ?_
  rcases kk with kk | kk
  · refine V_cVi hC (As := [_, _]) lv_L_42 dL_newRow_5 (d0 := 7) (Nat.le_of_ble_eq_true rfl) (Rm_of hgr) rv_0 rfl (Nat.le_of_ble_eq_true rfl) zk kk (fun r9 M9 z kk => ?_)
    replace kk := kk z
    refine V_i2l hC dL_newRow_8 ?_
    refine V_lastW hC dL_newRow_9 ?_
    replace kk := kk _ rfl
    refine V_goto hC 21 rfl dL_newRow_10 ?_
    refine V_iconst hC dL_newRow_21 ?_
    obtain ⟨hr, kk⟩ := kk
    exact V_retW hC hR rfl zk dL_newRow_22 hr kk
  · refine V_cH hC hR (As := [_, _]) ⟨lv_L_42.1, lm_L_42, lv_L_42.2.2.1, lv_L_42.2.2.2⟩ dL_newRow_5 (d0 := 7) (Nat.le_of_ble_eq_true rfl) (Rm_of hgr) rv_0 rfl (Nat.le_of_ble_eq_true rfl) (Rk_of hgr ⟨Nat.le_refl _, Nat.le_refl _⟩) kk (noI fun _ _ q => q) (fun E9 M9 kk => ?_)
    have k8 := (show _ ∧ _ ∨ _ ∧ _ from kk)
    clear kk
    rcases k8 with ⟨rfl, kk⟩ | ⟨rfl, kk⟩
    · refine ⟨13, ⟨[], [(0, 10, 17, 15)], (0, 10, 13, 13), rfl, fun z hz => absurd hz List.not_mem_nil, by decide, by decide, (wa_4 162 rfl rfl), wn_4 23 rfl rfl, rfl⟩, fun q9 => ?_⟩
      refine V_astore hC (lv' := [(4, _), (0, _), (1, _), (2, _), (3, _)]) (Nat.le_of_ble_eq_true rfl) rfl dL_newRow_13 ?_
      refine V_iconst hC dL_newRow_15 ?_
      obtain ⟨hr, kk⟩ := kk
      exact V_retW hC hR rfl (by rw [hgr]; exact ⟨Nat.le_refl _, Nat.le_refl _⟩) dL_newRow_16 hr kk
    · refine ⟨17, ⟨[(0, 10, 13, 13)], [], (0, 10, 17, 15), rfl, List.forall_mem_cons.mpr ⟨⟨by decide, _, (wa_4 162 rfl rfl), Or.inl ⟨rfl, rfl⟩⟩, fun z hz => absurd hz List.not_mem_nil⟩, by decide, by decide, (wa_4 163 rfl rfl), wn_4 186 rfl rfl, rfl⟩, fun q9 => ?_⟩
      refine V_astore hC (lv' := [(4, _), (0, _), (1, _), (2, _), (3, _)]) (Nat.le_of_ble_eq_true rfl) rfl dL_newRow_17 ?_
      refine V_iconst hC dL_newRow_19 ?_
      obtain ⟨hr, kk⟩ := kk
      exact V_retW hC hR rfl (by rw [hgr]; exact ⟨Nat.le_refl _, Nat.le_refl _⟩) dL_newRow_20 hr kk
abbrev md_L_newText : Md := (yL_newText, cL_newText, 5, (some .int), 7)
abbrev hh_L_newText : List (Nat × Nat × Nat × Nat) := [(0, 10, 13, 13), (0, 10, 17, 15)]
theorem mk_L_newText : MkW md_L_newText hh_L_newText 4 := ⟨by decide +kernel, (wa_5 162 rfl rfl), (wa_1 0 rfl rfl), by decide +kernel, by decide⟩
def T_L_newText (G : GT) (Q : Int → Mem → (Nat → Int64) → Prop) (qo : Nat) (x1 : Int) (x2 : Int) (M : Mem) (f : Nat → Int64) : Prop := (OkI (gB G) (gl G) md_X11_newText 0 0 [.ref (ad (gB G) 0), .int (I x1), .int (I x2)] (Xo (gB G) qo f) M (fun r5 M1 => inR r5 → (∀ f1 : Nat → Int64, f1 = vp_updL f 0 ((I r5).toInt64) → (inR (0 : Int) ∧ Q (0 : Int) M1 f1))) NoX ∨ OkI (gB G) (gl G) md_X11_newText 1 6 [.ref (ad (gB G) 0), .int (I x1), .int (I x2)] (Xo (gB G) qo f) M (fun _ _ => False) (fun E9 M1 => (E9 = "java/lang/IndexOutOfBoundsException" ∧ (inR (1 : Int) ∧ Q (1 : Int) M1 f)) ∨ (E9 = "java/lang/IllegalArgumentException" ∧ (inR (2 : Int) ∧ Q (2 : Int) M1 f))))
set_option maxRecDepth 100000 in
set_option maxHeartbeats 4000000 in
theorem ok_L_newText {B : WB} {l : Launch} {qo : Nat} {f : Nat → Int64} {M : Mem} {Q : Int → Mem → (Nat → Int64) → Prop} {x1 : Int} {x2 : Int} (hl : l.stackTraces = false) (body : ∀ G : GT, gB G = B → gl G = l → T_L_newText G Q qo x1 x2 M f) : OkW B l md_L_newText hh_L_newText [.ref (ad B 0), .int (I x1), .int (I x2), .ref qo] qo f M Q := by
  refine OkW_of mk_L_newText hl (Nat.le_of_ble_eq_true rfl) (fun G hC hR hg => ?_)
  have kk := body G hg.1 hg.2.2
  obtain ⟨rfl, hgr, rfl⟩ := hg
  unfold T_L_newText at kk
  refine V_aload_n hC 3 rfl dL_newText_0 ?_
  refine V_iconst hC dL_newText_1 ?_
  refine V_aload_n hC 0 rfl dL_newText_2 ?_
  refine V_iload_n hC 1 rfl dL_newText_3 ?_
  refine V_iload_n hC 2 rfl dL_newText_4 ?_
  rcases kk with kk | kk
  · refine V_cVi hC (As := [_, _]) lv_L_45 dL_newText_5 (d0 := 7) (Nat.le_of_ble_eq_true rfl) (Rm_of hgr) rv_0 rfl (Nat.le_of_ble_eq_true rfl) zk kk (fun r9 M9 z kk => ?_)
    replace kk := kk z
    refine V_i2l hC dL_newText_8 ?_
    refine V_lastW hC dL_newText_9 ?_
    replace kk := kk _ rfl
    refine V_goto hC 21 rfl dL_newText_10 ?_
    refine V_iconst hC dL_newText_21 ?_
    obtain ⟨hr, kk⟩ := kk
    exact V_retW hC hR rfl zk dL_newText_22 hr kk
  · refine V_cH hC hR (As := [_, _]) ⟨lv_L_45.1, lm_L_45, lv_L_45.2.2.1, lv_L_45.2.2.2⟩ dL_newText_5 (d0 := 7) (Nat.le_of_ble_eq_true rfl) (Rm_of hgr) rv_0 rfl (Nat.le_of_ble_eq_true rfl) (Rk_of hgr ⟨Nat.le_refl _, Nat.le_refl _⟩) kk (noI fun _ _ q => q) (fun E9 M9 kk => ?_)
    have k8 := (show _ ∧ _ ∨ _ ∧ _ from kk)
    clear kk
    rcases k8 with ⟨rfl, kk⟩ | ⟨rfl, kk⟩
    · refine ⟨13, ⟨[], [(0, 10, 17, 15)], (0, 10, 13, 13), rfl, fun z hz => absurd hz List.not_mem_nil, by decide, by decide, (wa_4 162 rfl rfl), wn_4 23 rfl rfl, rfl⟩, fun q9 => ?_⟩
      refine V_astore hC (lv' := [(4, _), (0, _), (1, _), (2, _), (3, _)]) (Nat.le_of_ble_eq_true rfl) rfl dL_newText_13 ?_
      refine V_iconst hC dL_newText_15 ?_
      obtain ⟨hr, kk⟩ := kk
      exact V_retW hC hR rfl (by rw [hgr]; exact ⟨Nat.le_refl _, Nat.le_refl _⟩) dL_newText_16 hr kk
    · refine ⟨17, ⟨[(0, 10, 13, 13)], [], (0, 10, 17, 15), rfl, List.forall_mem_cons.mpr ⟨⟨by decide, _, (wa_4 162 rfl rfl), Or.inl ⟨rfl, rfl⟩⟩, fun z hz => absurd hz List.not_mem_nil⟩, by decide, by decide, (wa_4 163 rfl rfl), wn_4 186 rfl rfl, rfl⟩, fun q9 => ?_⟩
      refine V_astore hC (lv' := [(4, _), (0, _), (1, _), (2, _), (3, _)]) (Nat.le_of_ble_eq_true rfl) rfl dL_newText_17 ?_
      refine V_iconst hC dL_newText_19 ?_
      obtain ⟨hr, kk⟩ := kk
      exact V_retW hC hR rfl (by rw [hgr]; exact ⟨Nat.le_refl _, Nat.le_refl _⟩) dL_newText_20 hr kk
abbrev md_L_newWeak : Md := (yL_newWeak, cL_newWeak, 6, (some .int), 7)
abbrev hh_L_newWeak : List (Nat × Nat × Nat × Nat) := [(0, 12, 15, 13), (0, 12, 19, 15)]
theorem mk_L_newWeak : MkW md_L_newWeak hh_L_newWeak 5 := ⟨by decide +kernel, (wa_5 169 rfl rfl), (wa_1 0 rfl rfl), by decide +kernel, by decide⟩
def T_L_newWeak (G : GT) (Q : Int → Mem → (Nat → Int64) → Prop) (qo : Nat) (x1 : Int) (x2 : Int) (x3 : Int) (M : Mem) (f : Nat → Int64) : Prop := (OkI (gB G) (gl G) md_X11_newWeak 0 0 [.ref (ad (gB G) 0), .int (I x1), .int (I x2), .int (I x3)] (Xo (gB G) qo f) M (fun r7 M1 => inR r7 → (∀ f1 : Nat → Int64, f1 = vp_updL f 0 ((I r7).toInt64) → (inR (0 : Int) ∧ Q (0 : Int) M1 f1))) NoX ∨ OkI (gB G) (gl G) md_X11_newWeak 1 6 [.ref (ad (gB G) 0), .int (I x1), .int (I x2), .int (I x3)] (Xo (gB G) qo f) M (fun _ _ => False) (fun E9 M1 => (E9 = "java/lang/IndexOutOfBoundsException" ∧ (inR (1 : Int) ∧ Q (1 : Int) M1 f)) ∨ (E9 = "java/lang/IllegalArgumentException" ∧ (inR (2 : Int) ∧ Q (2 : Int) M1 f))))
set_option maxRecDepth 100000 in
set_option maxHeartbeats 4000000 in
theorem ok_L_newWeak {B : WB} {l : Launch} {qo : Nat} {f : Nat → Int64} {M : Mem} {Q : Int → Mem → (Nat → Int64) → Prop} {x1 : Int} {x2 : Int} {x3 : Int} (hl : l.stackTraces = false) (body : ∀ G : GT, gB G = B → gl G = l → T_L_newWeak G Q qo x1 x2 x3 M f) : OkW B l md_L_newWeak hh_L_newWeak [.ref (ad B 0), .int (I x1), .int (I x2), .int (I x3), .ref qo] qo f M Q := by
  refine OkW_of mk_L_newWeak hl (Nat.le_of_ble_eq_true rfl) (fun G hC hR hg => ?_)
  have kk := body G hg.1 hg.2.2
  obtain ⟨rfl, hgr, rfl⟩ := hg
  unfold T_L_newWeak at kk
  refine V_aload hC 4 rfl dL_newWeak_0 ?_
  refine V_iconst hC dL_newWeak_2 ?_
  refine V_aload_n hC 0 rfl dL_newWeak_3 ?_
  refine V_iload_n hC 1 rfl dL_newWeak_4 ?_
  refine V_iload_n hC 2 rfl dL_newWeak_5 ?_
  refine V_iload_n hC 3 rfl dL_newWeak_6 ?_
  rcases kk with kk | kk
  · refine V_cVi hC (As := [_, _, _]) lv_L_48 dL_newWeak_7 (d0 := 7) (Nat.le_of_ble_eq_true rfl) (Rm_of hgr) rv_0 rfl (Nat.le_of_ble_eq_true rfl) zk kk (fun r9 M9 z kk => ?_)
    replace kk := kk z
    refine V_i2l hC dL_newWeak_10 ?_
    refine V_lastW hC dL_newWeak_11 ?_
    replace kk := kk _ rfl
    refine V_goto hC 23 rfl dL_newWeak_12 ?_
    refine V_iconst hC dL_newWeak_23 ?_
    obtain ⟨hr, kk⟩ := kk
    exact V_retW hC hR rfl zk dL_newWeak_24 hr kk
  · refine V_cH hC hR (As := [_, _, _]) ⟨lv_L_48.1, lm_L_48, lv_L_48.2.2.1, lv_L_48.2.2.2⟩ dL_newWeak_7 (d0 := 7) (Nat.le_of_ble_eq_true rfl) (Rm_of hgr) rv_0 rfl (Nat.le_of_ble_eq_true rfl) (Rk_of hgr ⟨Nat.le_refl _, Nat.le_refl _⟩) kk (noI fun _ _ q => q) (fun E9 M9 kk => ?_)
    have k8 := (show _ ∧ _ ∨ _ ∧ _ from kk)
    clear kk
    rcases k8 with ⟨rfl, kk⟩ | ⟨rfl, kk⟩
    · refine ⟨15, ⟨[], [(0, 12, 19, 15)], (0, 12, 15, 13), rfl, fun z hz => absurd hz List.not_mem_nil, by decide, by decide, (wa_4 162 rfl rfl), wn_4 23 rfl rfl, rfl⟩, fun q9 => ?_⟩
      refine V_astore hC (lv' := [(5, _), (0, _), (1, _), (2, _), (3, _), (4, _)]) (Nat.le_of_ble_eq_true rfl) rfl dL_newWeak_15 ?_
      refine V_iconst hC dL_newWeak_17 ?_
      obtain ⟨hr, kk⟩ := kk
      exact V_retW hC hR rfl (by rw [hgr]; exact ⟨Nat.le_refl _, Nat.le_refl _⟩) dL_newWeak_18 hr kk
    · refine ⟨19, ⟨[(0, 12, 15, 13)], [], (0, 12, 19, 15), rfl, List.forall_mem_cons.mpr ⟨⟨by decide, _, (wa_4 162 rfl rfl), Or.inl ⟨rfl, rfl⟩⟩, fun z hz => absurd hz List.not_mem_nil⟩, by decide, by decide, (wa_4 163 rfl rfl), wn_4 186 rfl rfl, rfl⟩, fun q9 => ?_⟩
      refine V_astore hC (lv' := [(5, _), (0, _), (1, _), (2, _), (3, _), (4, _)]) (Nat.le_of_ble_eq_true rfl) rfl dL_newWeak_19 ?_
      refine V_iconst hC dL_newWeak_21 ?_
      obtain ⟨hr, kk⟩ := kk
      exact V_retW hC hR rfl (by rw [hgr]; exact ⟨Nat.le_refl _, Nat.le_refl _⟩) dL_newWeak_22 hr kk
abbrev md_L_newSoft : Md := (yL_newSoft, cL_newSoft, 6, (some .int), 7)
abbrev hh_L_newSoft : List (Nat × Nat × Nat × Nat) := [(0, 12, 15, 13), (0, 12, 19, 15)]
theorem mk_L_newSoft : MkW md_L_newSoft hh_L_newSoft 5 := ⟨by decide +kernel, (wa_5 186 rfl rfl), (wa_1 0 rfl rfl), by decide +kernel, by decide⟩
def T_L_newSoft (G : GT) (Q : Int → Mem → (Nat → Int64) → Prop) (qo : Nat) (x1 : Int) (x2 : Int) (x3 : Int) (M : Mem) (f : Nat → Int64) : Prop := (OkI (gB G) (gl G) md_X11_newSoft 0 0 [.ref (ad (gB G) 0), .int (I x1), .int (I x2), .int (I x3)] (Xo (gB G) qo f) M (fun r7 M1 => inR r7 → (∀ f1 : Nat → Int64, f1 = vp_updL f 0 ((I r7).toInt64) → (inR (0 : Int) ∧ Q (0 : Int) M1 f1))) NoX ∨ OkI (gB G) (gl G) md_X11_newSoft 1 6 [.ref (ad (gB G) 0), .int (I x1), .int (I x2), .int (I x3)] (Xo (gB G) qo f) M (fun _ _ => False) (fun E9 M1 => (E9 = "java/lang/IndexOutOfBoundsException" ∧ (inR (1 : Int) ∧ Q (1 : Int) M1 f)) ∨ (E9 = "java/lang/IllegalArgumentException" ∧ (inR (2 : Int) ∧ Q (2 : Int) M1 f))))
set_option maxRecDepth 100000 in
set_option maxHeartbeats 4000000 in
theorem ok_L_newSoft {B : WB} {l : Launch} {qo : Nat} {f : Nat → Int64} {M : Mem} {Q : Int → Mem → (Nat → Int64) → Prop} {x1 : Int} {x2 : Int} {x3 : Int} (hl : l.stackTraces = false) (body : ∀ G : GT, gB G = B → gl G = l → T_L_newSoft G Q qo x1 x2 x3 M f) : OkW B l md_L_newSoft hh_L_newSoft [.ref (ad B 0), .int (I x1), .int (I x2), .int (I x3), .ref qo] qo f M Q := by
  refine OkW_of mk_L_newSoft hl (Nat.le_of_ble_eq_true rfl) (fun G hC hR hg => ?_)
  have kk := body G hg.1 hg.2.2
  obtain ⟨rfl, hgr, rfl⟩ := hg
  unfold T_L_newSoft at kk
  refine V_aload hC 4 rfl dL_newSoft_0 ?_
  refine V_iconst hC dL_newSoft_2 ?_
  refine V_aload_n hC 0 rfl dL_newSoft_3 ?_
  refine V_iload_n hC 1 rfl dL_newSoft_4 ?_
  refine V_iload_n hC 2 rfl dL_newSoft_5 ?_
  refine V_iload_n hC 3 rfl dL_newSoft_6 ?_
  rcases kk with kk | kk
  · refine V_cVi hC (As := [_, _, _]) lv_L_52 dL_newSoft_7 (d0 := 7) (Nat.le_of_ble_eq_true rfl) (Rm_of hgr) rv_0 rfl (Nat.le_of_ble_eq_true rfl) zk kk (fun r9 M9 z kk => ?_)
    replace kk := kk z
    refine V_i2l hC dL_newSoft_10 ?_
    refine V_lastW hC dL_newSoft_11 ?_
    replace kk := kk _ rfl
    refine V_goto hC 23 rfl dL_newSoft_12 ?_
    refine V_iconst hC dL_newSoft_23 ?_
    obtain ⟨hr, kk⟩ := kk
    exact V_retW hC hR rfl zk dL_newSoft_24 hr kk
  · refine V_cH hC hR (As := [_, _, _]) ⟨lv_L_52.1, lm_L_52, lv_L_52.2.2.1, lv_L_52.2.2.2⟩ dL_newSoft_7 (d0 := 7) (Nat.le_of_ble_eq_true rfl) (Rm_of hgr) rv_0 rfl (Nat.le_of_ble_eq_true rfl) (Rk_of hgr ⟨Nat.le_refl _, Nat.le_refl _⟩) kk (noI fun _ _ q => q) (fun E9 M9 kk => ?_)
    have k8 := (show _ ∧ _ ∨ _ ∧ _ from kk)
    clear kk
    rcases k8 with ⟨rfl, kk⟩ | ⟨rfl, kk⟩
    · refine ⟨15, ⟨[], [(0, 12, 19, 15)], (0, 12, 15, 13), rfl, fun z hz => absurd hz List.not_mem_nil, by decide, by decide, (wa_4 162 rfl rfl), wn_4 23 rfl rfl, rfl⟩, fun q9 => ?_⟩
      refine V_astore hC (lv' := [(5, _), (0, _), (1, _), (2, _), (3, _), (4, _)]) (Nat.le_of_ble_eq_true rfl) rfl dL_newSoft_15 ?_
      refine V_iconst hC dL_newSoft_17 ?_
      obtain ⟨hr, kk⟩ := kk
      exact V_retW hC hR rfl (by rw [hgr]; exact ⟨Nat.le_refl _, Nat.le_refl _⟩) dL_newSoft_18 hr kk
    · refine ⟨19, ⟨[(0, 12, 15, 13)], [], (0, 12, 19, 15), rfl, List.forall_mem_cons.mpr ⟨⟨by decide, _, (wa_4 162 rfl rfl), Or.inl ⟨rfl, rfl⟩⟩, fun z hz => absurd hz List.not_mem_nil⟩, by decide, by decide, (wa_4 163 rfl rfl), wn_4 186 rfl rfl, rfl⟩, fun q9 => ?_⟩
      refine V_astore hC (lv' := [(5, _), (0, _), (1, _), (2, _), (3, _), (4, _)]) (Nat.le_of_ble_eq_true rfl) rfl dL_newSoft_19 ?_
      refine V_iconst hC dL_newSoft_21 ?_
      obtain ⟨hr, kk⟩ := kk
      exact V_retW hC hR rfl (by rw [hgr]; exact ⟨Nat.le_refl _, Nat.le_refl _⟩) dL_newSoft_22 hr kk
abbrev md_L_newPhantom : Md := (yL_newPhantom, cL_newPhantom, 5, (some .int), 7)
abbrev hh_L_newPhantom : List (Nat × Nat × Nat × Nat) := [(0, 10, 13, 13), (0, 10, 17, 15)]
theorem mk_L_newPhantom : MkW md_L_newPhantom hh_L_newPhantom 4 := ⟨by decide +kernel, (wa_5 193 rfl rfl), (wa_1 0 rfl rfl), by decide +kernel, by decide⟩
def T_L_newPhantom (G : GT) (Q : Int → Mem → (Nat → Int64) → Prop) (qo : Nat) (x1 : Int) (x2 : Int) (M : Mem) (f : Nat → Int64) : Prop := (OkI (gB G) (gl G) md_X11_newPhantom 0 0 [.ref (ad (gB G) 0), .int (I x1), .int (I x2)] (Xo (gB G) qo f) M (fun r5 M1 => inR r5 → (∀ f1 : Nat → Int64, f1 = vp_updL f 0 ((I r5).toInt64) → (inR (0 : Int) ∧ Q (0 : Int) M1 f1))) NoX ∨ OkI (gB G) (gl G) md_X11_newPhantom 1 6 [.ref (ad (gB G) 0), .int (I x1), .int (I x2)] (Xo (gB G) qo f) M (fun _ _ => False) (fun E9 M1 => (E9 = "java/lang/IndexOutOfBoundsException" ∧ (inR (1 : Int) ∧ Q (1 : Int) M1 f)) ∨ (E9 = "java/lang/IllegalArgumentException" ∧ (inR (2 : Int) ∧ Q (2 : Int) M1 f))))
set_option maxRecDepth 100000 in
set_option maxHeartbeats 4000000 in
theorem ok_L_newPhantom {B : WB} {l : Launch} {qo : Nat} {f : Nat → Int64} {M : Mem} {Q : Int → Mem → (Nat → Int64) → Prop} {x1 : Int} {x2 : Int} (hl : l.stackTraces = false) (body : ∀ G : GT, gB G = B → gl G = l → T_L_newPhantom G Q qo x1 x2 M f) : OkW B l md_L_newPhantom hh_L_newPhantom [.ref (ad B 0), .int (I x1), .int (I x2), .ref qo] qo f M Q := by
  refine OkW_of mk_L_newPhantom hl (Nat.le_of_ble_eq_true rfl) (fun G hC hR hg => ?_)
  have kk := body G hg.1 hg.2.2
  obtain ⟨rfl, hgr, rfl⟩ := hg
  unfold T_L_newPhantom at kk
  refine V_aload_n hC 3 rfl dL_newPhantom_0 ?_
  refine V_iconst hC dL_newPhantom_1 ?_
  refine V_aload_n hC 0 rfl dL_newPhantom_2 ?_
  refine V_iload_n hC 1 rfl dL_newPhantom_3 ?_
  refine V_iload_n hC 2 rfl dL_newPhantom_4 ?_
  rcases kk with kk | kk
  · refine V_cVi hC (As := [_, _]) lv_L_55 dL_newPhantom_5 (d0 := 7) (Nat.le_of_ble_eq_true rfl) (Rm_of hgr) rv_0 rfl (Nat.le_of_ble_eq_true rfl) zk kk (fun r9 M9 z kk => ?_)
    replace kk := kk z
    refine V_i2l hC dL_newPhantom_8 ?_
    refine V_lastW hC dL_newPhantom_9 ?_
    replace kk := kk _ rfl
    refine V_goto hC 21 rfl dL_newPhantom_10 ?_
    refine V_iconst hC dL_newPhantom_21 ?_
    obtain ⟨hr, kk⟩ := kk
    exact V_retW hC hR rfl zk dL_newPhantom_22 hr kk
  · refine V_cH hC hR (As := [_, _]) ⟨lv_L_55.1, lm_L_55, lv_L_55.2.2.1, lv_L_55.2.2.2⟩ dL_newPhantom_5 (d0 := 7) (Nat.le_of_ble_eq_true rfl) (Rm_of hgr) rv_0 rfl (Nat.le_of_ble_eq_true rfl) (Rk_of hgr ⟨Nat.le_refl _, Nat.le_refl _⟩) kk (noI fun _ _ q => q) (fun E9 M9 kk => ?_)
    have k8 := (show _ ∧ _ ∨ _ ∧ _ from kk)
    clear kk
    rcases k8 with ⟨rfl, kk⟩ | ⟨rfl, kk⟩
    · refine ⟨13, ⟨[], [(0, 10, 17, 15)], (0, 10, 13, 13), rfl, fun z hz => absurd hz List.not_mem_nil, by decide, by decide, (wa_4 162 rfl rfl), wn_4 23 rfl rfl, rfl⟩, fun q9 => ?_⟩
      refine V_astore hC (lv' := [(4, _), (0, _), (1, _), (2, _), (3, _)]) (Nat.le_of_ble_eq_true rfl) rfl dL_newPhantom_13 ?_
      refine V_iconst hC dL_newPhantom_15 ?_
      obtain ⟨hr, kk⟩ := kk
      exact V_retW hC hR rfl (by rw [hgr]; exact ⟨Nat.le_refl _, Nat.le_refl _⟩) dL_newPhantom_16 hr kk
    · refine ⟨17, ⟨[(0, 10, 13, 13)], [], (0, 10, 17, 15), rfl, List.forall_mem_cons.mpr ⟨⟨by decide, _, (wa_4 162 rfl rfl), Or.inl ⟨rfl, rfl⟩⟩, fun z hz => absurd hz List.not_mem_nil⟩, by decide, by decide, (wa_4 163 rfl rfl), wn_4 186 rfl rfl, rfl⟩, fun q9 => ?_⟩
      refine V_astore hC (lv' := [(4, _), (0, _), (1, _), (2, _), (3, _)]) (Nat.le_of_ble_eq_true rfl) rfl dL_newPhantom_17 ?_
      refine V_iconst hC dL_newPhantom_19 ?_
      obtain ⟨hr, kk⟩ := kk
      exact V_retW hC hR rfl (by rw [hgr]; exact ⟨Nat.le_refl _, Nat.le_refl _⟩) dL_newPhantom_20 hr kk
abbrev md_L_newTable : Md := (yL_newTable, cL_newTable, 5, (some .int), 7)
abbrev hh_L_newTable : List (Nat × Nat × Nat × Nat) := [(0, 10, 13, 13), (0, 10, 17, 15)]
theorem mk_L_newTable : MkW md_L_newTable hh_L_newTable 4 := ⟨by decide +kernel, (wa_5 200 rfl rfl), (wa_1 0 rfl rfl), by decide +kernel, by decide⟩
def T_L_newTable (G : GT) (Q : Int → Mem → (Nat → Int64) → Prop) (qo : Nat) (x1 : Int) (x2 : Int) (M : Mem) (f : Nat → Int64) : Prop := (OkI (gB G) (gl G) md_X11_newTable 0 0 [.ref (ad (gB G) 0), .int (I x1), .int (I x2)] (Xo (gB G) qo f) M (fun r5 M1 => inR r5 → (∀ f1 : Nat → Int64, f1 = vp_updL f 0 ((I r5).toInt64) → (inR (0 : Int) ∧ Q (0 : Int) M1 f1))) NoX ∨ OkI (gB G) (gl G) md_X11_newTable 1 6 [.ref (ad (gB G) 0), .int (I x1), .int (I x2)] (Xo (gB G) qo f) M (fun _ _ => False) (fun E9 M1 => (E9 = "java/lang/IndexOutOfBoundsException" ∧ (inR (1 : Int) ∧ Q (1 : Int) M1 f)) ∨ (E9 = "java/lang/IllegalArgumentException" ∧ (inR (2 : Int) ∧ Q (2 : Int) M1 f))))
set_option maxRecDepth 100000 in
set_option maxHeartbeats 4000000 in
theorem ok_L_newTable {B : WB} {l : Launch} {qo : Nat} {f : Nat → Int64} {M : Mem} {Q : Int → Mem → (Nat → Int64) → Prop} {x1 : Int} {x2 : Int} (hl : l.stackTraces = false) (body : ∀ G : GT, gB G = B → gl G = l → T_L_newTable G Q qo x1 x2 M f) : OkW B l md_L_newTable hh_L_newTable [.ref (ad B 0), .int (I x1), .int (I x2), .ref qo] qo f M Q := by
  refine OkW_of mk_L_newTable hl (Nat.le_of_ble_eq_true rfl) (fun G hC hR hg => ?_)
  have kk := body G hg.1 hg.2.2
  obtain ⟨rfl, hgr, rfl⟩ := hg
  unfold T_L_newTable at kk
  refine V_aload_n hC 3 rfl dL_newTable_0 ?_
  refine V_iconst hC dL_newTable_1 ?_
  refine V_aload_n hC 0 rfl dL_newTable_2 ?_
  refine V_iload_n hC 1 rfl dL_newTable_3 ?_
  refine V_iload_n hC 2 rfl dL_newTable_4 ?_
  rcases kk with kk | kk
  · refine V_cVi hC (As := [_, _]) lv_L_58 dL_newTable_5 (d0 := 7) (Nat.le_of_ble_eq_true rfl) (Rm_of hgr) rv_0 rfl (Nat.le_of_ble_eq_true rfl) zk kk (fun r9 M9 z kk => ?_)
    replace kk := kk z
    refine V_i2l hC dL_newTable_8 ?_
    refine V_lastW hC dL_newTable_9 ?_
    replace kk := kk _ rfl
    refine V_goto hC 21 rfl dL_newTable_10 ?_
    refine V_iconst hC dL_newTable_21 ?_
    obtain ⟨hr, kk⟩ := kk
    exact V_retW hC hR rfl zk dL_newTable_22 hr kk
  · refine V_cH hC hR (As := [_, _]) ⟨lv_L_58.1, lm_L_58, lv_L_58.2.2.1, lv_L_58.2.2.2⟩ dL_newTable_5 (d0 := 7) (Nat.le_of_ble_eq_true rfl) (Rm_of hgr) rv_0 rfl (Nat.le_of_ble_eq_true rfl) (Rk_of hgr ⟨Nat.le_refl _, Nat.le_refl _⟩) kk (noI fun _ _ q => q) (fun E9 M9 kk => ?_)
    have k8 := (show _ ∧ _ ∨ _ ∧ _ from kk)
    clear kk
    rcases k8 with ⟨rfl, kk⟩ | ⟨rfl, kk⟩
    · refine ⟨13, ⟨[], [(0, 10, 17, 15)], (0, 10, 13, 13), rfl, fun z hz => absurd hz List.not_mem_nil, by decide, by decide, (wa_4 162 rfl rfl), wn_4 23 rfl rfl, rfl⟩, fun q9 => ?_⟩
      refine V_astore hC (lv' := [(4, _), (0, _), (1, _), (2, _), (3, _)]) (Nat.le_of_ble_eq_true rfl) rfl dL_newTable_13 ?_
      refine V_iconst hC dL_newTable_15 ?_
      obtain ⟨hr, kk⟩ := kk
      exact V_retW hC hR rfl (by rw [hgr]; exact ⟨Nat.le_refl _, Nat.le_refl _⟩) dL_newTable_16 hr kk
    · refine ⟨17, ⟨[(0, 10, 13, 13)], [], (0, 10, 17, 15), rfl, List.forall_mem_cons.mpr ⟨⟨by decide, _, (wa_4 162 rfl rfl), Or.inl ⟨rfl, rfl⟩⟩, fun z hz => absurd hz List.not_mem_nil⟩, by decide, by decide, (wa_4 163 rfl rfl), wn_4 186 rfl rfl, rfl⟩, fun q9 => ?_⟩
      refine V_astore hC (lv' := [(4, _), (0, _), (1, _), (2, _), (3, _)]) (Nat.le_of_ble_eq_true rfl) rfl dL_newTable_17 ?_
      refine V_iconst hC dL_newTable_19 ?_
      obtain ⟨hr, kk⟩ := kk
      exact V_retW hC hR rfl (by rw [hgr]; exact ⟨Nat.le_refl _, Nat.le_refl _⟩) dL_newTable_20 hr kk
abbrev md_L_load : Md := (yL_load, cL_load, 6, (some .int), 3)
abbrev hh_L_load : List (Nat × Nat × Nat × Nat) := [(0, 12, 15, 13), (0, 12, 19, 15)]
theorem mk_L_load : MkW md_L_load hh_L_load 5 := ⟨by decide +kernel, (wa_5 207 rfl rfl), (wa_1 0 rfl rfl), by decide +kernel, by decide⟩
def T_L_load (G : GT) (Q : Int → Mem → (Nat → Int64) → Prop) (qo : Nat) (x1 : Int) (x2 : Int) (x3 : Int) (M : Mem) (f : Nat → Int64) : Prop := (OkI (gB G) (gl G) md_X11_load 0 0 [.ref (ad (gB G) 0), .int (I x1), .int (I x2), .int (I x3)] (Xo (gB G) qo f) M (fun r7 M1 => inR r7 → (∀ f1 : Nat → Int64, f1 = vp_updL f 0 ((I r7).toInt64) → (inR (0 : Int) ∧ Q (0 : Int) M1 f1))) NoX ∨ OkI (gB G) (gl G) md_X11_load 1 6 [.ref (ad (gB G) 0), .int (I x1), .int (I x2), .int (I x3)] (Xo (gB G) qo f) M (fun _ _ => False) (fun E9 M1 => (E9 = "java/lang/IndexOutOfBoundsException" ∧ (inR (1 : Int) ∧ Q (1 : Int) M1 f)) ∨ (E9 = "java/lang/IllegalArgumentException" ∧ (inR (2 : Int) ∧ Q (2 : Int) M1 f))))
set_option maxRecDepth 100000 in
set_option maxHeartbeats 4000000 in
theorem ok_L_load {B : WB} {l : Launch} {qo : Nat} {f : Nat → Int64} {M : Mem} {Q : Int → Mem → (Nat → Int64) → Prop} {x1 : Int} {x2 : Int} {x3 : Int} (hl : l.stackTraces = false) (body : ∀ G : GT, gB G = B → gl G = l → T_L_load G Q qo x1 x2 x3 M f) : OkW B l md_L_load hh_L_load [.ref (ad B 0), .int (I x1), .int (I x2), .int (I x3), .ref qo] qo f M Q := by
  refine OkW_of mk_L_load hl (Nat.le_of_ble_eq_true rfl) (fun G hC hR hg => ?_)
  have kk := body G hg.1 hg.2.2
  obtain ⟨rfl, hgr, rfl⟩ := hg
  unfold T_L_load at kk
  refine V_aload hC 4 rfl dL_load_0 ?_
  refine V_iconst hC dL_load_2 ?_
  refine V_aload_n hC 0 rfl dL_load_3 ?_
  refine V_iload_n hC 1 rfl dL_load_4 ?_
  refine V_iload_n hC 2 rfl dL_load_5 ?_
  refine V_iload_n hC 3 rfl dL_load_6 ?_
  rcases kk with kk | kk
  · refine V_cVi hC (As := [_, _, _]) lv_L_61 dL_load_7 (d0 := 3) (Nat.le_of_ble_eq_true rfl) (Rm_of hgr) rv_0 rfl (Nat.le_of_ble_eq_true rfl) zk kk (fun r9 M9 z kk => ?_)
    replace kk := kk z
    refine V_i2l hC dL_load_10 ?_
    refine V_lastW hC dL_load_11 ?_
    replace kk := kk _ rfl
    refine V_goto hC 23 rfl dL_load_12 ?_
    refine V_iconst hC dL_load_23 ?_
    obtain ⟨hr, kk⟩ := kk
    exact V_retW hC hR rfl zk dL_load_24 hr kk
  · refine V_cH hC hR (As := [_, _, _]) ⟨lv_L_61.1, lm_L_61, lv_L_61.2.2.1, lv_L_61.2.2.2⟩ dL_load_7 (d0 := 3) (Nat.le_of_ble_eq_true rfl) (Rm_of hgr) rv_0 rfl (Nat.le_of_ble_eq_true rfl) (Rk_of hgr ⟨Nat.le_refl _, Nat.le_refl _⟩) kk (noI fun _ _ q => q) (fun E9 M9 kk => ?_)
    have k8 := (show _ ∧ _ ∨ _ ∧ _ from kk)
    clear kk
    rcases k8 with ⟨rfl, kk⟩ | ⟨rfl, kk⟩
    · refine ⟨15, ⟨[], [(0, 12, 19, 15)], (0, 12, 15, 13), rfl, fun z hz => absurd hz List.not_mem_nil, by decide, by decide, (wa_4 162 rfl rfl), wn_4 23 rfl rfl, rfl⟩, fun q9 => ?_⟩
      refine V_astore hC (lv' := [(5, _), (0, _), (1, _), (2, _), (3, _), (4, _)]) (Nat.le_of_ble_eq_true rfl) rfl dL_load_15 ?_
      refine V_iconst hC dL_load_17 ?_
      obtain ⟨hr, kk⟩ := kk
      exact V_retW hC hR rfl (by rw [hgr]; exact ⟨Nat.le_refl _, Nat.le_refl _⟩) dL_load_18 hr kk
    · refine ⟨19, ⟨[(0, 12, 15, 13)], [], (0, 12, 19, 15), rfl, List.forall_mem_cons.mpr ⟨⟨by decide, _, (wa_4 162 rfl rfl), Or.inl ⟨rfl, rfl⟩⟩, fun z hz => absurd hz List.not_mem_nil⟩, by decide, by decide, (wa_4 163 rfl rfl), wn_4 186 rfl rfl, rfl⟩, fun q9 => ?_⟩
      refine V_astore hC (lv' := [(5, _), (0, _), (1, _), (2, _), (3, _), (4, _)]) (Nat.le_of_ble_eq_true rfl) rfl dL_load_19 ?_
      refine V_iconst hC dL_load_21 ?_
      obtain ⟨hr, kk⟩ := kk
      exact V_retW hC hR rfl (by rw [hgr]; exact ⟨Nat.le_refl _, Nat.le_refl _⟩) dL_load_22 hr kk
abbrev md_L_store : Md := (yL_store, cL_store, 6, (some .int), 3)
abbrev hh_L_store : List (Nat × Nat × Nat × Nat) := [(0, 12, 15, 13), (0, 12, 19, 15)]
theorem mk_L_store : MkW md_L_store hh_L_store 5 := ⟨by decide +kernel, (wa_5 220 rfl rfl), (wa_1 0 rfl rfl), by decide +kernel, by decide⟩
def T_L_store (G : GT) (Q : Int → Mem → (Nat → Int64) → Prop) (qo : Nat) (x1 : Int) (x2 : Int) (x3 : Int) (M : Mem) (f : Nat → Int64) : Prop := (OkI (gB G) (gl G) md_X11_store 0 0 [.ref (ad (gB G) 0), .int (I x1), .int (I x2), .int (I x3)] (Xo (gB G) qo f) M (fun r7 M1 => inR r7 → (∀ f1 : Nat → Int64, f1 = vp_updL f 0 ((I r7).toInt64) → (inR (0 : Int) ∧ Q (0 : Int) M1 f1))) NoX ∨ OkI (gB G) (gl G) md_X11_store 1 6 [.ref (ad (gB G) 0), .int (I x1), .int (I x2), .int (I x3)] (Xo (gB G) qo f) M (fun _ _ => False) (fun E9 M1 => (E9 = "java/lang/IndexOutOfBoundsException" ∧ (inR (1 : Int) ∧ Q (1 : Int) M1 f)) ∨ (E9 = "java/lang/IllegalArgumentException" ∧ (inR (2 : Int) ∧ Q (2 : Int) M1 f))))
set_option maxRecDepth 100000 in
set_option maxHeartbeats 4000000 in
theorem ok_L_store {B : WB} {l : Launch} {qo : Nat} {f : Nat → Int64} {M : Mem} {Q : Int → Mem → (Nat → Int64) → Prop} {x1 : Int} {x2 : Int} {x3 : Int} (hl : l.stackTraces = false) (body : ∀ G : GT, gB G = B → gl G = l → T_L_store G Q qo x1 x2 x3 M f) : OkW B l md_L_store hh_L_store [.ref (ad B 0), .int (I x1), .int (I x2), .int (I x3), .ref qo] qo f M Q := by
  refine OkW_of mk_L_store hl (Nat.le_of_ble_eq_true rfl) (fun G hC hR hg => ?_)
  have kk := body G hg.1 hg.2.2
  obtain ⟨rfl, hgr, rfl⟩ := hg
  unfold T_L_store at kk
  refine V_aload hC 4 rfl dL_store_0 ?_
  refine V_iconst hC dL_store_2 ?_
  refine V_aload_n hC 0 rfl dL_store_3 ?_
  refine V_iload_n hC 1 rfl dL_store_4 ?_
  refine V_iload_n hC 2 rfl dL_store_5 ?_
  refine V_iload_n hC 3 rfl dL_store_6 ?_
  rcases kk with kk | kk
  · refine V_cVi hC (As := [_, _, _]) lv_L_65 dL_store_7 (d0 := 3) (Nat.le_of_ble_eq_true rfl) (Rm_of hgr) rv_0 rfl (Nat.le_of_ble_eq_true rfl) zk kk (fun r9 M9 z kk => ?_)
    replace kk := kk z
    refine V_i2l hC dL_store_10 ?_
    refine V_lastW hC dL_store_11 ?_
    replace kk := kk _ rfl
    refine V_goto hC 23 rfl dL_store_12 ?_
    refine V_iconst hC dL_store_23 ?_
    obtain ⟨hr, kk⟩ := kk
    exact V_retW hC hR rfl zk dL_store_24 hr kk
  · refine V_cH hC hR (As := [_, _, _]) ⟨lv_L_65.1, lm_L_65, lv_L_65.2.2.1, lv_L_65.2.2.2⟩ dL_store_7 (d0 := 3) (Nat.le_of_ble_eq_true rfl) (Rm_of hgr) rv_0 rfl (Nat.le_of_ble_eq_true rfl) (Rk_of hgr ⟨Nat.le_refl _, Nat.le_refl _⟩) kk (noI fun _ _ q => q) (fun E9 M9 kk => ?_)
    have k8 := (show _ ∧ _ ∨ _ ∧ _ from kk)
    clear kk
    rcases k8 with ⟨rfl, kk⟩ | ⟨rfl, kk⟩
    · refine ⟨15, ⟨[], [(0, 12, 19, 15)], (0, 12, 15, 13), rfl, fun z hz => absurd hz List.not_mem_nil, by decide, by decide, (wa_4 162 rfl rfl), wn_4 23 rfl rfl, rfl⟩, fun q9 => ?_⟩
      refine V_astore hC (lv' := [(5, _), (0, _), (1, _), (2, _), (3, _), (4, _)]) (Nat.le_of_ble_eq_true rfl) rfl dL_store_15 ?_
      refine V_iconst hC dL_store_17 ?_
      obtain ⟨hr, kk⟩ := kk
      exact V_retW hC hR rfl (by rw [hgr]; exact ⟨Nat.le_refl _, Nat.le_refl _⟩) dL_store_18 hr kk
    · refine ⟨19, ⟨[(0, 12, 15, 13)], [], (0, 12, 19, 15), rfl, List.forall_mem_cons.mpr ⟨⟨by decide, _, (wa_4 162 rfl rfl), Or.inl ⟨rfl, rfl⟩⟩, fun z hz => absurd hz List.not_mem_nil⟩, by decide, by decide, (wa_4 163 rfl rfl), wn_4 186 rfl rfl, rfl⟩, fun q9 => ?_⟩
      refine V_astore hC (lv' := [(5, _), (0, _), (1, _), (2, _), (3, _), (4, _)]) (Nat.le_of_ble_eq_true rfl) rfl dL_store_19 ?_
      refine V_iconst hC dL_store_21 ?_
      obtain ⟨hr, kk⟩ := kk
      exact V_retW hC hR rfl (by rw [hgr]; exact ⟨Nat.le_refl _, Nat.le_refl _⟩) dL_store_22 hr kk
abbrev md_L_getNumber : Md := (yL_getNumber, cL_getNumber, 5, (some .int), 3)
abbrev hh_L_getNumber : List (Nat × Nat × Nat × Nat) := [(0, 10, 13, 13), (0, 10, 17, 15)]
theorem mk_L_getNumber : MkW md_L_getNumber hh_L_getNumber 4 := ⟨by decide +kernel, (wa_5 227 rfl rfl), (wa_1 0 rfl rfl), by decide +kernel, by decide⟩
def T_L_getNumber (G : GT) (Q : Int → Mem → (Nat → Int64) → Prop) (qo : Nat) (x1 : Int) (x2 : Int) (M : Mem) (f : Nat → Int64) : Prop := (OkI (gB G) (gl G) md_X11_getNumber 0 0 [.ref (ad (gB G) 0), .int (I x1), .int (I x2)] (Xo (gB G) qo f) M (fun r5 M1 => inR r5 → (∀ f1 : Nat → Int64, f1 = vp_updL f 0 ((I r5).toInt64) → (inR (0 : Int) ∧ Q (0 : Int) M1 f1))) NoX ∨ OkI (gB G) (gl G) md_X11_getNumber 1 6 [.ref (ad (gB G) 0), .int (I x1), .int (I x2)] (Xo (gB G) qo f) M (fun _ _ => False) (fun E9 M1 => (E9 = "java/lang/IndexOutOfBoundsException" ∧ (inR (1 : Int) ∧ Q (1 : Int) M1 f)) ∨ (E9 = "java/lang/IllegalArgumentException" ∧ (inR (2 : Int) ∧ Q (2 : Int) M1 f))))
set_option maxRecDepth 100000 in
set_option maxHeartbeats 4000000 in
theorem ok_L_getNumber {B : WB} {l : Launch} {qo : Nat} {f : Nat → Int64} {M : Mem} {Q : Int → Mem → (Nat → Int64) → Prop} {x1 : Int} {x2 : Int} (hl : l.stackTraces = false) (body : ∀ G : GT, gB G = B → gl G = l → T_L_getNumber G Q qo x1 x2 M f) : OkW B l md_L_getNumber hh_L_getNumber [.ref (ad B 0), .int (I x1), .int (I x2), .ref qo] qo f M Q := by
  refine OkW_of mk_L_getNumber hl (Nat.le_of_ble_eq_true rfl) (fun G hC hR hg => ?_)
  have kk := body G hg.1 hg.2.2
  obtain ⟨rfl, hgr, rfl⟩ := hg
  unfold T_L_getNumber at kk
  refine V_aload_n hC 3 rfl dL_getNumber_0 ?_
  refine V_iconst hC dL_getNumber_1 ?_
  refine V_aload_n hC 0 rfl dL_getNumber_2 ?_
  refine V_iload_n hC 1 rfl dL_getNumber_3 ?_
  refine V_iload_n hC 2 rfl dL_getNumber_4 ?_
  rcases kk with kk | kk
  · refine V_cVi hC (As := [_, _]) lv_L_68 dL_getNumber_5 (d0 := 3) (Nat.le_of_ble_eq_true rfl) (Rm_of hgr) rv_0 rfl (Nat.le_of_ble_eq_true rfl) zk kk (fun r9 M9 z kk => ?_)
    replace kk := kk z
    refine V_i2l hC dL_getNumber_8 ?_
    refine V_lastW hC dL_getNumber_9 ?_
    replace kk := kk _ rfl
    refine V_goto hC 21 rfl dL_getNumber_10 ?_
    refine V_iconst hC dL_getNumber_21 ?_
    obtain ⟨hr, kk⟩ := kk
    exact V_retW hC hR rfl zk dL_getNumber_22 hr kk
  · refine V_cH hC hR (As := [_, _]) ⟨lv_L_68.1, lm_L_68, lv_L_68.2.2.1, lv_L_68.2.2.2⟩ dL_getNumber_5 (d0 := 3) (Nat.le_of_ble_eq_true rfl) (Rm_of hgr) rv_0 rfl (Nat.le_of_ble_eq_true rfl) (Rk_of hgr ⟨Nat.le_refl _, Nat.le_refl _⟩) kk (noI fun _ _ q => q) (fun E9 M9 kk => ?_)
    have k8 := (show _ ∧ _ ∨ _ ∧ _ from kk)
    clear kk
    rcases k8 with ⟨rfl, kk⟩ | ⟨rfl, kk⟩
    · refine ⟨13, ⟨[], [(0, 10, 17, 15)], (0, 10, 13, 13), rfl, fun z hz => absurd hz List.not_mem_nil, by decide, by decide, (wa_4 162 rfl rfl), wn_4 23 rfl rfl, rfl⟩, fun q9 => ?_⟩
      refine V_astore hC (lv' := [(4, _), (0, _), (1, _), (2, _), (3, _)]) (Nat.le_of_ble_eq_true rfl) rfl dL_getNumber_13 ?_
      refine V_iconst hC dL_getNumber_15 ?_
      obtain ⟨hr, kk⟩ := kk
      exact V_retW hC hR rfl (by rw [hgr]; exact ⟨Nat.le_refl _, Nat.le_refl _⟩) dL_getNumber_16 hr kk
    · refine ⟨17, ⟨[(0, 10, 13, 13)], [], (0, 10, 17, 15), rfl, List.forall_mem_cons.mpr ⟨⟨by decide, _, (wa_4 162 rfl rfl), Or.inl ⟨rfl, rfl⟩⟩, fun z hz => absurd hz List.not_mem_nil⟩, by decide, by decide, (wa_4 163 rfl rfl), wn_4 186 rfl rfl, rfl⟩, fun q9 => ?_⟩
      refine V_astore hC (lv' := [(4, _), (0, _), (1, _), (2, _), (3, _)]) (Nat.le_of_ble_eq_true rfl) rfl dL_getNumber_17 ?_
      refine V_iconst hC dL_getNumber_19 ?_
      obtain ⟨hr, kk⟩ := kk
      exact V_retW hC hR rfl (by rw [hgr]; exact ⟨Nat.le_refl _, Nat.le_refl _⟩) dL_getNumber_20 hr kk
abbrev md_L_setNumber : Md := (yL_setNumber, cL_setNumber, 6, (some .int), 3)
abbrev hh_L_setNumber : List (Nat × Nat × Nat × Nat) := [(0, 12, 15, 13), (0, 12, 19, 15)]
theorem mk_L_setNumber : MkW md_L_setNumber hh_L_setNumber 5 := ⟨by decide +kernel, (wa_6 0 rfl rfl), (wa_1 0 rfl rfl), by decide +kernel, by decide⟩
def T_L_setNumber (G : GT) (Q : Int → Mem → (Nat → Int64) → Prop) (qo : Nat) (x1 : Int) (x2 : Int) (x3 : Int) (M : Mem) (f : Nat → Int64) : Prop := (OkI (gB G) (gl G) md_X11_setNumber 0 0 [.ref (ad (gB G) 0), .int (I x1), .int (I x2), .int (I x3)] (Xo (gB G) qo f) M (fun r7 M1 => inR r7 → (∀ f1 : Nat → Int64, f1 = vp_updL f 0 ((I r7).toInt64) → (inR (0 : Int) ∧ Q (0 : Int) M1 f1))) NoX ∨ OkI (gB G) (gl G) md_X11_setNumber 1 6 [.ref (ad (gB G) 0), .int (I x1), .int (I x2), .int (I x3)] (Xo (gB G) qo f) M (fun _ _ => False) (fun E9 M1 => (E9 = "java/lang/IndexOutOfBoundsException" ∧ (inR (1 : Int) ∧ Q (1 : Int) M1 f)) ∨ (E9 = "java/lang/IllegalArgumentException" ∧ (inR (2 : Int) ∧ Q (2 : Int) M1 f))))
set_option maxRecDepth 100000 in
set_option maxHeartbeats 4000000 in
theorem ok_L_setNumber {B : WB} {l : Launch} {qo : Nat} {f : Nat → Int64} {M : Mem} {Q : Int → Mem → (Nat → Int64) → Prop} {x1 : Int} {x2 : Int} {x3 : Int} (hl : l.stackTraces = false) (body : ∀ G : GT, gB G = B → gl G = l → T_L_setNumber G Q qo x1 x2 x3 M f) : OkW B l md_L_setNumber hh_L_setNumber [.ref (ad B 0), .int (I x1), .int (I x2), .int (I x3), .ref qo] qo f M Q := by
  refine OkW_of mk_L_setNumber hl (Nat.le_of_ble_eq_true rfl) (fun G hC hR hg => ?_)
  have kk := body G hg.1 hg.2.2
  obtain ⟨rfl, hgr, rfl⟩ := hg
  unfold T_L_setNumber at kk
  refine V_aload hC 4 rfl dL_setNumber_0 ?_
  refine V_iconst hC dL_setNumber_2 ?_
  refine V_aload_n hC 0 rfl dL_setNumber_3 ?_
  refine V_iload_n hC 1 rfl dL_setNumber_4 ?_
  refine V_iload_n hC 2 rfl dL_setNumber_5 ?_
  refine V_iload_n hC 3 rfl dL_setNumber_6 ?_
  rcases kk with kk | kk
  · refine V_cVi hC (As := [_, _, _]) lv_L_71 dL_setNumber_7 (d0 := 3) (Nat.le_of_ble_eq_true rfl) (Rm_of hgr) rv_0 rfl (Nat.le_of_ble_eq_true rfl) zk kk (fun r9 M9 z kk => ?_)
    replace kk := kk z
    refine V_i2l hC dL_setNumber_10 ?_
    refine V_lastW hC dL_setNumber_11 ?_
    replace kk := kk _ rfl
    refine V_goto hC 23 rfl dL_setNumber_12 ?_
    refine V_iconst hC dL_setNumber_23 ?_
    obtain ⟨hr, kk⟩ := kk
    exact V_retW hC hR rfl zk dL_setNumber_24 hr kk
  · refine V_cH hC hR (As := [_, _, _]) ⟨lv_L_71.1, lm_L_71, lv_L_71.2.2.1, lv_L_71.2.2.2⟩ dL_setNumber_7 (d0 := 3) (Nat.le_of_ble_eq_true rfl) (Rm_of hgr) rv_0 rfl (Nat.le_of_ble_eq_true rfl) (Rk_of hgr ⟨Nat.le_refl _, Nat.le_refl _⟩) kk (noI fun _ _ q => q) (fun E9 M9 kk => ?_)
    have k8 := (show _ ∧ _ ∨ _ ∧ _ from kk)
    clear kk
    rcases k8 with ⟨rfl, kk⟩ | ⟨rfl, kk⟩
    · refine ⟨15, ⟨[], [(0, 12, 19, 15)], (0, 12, 15, 13), rfl, fun z hz => absurd hz List.not_mem_nil, by decide, by decide, (wa_4 162 rfl rfl), wn_4 23 rfl rfl, rfl⟩, fun q9 => ?_⟩
      refine V_astore hC (lv' := [(5, _), (0, _), (1, _), (2, _), (3, _), (4, _)]) (Nat.le_of_ble_eq_true rfl) rfl dL_setNumber_15 ?_
      refine V_iconst hC dL_setNumber_17 ?_
      obtain ⟨hr, kk⟩ := kk
      exact V_retW hC hR rfl (by rw [hgr]; exact ⟨Nat.le_refl _, Nat.le_refl _⟩) dL_setNumber_18 hr kk
    · refine ⟨19, ⟨[(0, 12, 15, 13)], [], (0, 12, 19, 15), rfl, List.forall_mem_cons.mpr ⟨⟨by decide, _, (wa_4 162 rfl rfl), Or.inl ⟨rfl, rfl⟩⟩, fun z hz => absurd hz List.not_mem_nil⟩, by decide, by decide, (wa_4 163 rfl rfl), wn_4 186 rfl rfl, rfl⟩, fun q9 => ?_⟩
      refine V_astore hC (lv' := [(5, _), (0, _), (1, _), (2, _), (3, _), (4, _)]) (Nat.le_of_ble_eq_true rfl) rfl dL_setNumber_19 ?_
      refine V_iconst hC dL_setNumber_21 ?_
      obtain ⟨hr, kk⟩ := kk
      exact V_retW hC hR rfl (by rw [hgr]; exact ⟨Nat.le_refl _, Nat.le_refl _⟩) dL_setNumber_22 hr kk
abbrev md_L_getByte : Md := (yL_getByte, cL_getByte, 5, (some .int), 3)
abbrev hh_L_getByte : List (Nat × Nat × Nat × Nat) := [(0, 10, 13, 13), (0, 10, 17, 15)]
theorem mk_L_getByte : MkW md_L_getByte hh_L_getByte 4 := ⟨by decide +kernel, (wa_6 7 rfl rfl), (wa_1 0 rfl rfl), by decide +kernel, by decide⟩
def T_L_getByte (G : GT) (Q : Int → Mem → (Nat → Int64) → Prop) (qo : Nat) (x1 : Int) (x2 : Int) (M : Mem) (f : Nat → Int64) : Prop := (OkI (gB G) (gl G) md_X11_getByte 0 0 [.ref (ad (gB G) 0), .int (I x1), .int (I x2)] (Xo (gB G) qo f) M (fun r5 M1 => inR r5 → (∀ f1 : Nat → Int64, f1 = vp_updL f 0 ((I r5).toInt64) → (inR (0 : Int) ∧ Q (0 : Int) M1 f1))) NoX ∨ OkI (gB G) (gl G) md_X11_getByte 1 6 [.ref (ad (gB G) 0), .int (I x1), .int (I x2)] (Xo (gB G) qo f) M (fun _ _ => False) (fun E9 M1 => (E9 = "java/lang/IndexOutOfBoundsException" ∧ (inR (1 : Int) ∧ Q (1 : Int) M1 f)) ∨ (E9 = "java/lang/IllegalArgumentException" ∧ (inR (2 : Int) ∧ Q (2 : Int) M1 f))))
set_option maxRecDepth 100000 in
set_option maxHeartbeats 4000000 in
theorem ok_L_getByte {B : WB} {l : Launch} {qo : Nat} {f : Nat → Int64} {M : Mem} {Q : Int → Mem → (Nat → Int64) → Prop} {x1 : Int} {x2 : Int} (hl : l.stackTraces = false) (body : ∀ G : GT, gB G = B → gl G = l → T_L_getByte G Q qo x1 x2 M f) : OkW B l md_L_getByte hh_L_getByte [.ref (ad B 0), .int (I x1), .int (I x2), .ref qo] qo f M Q := by
  refine OkW_of mk_L_getByte hl (Nat.le_of_ble_eq_true rfl) (fun G hC hR hg => ?_)
  have kk := body G hg.1 hg.2.2
  obtain ⟨rfl, hgr, rfl⟩ := hg
  unfold T_L_getByte at kk
  refine V_aload_n hC 3 rfl dL_getByte_0 ?_
  refine V_iconst hC dL_getByte_1 ?_
  refine V_aload_n hC 0 rfl dL_getByte_2 ?_
  refine V_iload_n hC 1 rfl dL_getByte_3 ?_
  refine V_iload_n hC 2 rfl dL_getByte_4 ?_
  rcases kk with kk | kk
  · refine V_cVi hC (As := [_, _]) lv_L_74 dL_getByte_5 (d0 := 3) (Nat.le_of_ble_eq_true rfl) (Rm_of hgr) rv_0 rfl (Nat.le_of_ble_eq_true rfl) zk kk (fun r9 M9 z kk => ?_)
    replace kk := kk z
    refine V_i2l hC dL_getByte_8 ?_
    refine V_lastW hC dL_getByte_9 ?_
    replace kk := kk _ rfl
    refine V_goto hC 21 rfl dL_getByte_10 ?_
    refine V_iconst hC dL_getByte_21 ?_
    obtain ⟨hr, kk⟩ := kk
    exact V_retW hC hR rfl zk dL_getByte_22 hr kk
  · refine V_cH hC hR (As := [_, _]) ⟨lv_L_74.1, lm_L_74, lv_L_74.2.2.1, lv_L_74.2.2.2⟩ dL_getByte_5 (d0 := 3) (Nat.le_of_ble_eq_true rfl) (Rm_of hgr) rv_0 rfl (Nat.le_of_ble_eq_true rfl) (Rk_of hgr ⟨Nat.le_refl _, Nat.le_refl _⟩) kk (noI fun _ _ q => q) (fun E9 M9 kk => ?_)
    have k8 := (show _ ∧ _ ∨ _ ∧ _ from kk)
    clear kk
    rcases k8 with ⟨rfl, kk⟩ | ⟨rfl, kk⟩
    · refine ⟨13, ⟨[], [(0, 10, 17, 15)], (0, 10, 13, 13), rfl, fun z hz => absurd hz List.not_mem_nil, by decide, by decide, (wa_4 162 rfl rfl), wn_4 23 rfl rfl, rfl⟩, fun q9 => ?_⟩
      refine V_astore hC (lv' := [(4, _), (0, _), (1, _), (2, _), (3, _)]) (Nat.le_of_ble_eq_true rfl) rfl dL_getByte_13 ?_
      refine V_iconst hC dL_getByte_15 ?_
      obtain ⟨hr, kk⟩ := kk
      exact V_retW hC hR rfl (by rw [hgr]; exact ⟨Nat.le_refl _, Nat.le_refl _⟩) dL_getByte_16 hr kk
    · refine ⟨17, ⟨[(0, 10, 13, 13)], [], (0, 10, 17, 15), rfl, List.forall_mem_cons.mpr ⟨⟨by decide, _, (wa_4 162 rfl rfl), Or.inl ⟨rfl, rfl⟩⟩, fun z hz => absurd hz List.not_mem_nil⟩, by decide, by decide, (wa_4 163 rfl rfl), wn_4 186 rfl rfl, rfl⟩, fun q9 => ?_⟩
      refine V_astore hC (lv' := [(4, _), (0, _), (1, _), (2, _), (3, _)]) (Nat.le_of_ble_eq_true rfl) rfl dL_getByte_17 ?_
      refine V_iconst hC dL_getByte_19 ?_
      obtain ⟨hr, kk⟩ := kk
      exact V_retW hC hR rfl (by rw [hgr]; exact ⟨Nat.le_refl _, Nat.le_refl _⟩) dL_getByte_20 hr kk
abbrev md_L_setByte : Md := (yL_setByte, cL_setByte, 6, (some .int), 4)
abbrev hh_L_setByte : List (Nat × Nat × Nat × Nat) := [(0, 12, 15, 13), (0, 12, 19, 15), (0, 12, 23, 17)]
theorem mk_L_setByte : MkW md_L_setByte hh_L_setByte 5 := ⟨by decide +kernel, (wa_6 19 rfl rfl), (wa_1 0 rfl rfl), by decide +kernel, by decide⟩
def T_L_setByte (G : GT) (Q : Int → Mem → (Nat → Int64) → Prop) (qo : Nat) (x1 : Int) (x2 : Int) (x3 : Int) (M : Mem) (f : Nat → Int64) : Prop := (OkI (gB G) (gl G) md_X11_setByte 0 0 [.ref (ad (gB G) 0), .int (I x1), .int (I x2), .int (I x3)] (Xo (gB G) qo f) M (fun r7 M1 => inR r7 → (∀ f1 : Nat → Int64, f1 = vp_updL f 0 ((I r7).toInt64) → (inR (0 : Int) ∧ Q (0 : Int) M1 f1))) NoX ∨ OkI (gB G) (gl G) md_X11_setByte 1 6 [.ref (ad (gB G) 0), .int (I x1), .int (I x2), .int (I x3)] (Xo (gB G) qo f) M (fun _ _ => False) (fun E9 M1 => (E9 = "java/lang/IndexOutOfBoundsException" ∧ (inR (1 : Int) ∧ Q (1 : Int) M1 f)) ∨ (E9 = "java/lang/IllegalArgumentException" ∧ (inR (2 : Int) ∧ Q (2 : Int) M1 f)) ∨ (E9 = "java/lang/IllegalStateException" ∧ (inR (3 : Int) ∧ Q (3 : Int) M1 f))))
set_option maxRecDepth 100000 in
set_option maxHeartbeats 4000000 in
theorem ok_L_setByte {B : WB} {l : Launch} {qo : Nat} {f : Nat → Int64} {M : Mem} {Q : Int → Mem → (Nat → Int64) → Prop} {x1 : Int} {x2 : Int} {x3 : Int} (hl : l.stackTraces = false) (body : ∀ G : GT, gB G = B → gl G = l → T_L_setByte G Q qo x1 x2 x3 M f) : OkW B l md_L_setByte hh_L_setByte [.ref (ad B 0), .int (I x1), .int (I x2), .int (I x3), .ref qo] qo f M Q := by
  refine OkW_of mk_L_setByte hl (Nat.le_of_ble_eq_true rfl) (fun G hC hR hg => ?_)
  have kk := body G hg.1 hg.2.2
  obtain ⟨rfl, hgr, rfl⟩ := hg
  unfold T_L_setByte at kk
  refine V_aload hC 4 rfl dL_setByte_0 ?_
  refine V_iconst hC dL_setByte_2 ?_
  refine V_aload_n hC 0 rfl dL_setByte_3 ?_
  refine V_iload_n hC 1 rfl dL_setByte_4 ?_
  refine V_iload_n hC 2 rfl dL_setByte_5 ?_
  refine V_iload_n hC 3 rfl dL_setByte_6 ?_
  rcases kk with kk | kk
  · refine V_cVi hC (As := [_, _, _]) lv_L_77 dL_setByte_7 (d0 := 4) (Nat.le_of_ble_eq_true rfl) (Rm_of hgr) rv_0 rfl (Nat.le_of_ble_eq_true rfl) zk kk (fun r9 M9 z kk => ?_)
    replace kk := kk z
    refine V_i2l hC dL_setByte_10 ?_
    refine V_lastW hC dL_setByte_11 ?_
    replace kk := kk _ rfl
    refine V_goto hC 27 rfl dL_setByte_12 ?_
    refine V_iconst hC dL_setByte_27 ?_
    obtain ⟨hr, kk⟩ := kk
    exact V_retW hC hR rfl zk dL_setByte_28 hr kk
  · refine V_cH hC hR (As := [_, _, _]) ⟨lv_L_77.1, lm_L_77, lv_L_77.2.2.1, lv_L_77.2.2.2⟩ dL_setByte_7 (d0 := 4) (Nat.le_of_ble_eq_true rfl) (Rm_of hgr) rv_0 rfl (Nat.le_of_ble_eq_true rfl) (Rk_of hgr ⟨Nat.le_refl _, Nat.le_refl _⟩) kk (noI fun _ _ q => q) (fun E9 M9 kk => ?_)
    have k8 := (show _ ∧ _ ∨ _ ∧ _ ∨ _ ∧ _ from kk)
    clear kk
    rcases k8 with ⟨rfl, kk⟩ | ⟨rfl, kk⟩ | ⟨rfl, kk⟩
    · refine ⟨15, ⟨[], [(0, 12, 19, 15), (0, 12, 23, 17)], (0, 12, 15, 13), rfl, fun z hz => absurd hz List.not_mem_nil, by decide, by decide, (wa_4 162 rfl rfl), wn_4 23 rfl rfl, rfl⟩, fun q9 => ?_⟩
      refine V_astore hC (lv' := [(5, _), (0, _), (1, _), (2, _), (3, _), (4, _)]) (Nat.le_of_ble_eq_true rfl) rfl dL_setByte_15 ?_
      refine V_iconst hC dL_setByte_17 ?_
      obtain ⟨hr, kk⟩ := kk
      exact V_retW hC hR rfl (by rw [hgr]; exact ⟨Nat.le_refl _, Nat.le_refl _⟩) dL_setByte_18 hr kk
    · refine ⟨19, ⟨[(0, 12, 15, 13)], [(0, 12, 23, 17)], (0, 12, 19, 15), rfl, List.forall_mem_cons.mpr ⟨⟨by decide, _, (wa_4 162 rfl rfl), Or.inl ⟨rfl, rfl⟩⟩, fun z hz => absurd hz List.not_mem_nil⟩, by decide, by decide, (wa_4 163 rfl rfl), wn_4 186 rfl rfl, rfl⟩, fun q9 => ?_⟩
      refine V_astore hC (lv' := [(5, _), (0, _), (1, _), (2, _), (3, _), (4, _)]) (Nat.le_of_ble_eq_true rfl) rfl dL_setByte_19 ?_
      refine V_iconst hC dL_setByte_21 ?_
      obtain ⟨hr, kk⟩ := kk
      exact V_retW hC hR rfl (by rw [hgr]; exact ⟨Nat.le_refl _, Nat.le_refl _⟩) dL_setByte_22 hr kk
    · refine ⟨23, ⟨[(0, 12, 15, 13), (0, 12, 19, 15)], [], (0, 12, 23, 17), rfl, List.forall_mem_cons.mpr ⟨⟨by decide, _, (wa_4 162 rfl rfl), Or.inr (Or.inl ⟨rfl, rfl⟩)⟩, List.forall_mem_cons.mpr ⟨⟨by decide, _, (wa_4 163 rfl rfl), Or.inr (Or.inr ⟨rfl, rfl⟩)⟩, fun z hz => absurd hz List.not_mem_nil⟩⟩, by decide, by decide, (wa_4 164 rfl rfl), wn_4 202 rfl rfl, rfl⟩, fun q9 => ?_⟩
      refine V_astore hC (lv' := [(5, _), (0, _), (1, _), (2, _), (3, _), (4, _)]) (Nat.le_of_ble_eq_true rfl) rfl dL_setByte_23 ?_
      refine V_iconst hC dL_setByte_25 ?_
      obtain ⟨hr, kk⟩ := kk
      exact V_retW hC hR rfl (by rw [hgr]; exact ⟨Nat.le_refl _, Nat.le_refl _⟩) dL_setByte_26 hr kk
abbrev md_L_read : Md := (yL_read, cL_read, 5, (some .int), 4)
abbrev hh_L_read : List (Nat × Nat × Nat × Nat) := [(0, 10, 13, 13), (0, 10, 17, 15)]
theorem mk_L_read : MkW md_L_read hh_L_read 4 := ⟨by decide +kernel, (wa_6 27 rfl rfl), (wa_1 0 rfl rfl), by decide +kernel, by decide⟩
def T_L_read (G : GT) (Q : Int → Mem → (Nat → Int64) → Prop) (qo : Nat) (x1 : Int) (x2 : Int) (M : Mem) (f : Nat → Int64) : Prop := (OkI (gB G) (gl G) md_X11_read 0 0 [.ref (ad (gB G) 0), .int (I x1), .int (I x2)] (Xo (gB G) qo f) M (fun r5 M1 => inR r5 → (∀ f1 : Nat → Int64, f1 = vp_updL f 0 ((I r5).toInt64) → (inR (0 : Int) ∧ Q (0 : Int) M1 f1))) NoX ∨ OkI (gB G) (gl G) md_X11_read 1 6 [.ref (ad (gB G) 0), .int (I x1), .int (I x2)] (Xo (gB G) qo f) M (fun _ _ => False) (fun E9 M1 => (E9 = "java/lang/IndexOutOfBoundsException" ∧ (inR (1 : Int) ∧ Q (1 : Int) M1 f)) ∨ (E9 = "java/lang/IllegalArgumentException" ∧ (inR (2 : Int) ∧ Q (2 : Int) M1 f))))
set_option maxRecDepth 100000 in
set_option maxHeartbeats 4000000 in
theorem ok_L_read {B : WB} {l : Launch} {qo : Nat} {f : Nat → Int64} {M : Mem} {Q : Int → Mem → (Nat → Int64) → Prop} {x1 : Int} {x2 : Int} (hl : l.stackTraces = false) (body : ∀ G : GT, gB G = B → gl G = l → T_L_read G Q qo x1 x2 M f) : OkW B l md_L_read hh_L_read [.ref (ad B 0), .int (I x1), .int (I x2), .ref qo] qo f M Q := by
  refine OkW_of mk_L_read hl (Nat.le_of_ble_eq_true rfl) (fun G hC hR hg => ?_)
  have kk := body G hg.1 hg.2.2
  obtain ⟨rfl, hgr, rfl⟩ := hg
  unfold T_L_read at kk
  refine V_aload_n hC 3 rfl dL_read_0 ?_
  refine V_iconst hC dL_read_1 ?_
  refine V_aload_n hC 0 rfl dL_read_2 ?_
  refine V_iload_n hC 1 rfl dL_read_3 ?_
  refine V_iload_n hC 2 rfl dL_read_4 ?_
  rcases kk with kk | kk
  · refine V_cVi hC (As := [_, _]) lv_L_80 dL_read_5 (d0 := 4) (Nat.le_of_ble_eq_true rfl) (Rm_of hgr) rv_0 rfl (Nat.le_of_ble_eq_true rfl) zk kk (fun r9 M9 z kk => ?_)
    replace kk := kk z
    refine V_i2l hC dL_read_8 ?_
    refine V_lastW hC dL_read_9 ?_
    replace kk := kk _ rfl
    refine V_goto hC 21 rfl dL_read_10 ?_
    refine V_iconst hC dL_read_21 ?_
    obtain ⟨hr, kk⟩ := kk
    exact V_retW hC hR rfl zk dL_read_22 hr kk
  · refine V_cH hC hR (As := [_, _]) ⟨lv_L_80.1, lm_L_80, lv_L_80.2.2.1, lv_L_80.2.2.2⟩ dL_read_5 (d0 := 4) (Nat.le_of_ble_eq_true rfl) (Rm_of hgr) rv_0 rfl (Nat.le_of_ble_eq_true rfl) (Rk_of hgr ⟨Nat.le_refl _, Nat.le_refl _⟩) kk (noI fun _ _ q => q) (fun E9 M9 kk => ?_)
    have k8 := (show _ ∧ _ ∨ _ ∧ _ from kk)
    clear kk
    rcases k8 with ⟨rfl, kk⟩ | ⟨rfl, kk⟩
    · refine ⟨13, ⟨[], [(0, 10, 17, 15)], (0, 10, 13, 13), rfl, fun z hz => absurd hz List.not_mem_nil, by decide, by decide, (wa_4 162 rfl rfl), wn_4 23 rfl rfl, rfl⟩, fun q9 => ?_⟩
      refine V_astore hC (lv' := [(4, _), (0, _), (1, _), (2, _), (3, _)]) (Nat.le_of_ble_eq_true rfl) rfl dL_read_13 ?_
      refine V_iconst hC dL_read_15 ?_
      obtain ⟨hr, kk⟩ := kk
      exact V_retW hC hR rfl (by rw [hgr]; exact ⟨Nat.le_refl _, Nat.le_refl _⟩) dL_read_16 hr kk
    · refine ⟨17, ⟨[(0, 10, 13, 13)], [], (0, 10, 17, 15), rfl, List.forall_mem_cons.mpr ⟨⟨by decide, _, (wa_4 162 rfl rfl), Or.inl ⟨rfl, rfl⟩⟩, fun z hz => absurd hz List.not_mem_nil⟩, by decide, by decide, (wa_4 163 rfl rfl), wn_4 186 rfl rfl, rfl⟩, fun q9 => ?_⟩
      refine V_astore hC (lv' := [(4, _), (0, _), (1, _), (2, _), (3, _)]) (Nat.le_of_ble_eq_true rfl) rfl dL_read_17 ?_
      refine V_iconst hC dL_read_19 ?_
      obtain ⟨hr, kk⟩ := kk
      exact V_retW hC hR rfl (by rw [hgr]; exact ⟨Nat.le_refl _, Nat.le_refl _⟩) dL_read_20 hr kk
abbrev md_L_refersTo : Md := (yL_refersTo, cL_refersTo, 5, (some .int), 4)
abbrev hh_L_refersTo : List (Nat × Nat × Nat × Nat) := [(0, 17, 20, 13), (0, 17, 24, 15)]
theorem mk_L_refersTo : MkW md_L_refersTo hh_L_refersTo 4 := ⟨by decide +kernel, (wa_6 45 rfl rfl), (wa_1 0 rfl rfl), by decide +kernel, by decide⟩
def T_L_refersTo (G : GT) (Q : Int → Mem → (Nat → Int64) → Prop) (qo : Nat) (x1 : Int) (x2 : Int) (M : Mem) (f : Nat → Int64) : Prop := (OkI (gB G) (gl G) md_X11_refersTo 0 0 [.ref (ad (gB G) 0), .int (I x1), .int (I x2)] (Xo (gB G) qo f) M (fun r5 M1 => inR r5 → (inR r5 ∧ (r5 = 0 → (∀ f1 : Nat → Int64, f1 = vp_updL f 0 (0 : Int64) → (inR (0 : Int) ∧ Q (0 : Int) M1 f1))) ∧ (r5 ≠ 0 → (∀ f1 : Nat → Int64, f1 = vp_updL f 0 (1 : Int64) → (inR (0 : Int) ∧ Q (0 : Int) M1 f1))))) NoX ∨ OkI (gB G) (gl G) md_X11_refersTo 1 6 [.ref (ad (gB G) 0), .int (I x1), .int (I x2)] (Xo (gB G) qo f) M (fun _ _ => False) (fun E9 M1 => (E9 = "java/lang/IndexOutOfBoundsException" ∧ (inR (1 : Int) ∧ Q (1 : Int) M1 f)) ∨ (E9 = "java/lang/IllegalArgumentException" ∧ (inR (2 : Int) ∧ Q (2 : Int) M1 f))))
set_option maxRecDepth 100000 in
set_option maxHeartbeats 4000000 in
theorem ok_L_refersTo {B : WB} {l : Launch} {qo : Nat} {f : Nat → Int64} {M : Mem} {Q : Int → Mem → (Nat → Int64) → Prop} {x1 : Int} {x2 : Int} (hl : l.stackTraces = false) (body : ∀ G : GT, gB G = B → gl G = l → T_L_refersTo G Q qo x1 x2 M f) : OkW B l md_L_refersTo hh_L_refersTo [.ref (ad B 0), .int (I x1), .int (I x2), .ref qo] qo f M Q := by
  refine OkW_of mk_L_refersTo hl (Nat.le_of_ble_eq_true rfl) (fun G hC hR hg => ?_)
  have kk := body G hg.1 hg.2.2
  obtain ⟨rfl, hgr, rfl⟩ := hg
  unfold T_L_refersTo at kk
  refine V_aload_n hC 3 rfl dL_refersTo_0 ?_
  refine V_iconst hC dL_refersTo_1 ?_
  refine V_aload_n hC 0 rfl dL_refersTo_2 ?_
  refine V_iload_n hC 1 rfl dL_refersTo_3 ?_
  refine V_iload_n hC 2 rfl dL_refersTo_4 ?_
  rcases kk with kk | kk
  · refine V_cVi hC (As := [_, _]) lv_L_83 dL_refersTo_5 (d0 := 4) (Nat.le_of_ble_eq_true rfl) (Rm_of hgr) rv_0 rfl (Nat.le_of_ble_eq_true rfl) zk kk (fun r9 M9 z kk => ?_)
    replace kk := kk z
    obtain ⟨ha, k1, k2⟩ := kk
    refine V_if_eq hC 15 rfl dL_refersTo_8 ⟨ha, fun z => ?_, fun z => ?_⟩
    · replace kk := k1 z; clear k1 k2
      refine V_lconst hC 0 rfl dL_refersTo_15 ?_
      refine V_lastW hC dL_refersTo_16 ?_
      replace kk := kk _ rfl
      refine V_goto hC 28 rfl dL_refersTo_17 ?_
      refine V_iconst hC dL_refersTo_28 ?_
      obtain ⟨hr, kk⟩ := kk
      exact V_retW hC hR rfl zk dL_refersTo_29 hr kk
    · replace kk := k2 z; clear k1 k2
      refine V_lconst hC 1 rfl dL_refersTo_11 ?_
      refine V_goto hC 16 rfl dL_refersTo_12 ?_
      refine V_lastW hC dL_refersTo_16 ?_
      replace kk := kk _ rfl
      refine V_goto hC 28 rfl dL_refersTo_17 ?_
      refine V_iconst hC dL_refersTo_28 ?_
      obtain ⟨hr, kk⟩ := kk
      exact V_retW hC hR rfl zk dL_refersTo_29 hr kk
  · refine V_cH hC hR (As := [_, _]) ⟨lv_L_83.1, lm_L_83, lv_L_83.2.2.1, lv_L_83.2.2.2⟩ dL_refersTo_5 (d0 := 4) (Nat.le_of_ble_eq_true rfl) (Rm_of hgr) rv_0 rfl (Nat.le_of_ble_eq_true rfl) (Rk_of hgr ⟨Nat.le_refl _, Nat.le_refl _⟩) kk (noI fun _ _ q => q) (fun E9 M9 kk => ?_)
    have k8 := (show _ ∧ _ ∨ _ ∧ _ from kk)
    clear kk
    rcases k8 with ⟨rfl, kk⟩ | ⟨rfl, kk⟩
    · refine ⟨20, ⟨[], [(0, 17, 24, 15)], (0, 17, 20, 13), rfl, fun z hz => absurd hz List.not_mem_nil, by decide, by decide, (wa_4 162 rfl rfl), wn_4 23 rfl rfl, rfl⟩, fun q9 => ?_⟩
      refine V_astore hC (lv' := [(4, _), (0, _), (1, _), (2, _), (3, _)]) (Nat.le_of_ble_eq_true rfl) rfl dL_refersTo_20 ?_
      refine V_iconst hC dL_refersTo_22 ?_
      obtain ⟨hr, kk⟩ := kk
      exact V_retW hC hR rfl (by rw [hgr]; exact ⟨Nat.le_refl _, Nat.le_refl _⟩) dL_refersTo_23 hr kk
    · refine ⟨24, ⟨[(0, 17, 20, 13)], [], (0, 17, 24, 15), rfl, List.forall_mem_cons.mpr ⟨⟨by decide, _, (wa_4 162 rfl rfl), Or.inl ⟨rfl, rfl⟩⟩, fun z hz => absurd hz List.not_mem_nil⟩, by decide, by decide, (wa_4 163 rfl rfl), wn_4 186 rfl rfl, rfl⟩, fun q9 => ?_⟩
      refine V_astore hC (lv' := [(4, _), (0, _), (1, _), (2, _), (3, _)]) (Nat.le_of_ble_eq_true rfl) rfl dL_refersTo_24 ?_
      refine V_iconst hC dL_refersTo_26 ?_
      obtain ⟨hr, kk⟩ := kk
      exact V_retW hC hR rfl (by rw [hgr]; exact ⟨Nat.le_refl _, Nat.le_refl _⟩) dL_refersTo_27 hr kk
abbrev md_L_forget : Md := (yL_forget, cL_forget, 4, (some .int), 4)
abbrev hh_L_forget : List (Nat × Nat × Nat × Nat) := [(0, 16, 19, 13), (0, 16, 22, 15)]
theorem mk_L_forget : MkW md_L_forget hh_L_forget 3 := ⟨by decide +kernel, (wa_6 52 rfl rfl), (wa_1 0 rfl rfl), by decide +kernel, by decide⟩
def T_L_forget (G : GT) (Q : Int → Mem → (Nat → Int64) → Prop) (qo : Nat) (x1 : Int) (M : Mem) (f : Nat → Int64) : Prop := (OkI (gB G) (gl G) md_X11_forget 0 0 [.ref (ad (gB G) 0), .int (I x1)] (Xo (gB G) qo f) M (fun r4 M1 => inR r4 → (inR r4 ∧ (r4 = 0 → (∀ f1 : Nat → Int64, f1 = vp_updL f 0 (0 : Int64) → (inR (0 : Int) ∧ Q (0 : Int) M1 f1))) ∧ (r4 ≠ 0 → (∀ f1 : Nat → Int64, f1 = vp_updL f 0 (1 : Int64) → (inR (0 : Int) ∧ Q (0 : Int) M1 f1))))) NoX ∨ OkI (gB G) (gl G) md_X11_forget 1 6 [.ref (ad (gB G) 0), .int (I x1)] (Xo (gB G) qo f) M (fun _ _ => False) (fun E9 M1 => (E9 = "java/lang/IndexOutOfBoundsException" ∧ (inR (1 : Int) ∧ Q (1 : Int) M1 f)) ∨ (E9 = "java/lang/IllegalArgumentException" ∧ (inR (2 : Int) ∧ Q (2 : Int) M1 f))))
set_option maxRecDepth 100000 in
set_option maxHeartbeats 4000000 in
theorem ok_L_forget {B : WB} {l : Launch} {qo : Nat} {f : Nat → Int64} {M : Mem} {Q : Int → Mem → (Nat → Int64) → Prop} {x1 : Int} (hl : l.stackTraces = false) (body : ∀ G : GT, gB G = B → gl G = l → T_L_forget G Q qo x1 M f) : OkW B l md_L_forget hh_L_forget [.ref (ad B 0), .int (I x1), .ref qo] qo f M Q := by
  refine OkW_of mk_L_forget hl (Nat.le_of_ble_eq_true rfl) (fun G hC hR hg => ?_)
  have kk := body G hg.1 hg.2.2
  obtain ⟨rfl, hgr, rfl⟩ := hg
  unfold T_L_forget at kk
  refine V_aload_n hC 2 rfl dL_forget_0 ?_
  refine V_iconst hC dL_forget_1 ?_
  refine V_aload_n hC 0 rfl dL_forget_2 ?_
  refine V_iload_n hC 1 rfl dL_forget_3 ?_
  rcases kk with kk | kk
  · refine V_cVi hC (As := [_]) lv_L_87 dL_forget_4 (d0 := 4) (Nat.le_of_ble_eq_true rfl) (Rm_of hgr) rv_0 rfl (Nat.le_of_ble_eq_true rfl) zk kk (fun r9 M9 z kk => ?_)
    replace kk := kk z
    obtain ⟨ha, k1, k2⟩ := kk
    refine V_if_eq hC 14 rfl dL_forget_7 ⟨ha, fun z => ?_, fun z => ?_⟩
    · replace kk := k1 z; clear k1 k2
      refine V_lconst hC 0 rfl dL_forget_14 ?_
      refine V_lastW hC dL_forget_15 ?_
      replace kk := kk _ rfl
      refine V_goto hC 25 rfl dL_forget_16 ?_
      refine V_iconst hC dL_forget_25 ?_
      obtain ⟨hr, kk⟩ := kk
      exact V_retW hC hR rfl zk dL_forget_26 hr kk
    · replace kk := k2 z; clear k1 k2
      refine V_lconst hC 1 rfl dL_forget_10 ?_
      refine V_goto hC 15 rfl dL_forget_11 ?_
      refine V_lastW hC dL_forget_15 ?_
      replace kk := kk _ rfl
      refine V_goto hC 25 rfl dL_forget_16 ?_
      refine V_iconst hC dL_forget_25 ?_
      obtain ⟨hr, kk⟩ := kk
      exact V_retW hC hR rfl zk dL_forget_26 hr kk
  · refine V_cH hC hR (As := [_]) ⟨lv_L_87.1, lm_L_87, lv_L_87.2.2.1, lv_L_87.2.2.2⟩ dL_forget_4 (d0 := 4) (Nat.le_of_ble_eq_true rfl) (Rm_of hgr) rv_0 rfl (Nat.le_of_ble_eq_true rfl) (Rk_of hgr ⟨Nat.le_refl _, Nat.le_refl _⟩) kk (noI fun _ _ q => q) (fun E9 M9 kk => ?_)
    have k8 := (show _ ∧ _ ∨ _ ∧ _ from kk)
    clear kk
    rcases k8 with ⟨rfl, kk⟩ | ⟨rfl, kk⟩
    · refine ⟨19, ⟨[], [(0, 16, 22, 15)], (0, 16, 19, 13), rfl, fun z hz => absurd hz List.not_mem_nil, by decide, by decide, (wa_4 162 rfl rfl), wn_4 23 rfl rfl, rfl⟩, fun q9 => ?_⟩
      refine V_astore_n hC (lv' := [(3, _), (0, _), (1, _), (2, _)]) (Nat.le_of_ble_eq_true rfl) rfl dL_forget_19 ?_
      refine V_iconst hC dL_forget_20 ?_
      obtain ⟨hr, kk⟩ := kk
      exact V_retW hC hR rfl (by rw [hgr]; exact ⟨Nat.le_refl _, Nat.le_refl _⟩) dL_forget_21 hr kk
    · refine ⟨22, ⟨[(0, 16, 19, 13)], [], (0, 16, 22, 15), rfl, List.forall_mem_cons.mpr ⟨⟨by decide, _, (wa_4 162 rfl rfl), Or.inl ⟨rfl, rfl⟩⟩, fun z hz => absurd hz List.not_mem_nil⟩, by decide, by decide, (wa_4 163 rfl rfl), wn_4 186 rfl rfl, rfl⟩, fun q9 => ?_⟩
      refine V_astore_n hC (lv' := [(3, _), (0, _), (1, _), (2, _)]) (Nat.le_of_ble_eq_true rfl) rfl dL_forget_22 ?_
      refine V_iconst hC dL_forget_23 ?_
      obtain ⟨hr, kk⟩ := kk
      exact V_retW hC hR rfl (by rw [hgr]; exact ⟨Nat.le_refl _, Nat.le_refl _⟩) dL_forget_24 hr kk
abbrev md_L_poll : Md := (yL_poll, cL_poll, 4, (some .int), 4)
abbrev hh_L_poll : List (Nat × Nat × Nat × Nat) := [(0, 9, 12, 13)]
theorem mk_L_poll : MkW md_L_poll hh_L_poll 3 := ⟨by decide +kernel, (wa_6 59 rfl rfl), (wa_1 0 rfl rfl), by decide +kernel, by decide⟩
def T_L_poll (G : GT) (Q : Int → Mem → (Nat → Int64) → Prop) (qo : Nat) (x1 : Int) (M : Mem) (f : Nat → Int64) : Prop := (OkI (gB G) (gl G) md_X11_poll 0 0 [.ref (ad (gB G) 0), .int (I x1)] (Xo (gB G) qo f) M (fun r4 M1 => inR r4 → (∀ f1 : Nat → Int64, f1 = vp_updL f 0 ((I r4).toInt64) → (inR (0 : Int) ∧ Q (0 : Int) M1 f1))) NoX ∨ OkI (gB G) (gl G) md_X11_poll 1 6 [.ref (ad (gB G) 0), .int (I x1)] (Xo (gB G) qo f) M (fun _ _ => False) (fun E9 M1 => (E9 = "java/lang/IndexOutOfBoundsException" ∧ (inR (1 : Int) ∧ Q (1 : Int) M1 f))))
set_option maxRecDepth 100000 in
set_option maxHeartbeats 4000000 in
theorem ok_L_poll {B : WB} {l : Launch} {qo : Nat} {f : Nat → Int64} {M : Mem} {Q : Int → Mem → (Nat → Int64) → Prop} {x1 : Int} (hl : l.stackTraces = false) (body : ∀ G : GT, gB G = B → gl G = l → T_L_poll G Q qo x1 M f) : OkW B l md_L_poll hh_L_poll [.ref (ad B 0), .int (I x1), .ref qo] qo f M Q := by
  refine OkW_of mk_L_poll hl (Nat.le_of_ble_eq_true rfl) (fun G hC hR hg => ?_)
  have kk := body G hg.1 hg.2.2
  obtain ⟨rfl, hgr, rfl⟩ := hg
  unfold T_L_poll at kk
  refine V_aload_n hC 2 rfl dL_poll_0 ?_
  refine V_iconst hC dL_poll_1 ?_
  refine V_aload_n hC 0 rfl dL_poll_2 ?_
  refine V_iload_n hC 1 rfl dL_poll_3 ?_
  rcases kk with kk | kk
  · refine V_cVi hC (As := [_]) lv_L_91 dL_poll_4 (d0 := 4) (Nat.le_of_ble_eq_true rfl) (Rm_of hgr) rv_0 rfl (Nat.le_of_ble_eq_true rfl) zk kk (fun r9 M9 z kk => ?_)
    replace kk := kk z
    refine V_i2l hC dL_poll_7 ?_
    refine V_lastW hC dL_poll_8 ?_
    replace kk := kk _ rfl
    refine V_goto hC 15 rfl dL_poll_9 ?_
    refine V_iconst hC dL_poll_15 ?_
    obtain ⟨hr, kk⟩ := kk
    exact V_retW hC hR rfl zk dL_poll_16 hr kk
  · refine V_cH hC hR (As := [_]) ⟨lv_L_91.1, lm_L_91, lv_L_91.2.2.1, lv_L_91.2.2.2⟩ dL_poll_4 (d0 := 4) (Nat.le_of_ble_eq_true rfl) (Rm_of hgr) rv_0 rfl (Nat.le_of_ble_eq_true rfl) (Rk_of hgr ⟨Nat.le_refl _, Nat.le_refl _⟩) kk (noI fun _ _ q => q) (fun E9 M9 kk => ?_)
    have k8 := (show _ ∧ _ from kk)
    clear kk
    obtain ⟨rfl, kk⟩ := k8
    refine ⟨12, ⟨[], [], (0, 9, 12, 13), rfl, fun z hz => absurd hz List.not_mem_nil, by decide, by decide, (wa_4 162 rfl rfl), wn_4 23 rfl rfl, rfl⟩, fun q9 => ?_⟩
    refine V_astore_n hC (lv' := [(3, _), (0, _), (1, _), (2, _)]) (Nat.le_of_ble_eq_true rfl) rfl dL_poll_12 ?_
    refine V_iconst hC dL_poll_13 ?_
    obtain ⟨hr, kk⟩ := kk
    exact V_retW hC hR rfl (by rw [hgr]; exact ⟨Nat.le_refl _, Nat.le_refl _⟩) dL_poll_14 hr kk
abbrev md_L_takeLast : Md := (yL_takeLast, cL_takeLast, 4, (some .int), 4)
abbrev hh_L_takeLast : List (Nat × Nat × Nat × Nat) := [(0, 9, 12, 13)]
theorem mk_L_takeLast : MkW md_L_takeLast hh_L_takeLast 3 := ⟨by decide +kernel, (wa_6 75 rfl rfl), (wa_1 0 rfl rfl), by decide +kernel, by decide⟩
def T_L_takeLast (G : GT) (Q : Int → Mem → (Nat → Int64) → Prop) (qo : Nat) (x1 : Int) (M : Mem) (f : Nat → Int64) : Prop := (OkI (gB G) (gl G) md_X11_takeLast 0 0 [.ref (ad (gB G) 0), .int (I x1)] (Xo (gB G) qo f) M (fun r4 M1 => inR r4 → (∀ f1 : Nat → Int64, f1 = vp_updL f 0 ((I r4).toInt64) → (inR (0 : Int) ∧ Q (0 : Int) M1 f1))) NoX ∨ OkI (gB G) (gl G) md_X11_takeLast 1 6 [.ref (ad (gB G) 0), .int (I x1)] (Xo (gB G) qo f) M (fun _ _ => False) (fun E9 M1 => (E9 = "java/lang/IndexOutOfBoundsException" ∧ (inR (1 : Int) ∧ Q (1 : Int) M1 f))))
set_option maxRecDepth 100000 in
set_option maxHeartbeats 4000000 in
theorem ok_L_takeLast {B : WB} {l : Launch} {qo : Nat} {f : Nat → Int64} {M : Mem} {Q : Int → Mem → (Nat → Int64) → Prop} {x1 : Int} (hl : l.stackTraces = false) (body : ∀ G : GT, gB G = B → gl G = l → T_L_takeLast G Q qo x1 M f) : OkW B l md_L_takeLast hh_L_takeLast [.ref (ad B 0), .int (I x1), .ref qo] qo f M Q := by
  refine OkW_of mk_L_takeLast hl (Nat.le_of_ble_eq_true rfl) (fun G hC hR hg => ?_)
  have kk := body G hg.1 hg.2.2
  obtain ⟨rfl, hgr, rfl⟩ := hg
  unfold T_L_takeLast at kk
  refine V_aload_n hC 2 rfl dL_takeLast_0 ?_
  refine V_iconst hC dL_takeLast_1 ?_
  refine V_aload_n hC 0 rfl dL_takeLast_2 ?_
  refine V_iload_n hC 1 rfl dL_takeLast_3 ?_
  rcases kk with kk | kk
  · refine V_cVi hC (As := [_]) lv_L_94 dL_takeLast_4 (d0 := 4) (Nat.le_of_ble_eq_true rfl) (Rm_of hgr) rv_0 rfl (Nat.le_of_ble_eq_true rfl) zk kk (fun r9 M9 z kk => ?_)
    replace kk := kk z
    refine V_i2l hC dL_takeLast_7 ?_
    refine V_lastW hC dL_takeLast_8 ?_
    replace kk := kk _ rfl
    refine V_goto hC 15 rfl dL_takeLast_9 ?_
    refine V_iconst hC dL_takeLast_15 ?_
    obtain ⟨hr, kk⟩ := kk
    exact V_retW hC hR rfl zk dL_takeLast_16 hr kk
  · refine V_cH hC hR (As := [_]) ⟨lv_L_94.1, lm_L_94, lv_L_94.2.2.1, lv_L_94.2.2.2⟩ dL_takeLast_4 (d0 := 4) (Nat.le_of_ble_eq_true rfl) (Rm_of hgr) rv_0 rfl (Nat.le_of_ble_eq_true rfl) (Rk_of hgr ⟨Nat.le_refl _, Nat.le_refl _⟩) kk (noI fun _ _ q => q) (fun E9 M9 kk => ?_)
    have k8 := (show _ ∧ _ from kk)
    clear kk
    obtain ⟨rfl, kk⟩ := k8
    refine ⟨12, ⟨[], [], (0, 9, 12, 13), rfl, fun z hz => absurd hz List.not_mem_nil, by decide, by decide, (wa_4 162 rfl rfl), wn_4 23 rfl rfl, rfl⟩, fun q9 => ?_⟩
    refine V_astore_n hC (lv' := [(3, _), (0, _), (1, _), (2, _)]) (Nat.le_of_ble_eq_true rfl) rfl dL_takeLast_12 ?_
    refine V_iconst hC dL_takeLast_13 ?_
    obtain ⟨hr, kk⟩ := kk
    exact V_retW hC hR rfl (by rw [hgr]; exact ⟨Nat.le_refl _, Nat.le_refl _⟩) dL_takeLast_14 hr kk
abbrev md_L_put : Md := (yL_put, cL_put, 6, (some .int), 4)
abbrev hh_L_put : List (Nat × Nat × Nat × Nat) := [(0, 19, 22, 13), (0, 19, 26, 15)]
theorem mk_L_put : MkW md_L_put hh_L_put 5 := ⟨by decide +kernel, (wa_6 82 rfl rfl), (wa_1 0 rfl rfl), by decide +kernel, by decide⟩
def T_L_put (G : GT) (Q : Int → Mem → (Nat → Int64) → Prop) (qo : Nat) (x1 : Int) (x2 : Int) (x3 : Int) (M : Mem) (f : Nat → Int64) : Prop := (OkI (gB G) (gl G) md_X11_put 0 0 [.ref (ad (gB G) 0), .int (I x1), .int (I x2), .int (I x3)] (Xo (gB G) qo f) M (fun r7 M1 => inR r7 → (inR r7 ∧ (r7 = 0 → (∀ f1 : Nat → Int64, f1 = vp_updL f 0 (0 : Int64) → (inR (0 : Int) ∧ Q (0 : Int) M1 f1))) ∧ (r7 ≠ 0 → (∀ f1 : Nat → Int64, f1 = vp_updL f 0 (1 : Int64) → (inR (0 : Int) ∧ Q (0 : Int) M1 f1))))) NoX ∨ OkI (gB G) (gl G) md_X11_put 1 6 [.ref (ad (gB G) 0), .int (I x1), .int (I x2), .int (I x3)] (Xo (gB G) qo f) M (fun _ _ => False) (fun E9 M1 => (E9 = "java/lang/IndexOutOfBoundsException" ∧ (inR (1 : Int) ∧ Q (1 : Int) M1 f)) ∨ (E9 = "java/lang/IllegalArgumentException" ∧ (inR (2 : Int) ∧ Q (2 : Int) M1 f))))
set_option maxRecDepth 100000 in
set_option maxHeartbeats 4000000 in
theorem ok_L_put {B : WB} {l : Launch} {qo : Nat} {f : Nat → Int64} {M : Mem} {Q : Int → Mem → (Nat → Int64) → Prop} {x1 : Int} {x2 : Int} {x3 : Int} (hl : l.stackTraces = false) (body : ∀ G : GT, gB G = B → gl G = l → T_L_put G Q qo x1 x2 x3 M f) : OkW B l md_L_put hh_L_put [.ref (ad B 0), .int (I x1), .int (I x2), .int (I x3), .ref qo] qo f M Q := by
  refine OkW_of mk_L_put hl (Nat.le_of_ble_eq_true rfl) (fun G hC hR hg => ?_)
  have kk := body G hg.1 hg.2.2
  obtain ⟨rfl, hgr, rfl⟩ := hg
  unfold T_L_put at kk
  refine V_aload hC 4 rfl dL_put_0 ?_
  refine V_iconst hC dL_put_2 ?_
  refine V_aload_n hC 0 rfl dL_put_3 ?_
  refine V_iload_n hC 1 rfl dL_put_4 ?_
  refine V_iload_n hC 2 rfl dL_put_5 ?_
  refine V_iload_n hC 3 rfl dL_put_6 ?_
  rcases kk with kk | kk
  · refine V_cVi hC (As := [_, _, _]) lv_L_97 dL_put_7 (d0 := 4) (Nat.le_of_ble_eq_true rfl) (Rm_of hgr) rv_0 rfl (Nat.le_of_ble_eq_true rfl) zk kk (fun r9 M9 z kk => ?_)
    replace kk := kk z
    obtain ⟨ha, k1, k2⟩ := kk
    refine V_if_eq hC 17 rfl dL_put_10 ⟨ha, fun z => ?_, fun z => ?_⟩
    · replace kk := k1 z; clear k1 k2
      refine V_lconst hC 0 rfl dL_put_17 ?_
      refine V_lastW hC dL_put_18 ?_
      replace kk := kk _ rfl
      refine V_goto hC 30 rfl dL_put_19 ?_
      refine V_iconst hC dL_put_30 ?_
      obtain ⟨hr, kk⟩ := kk
      exact V_retW hC hR rfl zk dL_put_31 hr kk
    · replace kk := k2 z; clear k1 k2
      refine V_lconst hC 1 rfl dL_put_13 ?_
      refine V_goto hC 18 rfl dL_put_14 ?_
      refine V_lastW hC dL_put_18 ?_
      replace kk := kk _ rfl
      refine V_goto hC 30 rfl dL_put_19 ?_
      refine V_iconst hC dL_put_30 ?_
      obtain ⟨hr, kk⟩ := kk
      exact V_retW hC hR rfl zk dL_put_31 hr kk
  · refine V_cH hC hR (As := [_, _, _]) ⟨lv_L_97.1, lm_L_97, lv_L_97.2.2.1, lv_L_97.2.2.2⟩ dL_put_7 (d0 := 4) (Nat.le_of_ble_eq_true rfl) (Rm_of hgr) rv_0 rfl (Nat.le_of_ble_eq_true rfl) (Rk_of hgr ⟨Nat.le_refl _, Nat.le_refl _⟩) kk (noI fun _ _ q => q) (fun E9 M9 kk => ?_)
    have k8 := (show _ ∧ _ ∨ _ ∧ _ from kk)
    clear kk
    rcases k8 with ⟨rfl, kk⟩ | ⟨rfl, kk⟩
    · refine ⟨22, ⟨[], [(0, 19, 26, 15)], (0, 19, 22, 13), rfl, fun z hz => absurd hz List.not_mem_nil, by decide, by decide, (wa_4 162 rfl rfl), wn_4 23 rfl rfl, rfl⟩, fun q9 => ?_⟩
      refine V_astore hC (lv' := [(5, _), (0, _), (1, _), (2, _), (3, _), (4, _)]) (Nat.le_of_ble_eq_true rfl) rfl dL_put_22 ?_
      refine V_iconst hC dL_put_24 ?_
      obtain ⟨hr, kk⟩ := kk
      exact V_retW hC hR rfl (by rw [hgr]; exact ⟨Nat.le_refl _, Nat.le_refl _⟩) dL_put_25 hr kk
    · refine ⟨26, ⟨[(0, 19, 22, 13)], [], (0, 19, 26, 15), rfl, List.forall_mem_cons.mpr ⟨⟨by decide, _, (wa_4 162 rfl rfl), Or.inl ⟨rfl, rfl⟩⟩, fun z hz => absurd hz List.not_mem_nil⟩, by decide, by decide, (wa_4 163 rfl rfl), wn_4 186 rfl rfl, rfl⟩, fun q9 => ?_⟩
      refine V_astore hC (lv' := [(5, _), (0, _), (1, _), (2, _), (3, _), (4, _)]) (Nat.le_of_ble_eq_true rfl) rfl dL_put_26 ?_
      refine V_iconst hC dL_put_28 ?_
      obtain ⟨hr, kk⟩ := kk
      exact V_retW hC hR rfl (by rw [hgr]; exact ⟨Nat.le_refl _, Nat.le_refl _⟩) dL_put_29 hr kk
abbrev md_L_get : Md := (yL_get, cL_get, 6, (some .int), 4)
abbrev hh_L_get : List (Nat × Nat × Nat × Nat) := [(0, 12, 15, 13), (0, 12, 19, 15)]
theorem mk_L_get : MkW md_L_get hh_L_get 5 := ⟨by decide +kernel, (wa_6 99 rfl rfl), (wa_1 0 rfl rfl), by decide +kernel, by decide⟩
def T_L_get (G : GT) (Q : Int → Mem → (Nat → Int64) → Prop) (qo : Nat) (x1 : Int) (x2 : Int) (x3 : Int) (M : Mem) (f : Nat → Int64) : Prop := (OkI (gB G) (gl G) md_X11_get 0 0 [.ref (ad (gB G) 0), .int (I x1), .int (I x2), .int (I x3)] (Xo (gB G) qo f) M (fun r7 M1 => inR r7 → (∀ f1 : Nat → Int64, f1 = vp_updL f 0 ((I r7).toInt64) → (inR (0 : Int) ∧ Q (0 : Int) M1 f1))) NoX ∨ OkI (gB G) (gl G) md_X11_get 1 6 [.ref (ad (gB G) 0), .int (I x1), .int (I x2), .int (I x3)] (Xo (gB G) qo f) M (fun _ _ => False) (fun E9 M1 => (E9 = "java/lang/IndexOutOfBoundsException" ∧ (inR (1 : Int) ∧ Q (1 : Int) M1 f)) ∨ (E9 = "java/lang/IllegalArgumentException" ∧ (inR (2 : Int) ∧ Q (2 : Int) M1 f))))
set_option maxRecDepth 100000 in
set_option maxHeartbeats 4000000 in
theorem ok_L_get {B : WB} {l : Launch} {qo : Nat} {f : Nat → Int64} {M : Mem} {Q : Int → Mem → (Nat → Int64) → Prop} {x1 : Int} {x2 : Int} {x3 : Int} (hl : l.stackTraces = false) (body : ∀ G : GT, gB G = B → gl G = l → T_L_get G Q qo x1 x2 x3 M f) : OkW B l md_L_get hh_L_get [.ref (ad B 0), .int (I x1), .int (I x2), .int (I x3), .ref qo] qo f M Q := by
  refine OkW_of mk_L_get hl (Nat.le_of_ble_eq_true rfl) (fun G hC hR hg => ?_)
  have kk := body G hg.1 hg.2.2
  obtain ⟨rfl, hgr, rfl⟩ := hg
  unfold T_L_get at kk
  refine V_aload hC 4 rfl dL_get_0 ?_
  refine V_iconst hC dL_get_2 ?_
  refine V_aload_n hC 0 rfl dL_get_3 ?_
  refine V_iload_n hC 1 rfl dL_get_4 ?_
  refine V_iload_n hC 2 rfl dL_get_5 ?_
  refine V_iload_n hC 3 rfl dL_get_6 ?_
  rcases kk with kk | kk
  · refine V_cVi hC (As := [_, _, _]) lv_L_101 dL_get_7 (d0 := 4) (Nat.le_of_ble_eq_true rfl) (Rm_of hgr) rv_0 rfl (Nat.le_of_ble_eq_true rfl) zk kk (fun r9 M9 z kk => ?_)
    replace kk := kk z
    refine V_i2l hC dL_get_10 ?_
    refine V_lastW hC dL_get_11 ?_
    replace kk := kk _ rfl
    refine V_goto hC 23 rfl dL_get_12 ?_
    refine V_iconst hC dL_get_23 ?_
    obtain ⟨hr, kk⟩ := kk
    exact V_retW hC hR rfl zk dL_get_24 hr kk
  · refine V_cH hC hR (As := [_, _, _]) ⟨lv_L_101.1, lm_L_101, lv_L_101.2.2.1, lv_L_101.2.2.2⟩ dL_get_7 (d0 := 4) (Nat.le_of_ble_eq_true rfl) (Rm_of hgr) rv_0 rfl (Nat.le_of_ble_eq_true rfl) (Rk_of hgr ⟨Nat.le_refl _, Nat.le_refl _⟩) kk (noI fun _ _ q => q) (fun E9 M9 kk => ?_)
    have k8 := (show _ ∧ _ ∨ _ ∧ _ from kk)
    clear kk
    rcases k8 with ⟨rfl, kk⟩ | ⟨rfl, kk⟩
    · refine ⟨15, ⟨[], [(0, 12, 19, 15)], (0, 12, 15, 13), rfl, fun z hz => absurd hz List.not_mem_nil, by decide, by decide, (wa_4 162 rfl rfl), wn_4 23 rfl rfl, rfl⟩, fun q9 => ?_⟩
      refine V_astore hC (lv' := [(5, _), (0, _), (1, _), (2, _), (3, _), (4, _)]) (Nat.le_of_ble_eq_true rfl) rfl dL_get_15 ?_
      refine V_iconst hC dL_get_17 ?_
      obtain ⟨hr, kk⟩ := kk
      exact V_retW hC hR rfl (by rw [hgr]; exact ⟨Nat.le_refl _, Nat.le_refl _⟩) dL_get_18 hr kk
    · refine ⟨19, ⟨[(0, 12, 15, 13)], [], (0, 12, 19, 15), rfl, List.forall_mem_cons.mpr ⟨⟨by decide, _, (wa_4 162 rfl rfl), Or.inl ⟨rfl, rfl⟩⟩, fun z hz => absurd hz List.not_mem_nil⟩, by decide, by decide, (wa_4 163 rfl rfl), wn_4 186 rfl rfl, rfl⟩, fun q9 => ?_⟩
      refine V_astore hC (lv' := [(5, _), (0, _), (1, _), (2, _), (3, _), (4, _)]) (Nat.le_of_ble_eq_true rfl) rfl dL_get_19 ?_
      refine V_iconst hC dL_get_21 ?_
      obtain ⟨hr, kk⟩ := kk
      exact V_retW hC hR rfl (by rw [hgr]; exact ⟨Nat.le_refl _, Nat.le_refl _⟩) dL_get_22 hr kk
abbrev md_L_remove : Md := (yL_remove, cL_remove, 5, (some .int), 4)
abbrev hh_L_remove : List (Nat × Nat × Nat × Nat) := [(0, 17, 20, 13), (0, 17, 24, 15)]
theorem mk_L_remove : MkW md_L_remove hh_L_remove 4 := ⟨by decide +kernel, (wa_6 106 rfl rfl), (wa_1 0 rfl rfl), by decide +kernel, by decide⟩
def T_L_remove (G : GT) (Q : Int → Mem → (Nat → Int64) → Prop) (qo : Nat) (x1 : Int) (x2 : Int) (M : Mem) (f : Nat → Int64) : Prop := (OkI (gB G) (gl G) md_X11_remove 0 0 [.ref (ad (gB G) 0), .int (I x1), .int (I x2)] (Xo (gB G) qo f) M (fun r5 M1 => inR r5 → (inR r5 ∧ (r5 = 0 → (∀ f1 : Nat → Int64, f1 = vp_updL f 0 (0 : Int64) → (inR (0 : Int) ∧ Q (0 : Int) M1 f1))) ∧ (r5 ≠ 0 → (∀ f1 : Nat → Int64, f1 = vp_updL f 0 (1 : Int64) → (inR (0 : Int) ∧ Q (0 : Int) M1 f1))))) NoX ∨ OkI (gB G) (gl G) md_X11_remove 1 6 [.ref (ad (gB G) 0), .int (I x1), .int (I x2)] (Xo (gB G) qo f) M (fun _ _ => False) (fun E9 M1 => (E9 = "java/lang/IndexOutOfBoundsException" ∧ (inR (1 : Int) ∧ Q (1 : Int) M1 f)) ∨ (E9 = "java/lang/IllegalArgumentException" ∧ (inR (2 : Int) ∧ Q (2 : Int) M1 f))))
set_option maxRecDepth 100000 in
set_option maxHeartbeats 4000000 in
theorem ok_L_remove {B : WB} {l : Launch} {qo : Nat} {f : Nat → Int64} {M : Mem} {Q : Int → Mem → (Nat → Int64) → Prop} {x1 : Int} {x2 : Int} (hl : l.stackTraces = false) (body : ∀ G : GT, gB G = B → gl G = l → T_L_remove G Q qo x1 x2 M f) : OkW B l md_L_remove hh_L_remove [.ref (ad B 0), .int (I x1), .int (I x2), .ref qo] qo f M Q := by
  refine OkW_of mk_L_remove hl (Nat.le_of_ble_eq_true rfl) (fun G hC hR hg => ?_)
  have kk := body G hg.1 hg.2.2
  obtain ⟨rfl, hgr, rfl⟩ := hg
  unfold T_L_remove at kk
  refine V_aload_n hC 3 rfl dL_remove_0 ?_
  refine V_iconst hC dL_remove_1 ?_
  refine V_aload_n hC 0 rfl dL_remove_2 ?_
  refine V_iload_n hC 1 rfl dL_remove_3 ?_
  refine V_iload_n hC 2 rfl dL_remove_4 ?_
  rcases kk with kk | kk
  · refine V_cVi hC (As := [_, _]) lv_L_104 dL_remove_5 (d0 := 4) (Nat.le_of_ble_eq_true rfl) (Rm_of hgr) rv_0 rfl (Nat.le_of_ble_eq_true rfl) zk kk (fun r9 M9 z kk => ?_)
    replace kk := kk z
    obtain ⟨ha, k1, k2⟩ := kk
    refine V_if_eq hC 15 rfl dL_remove_8 ⟨ha, fun z => ?_, fun z => ?_⟩
    · replace kk := k1 z; clear k1 k2
      refine V_lconst hC 0 rfl dL_remove_15 ?_
      refine V_lastW hC dL_remove_16 ?_
      replace kk := kk _ rfl
      refine V_goto hC 28 rfl dL_remove_17 ?_
      refine V_iconst hC dL_remove_28 ?_
      obtain ⟨hr, kk⟩ := kk
      exact V_retW hC hR rfl zk dL_remove_29 hr kk
    · replace kk := k2 z; clear k1 k2
      refine V_lconst hC 1 rfl dL_remove_11 ?_
      refine V_goto hC 16 rfl dL_remove_12 ?_
      refine V_lastW hC dL_remove_16 ?_
      replace kk := kk _ rfl
      refine V_goto hC 28 rfl dL_remove_17 ?_
      refine V_iconst hC dL_remove_28 ?_
      obtain ⟨hr, kk⟩ := kk
      exact V_retW hC hR rfl zk dL_remove_29 hr kk
  · refine V_cH hC hR (As := [_, _]) ⟨lv_L_104.1, lm_L_104, lv_L_104.2.2.1, lv_L_104.2.2.2⟩ dL_remove_5 (d0 := 4) (Nat.le_of_ble_eq_true rfl) (Rm_of hgr) rv_0 rfl (Nat.le_of_ble_eq_true rfl) (Rk_of hgr ⟨Nat.le_refl _, Nat.le_refl _⟩) kk (noI fun _ _ q => q) (fun E9 M9 kk => ?_)
    have k8 := (show _ ∧ _ ∨ _ ∧ _ from kk)
    clear kk
    rcases k8 with ⟨rfl, kk⟩ | ⟨rfl, kk⟩
    · refine ⟨20, ⟨[], [(0, 17, 24, 15)], (0, 17, 20, 13), rfl, fun z hz => absurd hz List.not_mem_nil, by decide, by decide, (wa_4 162 rfl rfl), wn_4 23 rfl rfl, rfl⟩, fun q9 => ?_⟩
      refine V_astore hC (lv' := [(4, _), (0, _), (1, _), (2, _), (3, _)]) (Nat.le_of_ble_eq_true rfl) rfl dL_remove_20 ?_
      refine V_iconst hC dL_remove_22 ?_
      obtain ⟨hr, kk⟩ := kk
      exact V_retW hC hR rfl (by rw [hgr]; exact ⟨Nat.le_refl _, Nat.le_refl _⟩) dL_remove_23 hr kk
    · refine ⟨24, ⟨[(0, 17, 20, 13)], [], (0, 17, 24, 15), rfl, List.forall_mem_cons.mpr ⟨⟨by decide, _, (wa_4 162 rfl rfl), Or.inl ⟨rfl, rfl⟩⟩, fun z hz => absurd hz List.not_mem_nil⟩, by decide, by decide, (wa_4 163 rfl rfl), wn_4 186 rfl rfl, rfl⟩, fun q9 => ?_⟩
      refine V_astore hC (lv' := [(4, _), (0, _), (1, _), (2, _), (3, _)]) (Nat.le_of_ble_eq_true rfl) rfl dL_remove_24 ?_
      refine V_iconst hC dL_remove_26 ?_
      obtain ⟨hr, kk⟩ := kk
      exact V_retW hC hR rfl (by rw [hgr]; exact ⟨Nat.le_refl _, Nat.le_refl _⟩) dL_remove_27 hr kk
abbrev md_L_intern : Md := (yL_intern, cL_intern, 5, (some .int), 4)
abbrev hh_L_intern : List (Nat × Nat × Nat × Nat) := [(0, 10, 13, 13), (0, 10, 17, 15)]
theorem mk_L_intern : MkW md_L_intern hh_L_intern 4 := ⟨by decide +kernel, (wa_6 113 rfl rfl), (wa_1 0 rfl rfl), by decide +kernel, by decide⟩
def T_L_intern (G : GT) (Q : Int → Mem → (Nat → Int64) → Prop) (qo : Nat) (x1 : Int) (x2 : Int) (M : Mem) (f : Nat → Int64) : Prop := (OkI (gB G) (gl G) md_X11_intern 0 0 [.ref (ad (gB G) 0), .int (I x1), .int (I x2)] (Xo (gB G) qo f) M (fun r5 M1 => inR r5 → (∀ f1 : Nat → Int64, f1 = vp_updL f 0 ((I r5).toInt64) → (inR (0 : Int) ∧ Q (0 : Int) M1 f1))) NoX ∨ OkI (gB G) (gl G) md_X11_intern 1 6 [.ref (ad (gB G) 0), .int (I x1), .int (I x2)] (Xo (gB G) qo f) M (fun _ _ => False) (fun E9 M1 => (E9 = "java/lang/IndexOutOfBoundsException" ∧ (inR (1 : Int) ∧ Q (1 : Int) M1 f)) ∨ (E9 = "java/lang/IllegalArgumentException" ∧ (inR (2 : Int) ∧ Q (2 : Int) M1 f))))
set_option maxRecDepth 100000 in
set_option maxHeartbeats 4000000 in
theorem ok_L_intern {B : WB} {l : Launch} {qo : Nat} {f : Nat → Int64} {M : Mem} {Q : Int → Mem → (Nat → Int64) → Prop} {x1 : Int} {x2 : Int} (hl : l.stackTraces = false) (body : ∀ G : GT, gB G = B → gl G = l → T_L_intern G Q qo x1 x2 M f) : OkW B l md_L_intern hh_L_intern [.ref (ad B 0), .int (I x1), .int (I x2), .ref qo] qo f M Q := by
  refine OkW_of mk_L_intern hl (Nat.le_of_ble_eq_true rfl) (fun G hC hR hg => ?_)
  have kk := body G hg.1 hg.2.2
  obtain ⟨rfl, hgr, rfl⟩ := hg
  unfold T_L_intern at kk
  refine V_aload_n hC 3 rfl dL_intern_0 ?_
  refine V_iconst hC dL_intern_1 ?_
  refine V_aload_n hC 0 rfl dL_intern_2 ?_
  refine V_iload_n hC 1 rfl dL_intern_3 ?_
  refine V_iload_n hC 2 rfl dL_intern_4 ?_
  rcases kk with kk | kk
  · refine V_cVi hC (As := [_, _]) lv_L_107 dL_intern_5 (d0 := 4) (Nat.le_of_ble_eq_true rfl) (Rm_of hgr) rv_0 rfl (Nat.le_of_ble_eq_true rfl) zk kk (fun r9 M9 z kk => ?_)
    replace kk := kk z
    refine V_i2l hC dL_intern_8 ?_
    refine V_lastW hC dL_intern_9 ?_
    replace kk := kk _ rfl
    refine V_goto hC 21 rfl dL_intern_10 ?_
    refine V_iconst hC dL_intern_21 ?_
    obtain ⟨hr, kk⟩ := kk
    exact V_retW hC hR rfl zk dL_intern_22 hr kk
  · refine V_cH hC hR (As := [_, _]) ⟨lv_L_107.1, lm_L_107, lv_L_107.2.2.1, lv_L_107.2.2.2⟩ dL_intern_5 (d0 := 4) (Nat.le_of_ble_eq_true rfl) (Rm_of hgr) rv_0 rfl (Nat.le_of_ble_eq_true rfl) (Rk_of hgr ⟨Nat.le_refl _, Nat.le_refl _⟩) kk (noI fun _ _ q => q) (fun E9 M9 kk => ?_)
    have k8 := (show _ ∧ _ ∨ _ ∧ _ from kk)
    clear kk
    rcases k8 with ⟨rfl, kk⟩ | ⟨rfl, kk⟩
    · refine ⟨13, ⟨[], [(0, 10, 17, 15)], (0, 10, 13, 13), rfl, fun z hz => absurd hz List.not_mem_nil, by decide, by decide, (wa_4 162 rfl rfl), wn_4 23 rfl rfl, rfl⟩, fun q9 => ?_⟩
      refine V_astore hC (lv' := [(4, _), (0, _), (1, _), (2, _), (3, _)]) (Nat.le_of_ble_eq_true rfl) rfl dL_intern_13 ?_
      refine V_iconst hC dL_intern_15 ?_
      obtain ⟨hr, kk⟩ := kk
      exact V_retW hC hR rfl (by rw [hgr]; exact ⟨Nat.le_refl _, Nat.le_refl _⟩) dL_intern_16 hr kk
    · refine ⟨17, ⟨[(0, 10, 13, 13)], [], (0, 10, 17, 15), rfl, List.forall_mem_cons.mpr ⟨⟨by decide, _, (wa_4 162 rfl rfl), Or.inl ⟨rfl, rfl⟩⟩, fun z hz => absurd hz List.not_mem_nil⟩, by decide, by decide, (wa_4 163 rfl rfl), wn_4 186 rfl rfl, rfl⟩, fun q9 => ?_⟩
      refine V_astore hC (lv' := [(4, _), (0, _), (1, _), (2, _), (3, _)]) (Nat.le_of_ble_eq_true rfl) rfl dL_intern_17 ?_
      refine V_iconst hC dL_intern_19 ?_
      obtain ⟨hr, kk⟩ := kk
      exact V_retW hC hR rfl (by rw [hgr]; exact ⟨Nat.le_refl _, Nat.le_refl _⟩) dL_intern_20 hr kk
abbrev md_L_deepCopy : Md := (yL_deepCopy, cL_deepCopy, 5, (some .int), 7)
abbrev hh_L_deepCopy : List (Nat × Nat × Nat × Nat) := [(0, 10, 13, 13), (0, 10, 17, 15)]
theorem mk_L_deepCopy : MkW md_L_deepCopy hh_L_deepCopy 4 := ⟨by decide +kernel, (wa_6 129 rfl rfl), (wa_1 0 rfl rfl), by decide +kernel, by decide⟩
def T_L_deepCopy (G : GT) (Q : Int → Mem → (Nat → Int64) → Prop) (qo : Nat) (x1 : Int) (x2 : Int) (M : Mem) (f : Nat → Int64) : Prop := (OkI (gB G) (gl G) md_X11_deepCopy 0 0 [.ref (ad (gB G) 0), .int (I x1), .int (I x2)] (Xo (gB G) qo f) M (fun r5 M1 => inR r5 → (∀ f1 : Nat → Int64, f1 = vp_updL f 0 ((I r5).toInt64) → (inR (0 : Int) ∧ Q (0 : Int) M1 f1))) NoX ∨ OkI (gB G) (gl G) md_X11_deepCopy 1 6 [.ref (ad (gB G) 0), .int (I x1), .int (I x2)] (Xo (gB G) qo f) M (fun _ _ => False) (fun E9 M1 => (E9 = "java/lang/IndexOutOfBoundsException" ∧ (inR (1 : Int) ∧ Q (1 : Int) M1 f)) ∨ (E9 = "java/lang/IllegalArgumentException" ∧ (inR (2 : Int) ∧ Q (2 : Int) M1 f))))
set_option maxRecDepth 100000 in
set_option maxHeartbeats 4000000 in
theorem ok_L_deepCopy {B : WB} {l : Launch} {qo : Nat} {f : Nat → Int64} {M : Mem} {Q : Int → Mem → (Nat → Int64) → Prop} {x1 : Int} {x2 : Int} (hl : l.stackTraces = false) (body : ∀ G : GT, gB G = B → gl G = l → T_L_deepCopy G Q qo x1 x2 M f) : OkW B l md_L_deepCopy hh_L_deepCopy [.ref (ad B 0), .int (I x1), .int (I x2), .ref qo] qo f M Q := by
  refine OkW_of mk_L_deepCopy hl (Nat.le_of_ble_eq_true rfl) (fun G hC hR hg => ?_)
  have kk := body G hg.1 hg.2.2
  obtain ⟨rfl, hgr, rfl⟩ := hg
  unfold T_L_deepCopy at kk
  refine V_aload_n hC 3 rfl dL_deepCopy_0 ?_
  refine V_iconst hC dL_deepCopy_1 ?_
  refine V_aload_n hC 0 rfl dL_deepCopy_2 ?_
  refine V_iload_n hC 1 rfl dL_deepCopy_3 ?_
  refine V_iload_n hC 2 rfl dL_deepCopy_4 ?_
  rcases kk with kk | kk
  · refine V_cVi hC (As := [_, _]) lv_L_110 dL_deepCopy_5 (d0 := 7) (Nat.le_of_ble_eq_true rfl) (Rm_of hgr) rv_0 rfl (Nat.le_of_ble_eq_true rfl) zk kk (fun r9 M9 z kk => ?_)
    replace kk := kk z
    refine V_i2l hC dL_deepCopy_8 ?_
    refine V_lastW hC dL_deepCopy_9 ?_
    replace kk := kk _ rfl
    refine V_goto hC 21 rfl dL_deepCopy_10 ?_
    refine V_iconst hC dL_deepCopy_21 ?_
    obtain ⟨hr, kk⟩ := kk
    exact V_retW hC hR rfl zk dL_deepCopy_22 hr kk
  · refine V_cH hC hR (As := [_, _]) ⟨lv_L_110.1, lm_L_110, lv_L_110.2.2.1, lv_L_110.2.2.2⟩ dL_deepCopy_5 (d0 := 7) (Nat.le_of_ble_eq_true rfl) (Rm_of hgr) rv_0 rfl (Nat.le_of_ble_eq_true rfl) (Rk_of hgr ⟨Nat.le_refl _, Nat.le_refl _⟩) kk (noI fun _ _ q => q) (fun E9 M9 kk => ?_)
    have k8 := (show _ ∧ _ ∨ _ ∧ _ from kk)
    clear kk
    rcases k8 with ⟨rfl, kk⟩ | ⟨rfl, kk⟩
    · refine ⟨13, ⟨[], [(0, 10, 17, 15)], (0, 10, 13, 13), rfl, fun z hz => absurd hz List.not_mem_nil, by decide, by decide, (wa_4 162 rfl rfl), wn_4 23 rfl rfl, rfl⟩, fun q9 => ?_⟩
      refine V_astore hC (lv' := [(4, _), (0, _), (1, _), (2, _), (3, _)]) (Nat.le_of_ble_eq_true rfl) rfl dL_deepCopy_13 ?_
      refine V_iconst hC dL_deepCopy_15 ?_
      obtain ⟨hr, kk⟩ := kk
      exact V_retW hC hR rfl (by rw [hgr]; exact ⟨Nat.le_refl _, Nat.le_refl _⟩) dL_deepCopy_16 hr kk
    · refine ⟨17, ⟨[(0, 10, 13, 13)], [], (0, 10, 17, 15), rfl, List.forall_mem_cons.mpr ⟨⟨by decide, _, (wa_4 162 rfl rfl), Or.inl ⟨rfl, rfl⟩⟩, fun z hz => absurd hz List.not_mem_nil⟩, by decide, by decide, (wa_4 163 rfl rfl), wn_4 186 rfl rfl, rfl⟩, fun q9 => ?_⟩
      refine V_astore hC (lv' := [(4, _), (0, _), (1, _), (2, _), (3, _)]) (Nat.le_of_ble_eq_true rfl) rfl dL_deepCopy_17 ?_
      refine V_iconst hC dL_deepCopy_19 ?_
      obtain ⟨hr, kk⟩ := kk
      exact V_retW hC hR rfl (by rw [hgr]; exact ⟨Nat.le_refl _, Nat.le_refl _⟩) dL_deepCopy_20 hr kk
abbrev md_L_writeImage : Md := (yL_writeImage, cL_writeImage, 4, (some .int), 5)
abbrev hh_L_writeImage : List (Nat × Nat × Nat × Nat) := [(0, 9, 12, 13), (0, 9, 15, 15)]
theorem mk_L_writeImage : MkW md_L_writeImage hh_L_writeImage 3 := ⟨by decide +kernel, (wa_6 168 rfl rfl), (wa_1 0 rfl rfl), by decide +kernel, by decide⟩
def T_L_writeImage (G : GT) (Q : Int → Mem → (Nat → Int64) → Prop) (qo : Nat) (x1 : Int) (M : Mem) (f : Nat → Int64) : Prop := (OkI (gB G) (gl G) md_X11_writeImage 0 0 [.ref (ad (gB G) 0), .int (I x1)] (Xo (gB G) qo f) M (fun r4 M1 => inR r4 → (∀ f1 : Nat → Int64, f1 = vp_updL f 0 ((I r4).toInt64) → (inR (0 : Int) ∧ Q (0 : Int) M1 f1))) NoX ∨ OkI (gB G) (gl G) md_X11_writeImage 1 6 [.ref (ad (gB G) 0), .int (I x1)] (Xo (gB G) qo f) M (fun _ _ => False) (fun E9 M1 => (E9 = "java/lang/IndexOutOfBoundsException" ∧ (inR (1 : Int) ∧ Q (1 : Int) M1 f)) ∨ (E9 = "java/lang/IllegalArgumentException" ∧ (inR (2 : Int) ∧ Q (2 : Int) M1 f))))
set_option maxRecDepth 100000 in
set_option maxHeartbeats 4000000 in
theorem ok_L_writeImage {B : WB} {l : Launch} {qo : Nat} {f : Nat → Int64} {M : Mem} {Q : Int → Mem → (Nat → Int64) → Prop} {x1 : Int} (hl : l.stackTraces = false) (body : ∀ G : GT, gB G = B → gl G = l → T_L_writeImage G Q qo x1 M f) : OkW B l md_L_writeImage hh_L_writeImage [.ref (ad B 0), .int (I x1), .ref qo] qo f M Q := by
  refine OkW_of mk_L_writeImage hl (Nat.le_of_ble_eq_true rfl) (fun G hC hR hg => ?_)
  have kk := body G hg.1 hg.2.2
  obtain ⟨rfl, hgr, rfl⟩ := hg
  unfold T_L_writeImage at kk
  refine V_aload_n hC 2 rfl dL_writeImage_0 ?_
  refine V_iconst hC dL_writeImage_1 ?_
  refine V_aload_n hC 0 rfl dL_writeImage_2 ?_
  refine V_iload_n hC 1 rfl dL_writeImage_3 ?_
  rcases kk with kk | kk
  · refine V_cVi hC (As := [_]) lv_L_113 dL_writeImage_4 (d0 := 5) (Nat.le_of_ble_eq_true rfl) (Rm_of hgr) rv_0 rfl (Nat.le_of_ble_eq_true rfl) zk kk (fun r9 M9 z kk => ?_)
    replace kk := kk z
    refine V_i2l hC dL_writeImage_7 ?_
    refine V_lastW hC dL_writeImage_8 ?_
    replace kk := kk _ rfl
    refine V_goto hC 18 rfl dL_writeImage_9 ?_
    refine V_iconst hC dL_writeImage_18 ?_
    obtain ⟨hr, kk⟩ := kk
    exact V_retW hC hR rfl zk dL_writeImage_19 hr kk
  · refine V_cH hC hR (As := [_]) ⟨lv_L_113.1, lm_L_113, lv_L_113.2.2.1, lv_L_113.2.2.2⟩ dL_writeImage_4 (d0 := 5) (Nat.le_of_ble_eq_true rfl) (Rm_of hgr) rv_0 rfl (Nat.le_of_ble_eq_true rfl) (Rk_of hgr ⟨Nat.le_refl _, Nat.le_refl _⟩) kk (noI fun _ _ q => q) (fun E9 M9 kk => ?_)
    have k8 := (show _ ∧ _ ∨ _ ∧ _ from kk)
    clear kk
    rcases k8 with ⟨rfl, kk⟩ | ⟨rfl, kk⟩
    · refine ⟨12, ⟨[], [(0, 9, 15, 15)], (0, 9, 12, 13), rfl, fun z hz => absurd hz List.not_mem_nil, by decide, by decide, (wa_4 162 rfl rfl), wn_4 23 rfl rfl, rfl⟩, fun q9 => ?_⟩
      refine V_astore_n hC (lv' := [(3, _), (0, _), (1, _), (2, _)]) (Nat.le_of_ble_eq_true rfl) rfl dL_writeImage_12 ?_
      refine V_iconst hC dL_writeImage_13 ?_
      obtain ⟨hr, kk⟩ := kk
      exact V_retW hC hR rfl (by rw [hgr]; exact ⟨Nat.le_refl _, Nat.le_refl _⟩) dL_writeImage_14 hr kk
    · refine ⟨15, ⟨[(0, 9, 12, 13)], [], (0, 9, 15, 15), rfl, List.forall_mem_cons.mpr ⟨⟨by decide, _, (wa_4 162 rfl rfl), Or.inl ⟨rfl, rfl⟩⟩, fun z hz => absurd hz List.not_mem_nil⟩, by decide, by decide, (wa_4 163 rfl rfl), wn_4 186 rfl rfl, rfl⟩, fun q9 => ?_⟩
      refine V_astore_n hC (lv' := [(3, _), (0, _), (1, _), (2, _)]) (Nat.le_of_ble_eq_true rfl) rfl dL_writeImage_15 ?_
      refine V_iconst hC dL_writeImage_16 ?_
      obtain ⟨hr, kk⟩ := kk
      exact V_retW hC hR rfl (by rw [hgr]; exact ⟨Nat.le_refl _, Nat.le_refl _⟩) dL_writeImage_17 hr kk
abbrev md_L_setImage : Md := (yL_setImage, cL_setImage, 5, (some .int), 2)
abbrev hh_L_setImage : List (Nat × Nat × Nat × Nat) := [(0, 10, 13, 13)]
theorem mk_L_setImage : MkW md_L_setImage hh_L_setImage 4 := ⟨by decide +kernel, (wa_6 191 rfl rfl), (wa_1 0 rfl rfl), by decide +kernel, by decide⟩
def T_L_setImage (G : GT) (Q : Int → Mem → (Nat → Int64) → Prop) (qo : Nat) (x1 : Int) (x2 : Int) (M : Mem) (f : Nat → Int64) : Prop := (OkI (gB G) (gl G) md_X11_setImage 0 0 [.ref (ad (gB G) 0), .int (I x1), .int (I x2)] (Xo (gB G) qo f) M (fun r5 M1 => inR r5 → (∀ f1 : Nat → Int64, f1 = vp_updL f 0 ((I r5).toInt64) → (inR (0 : Int) ∧ Q (0 : Int) M1 f1))) NoX ∨ OkI (gB G) (gl G) md_X11_setImage 1 6 [.ref (ad (gB G) 0), .int (I x1), .int (I x2)] (Xo (gB G) qo f) M (fun _ _ => False) (fun E9 M1 => (E9 = "java/lang/IndexOutOfBoundsException" ∧ (inR (1 : Int) ∧ Q (1 : Int) M1 f))))
set_option maxRecDepth 100000 in
set_option maxHeartbeats 4000000 in
theorem ok_L_setImage {B : WB} {l : Launch} {qo : Nat} {f : Nat → Int64} {M : Mem} {Q : Int → Mem → (Nat → Int64) → Prop} {x1 : Int} {x2 : Int} (hl : l.stackTraces = false) (body : ∀ G : GT, gB G = B → gl G = l → T_L_setImage G Q qo x1 x2 M f) : OkW B l md_L_setImage hh_L_setImage [.ref (ad B 0), .int (I x1), .int (I x2), .ref qo] qo f M Q := by
  refine OkW_of mk_L_setImage hl (Nat.le_of_ble_eq_true rfl) (fun G hC hR hg => ?_)
  have kk := body G hg.1 hg.2.2
  obtain ⟨rfl, hgr, rfl⟩ := hg
  unfold T_L_setImage at kk
  refine V_aload_n hC 3 rfl dL_setImage_0 ?_
  refine V_iconst hC dL_setImage_1 ?_
  refine V_aload_n hC 0 rfl dL_setImage_2 ?_
  refine V_iload_n hC 1 rfl dL_setImage_3 ?_
  refine V_iload_n hC 2 rfl dL_setImage_4 ?_
  rcases kk with kk | kk
  · refine V_cVi hC (As := [_, _]) lv_L_116 dL_setImage_5 (d0 := 2) (Nat.le_of_ble_eq_true rfl) (Rm_of hgr) rv_0 rfl (Nat.le_of_ble_eq_true rfl) zk kk (fun r9 M9 z kk => ?_)
    replace kk := kk z
    refine V_i2l hC dL_setImage_8 ?_
    refine V_lastW hC dL_setImage_9 ?_
    replace kk := kk _ rfl
    refine V_goto hC 17 rfl dL_setImage_10 ?_
    refine V_iconst hC dL_setImage_17 ?_
    obtain ⟨hr, kk⟩ := kk
    exact V_retW hC hR rfl zk dL_setImage_18 hr kk
  · refine V_cH hC hR (As := [_, _]) ⟨lv_L_116.1, lm_L_116, lv_L_116.2.2.1, lv_L_116.2.2.2⟩ dL_setImage_5 (d0 := 2) (Nat.le_of_ble_eq_true rfl) (Rm_of hgr) rv_0 rfl (Nat.le_of_ble_eq_true rfl) (Rk_of hgr ⟨Nat.le_refl _, Nat.le_refl _⟩) kk (noI fun _ _ q => q) (fun E9 M9 kk => ?_)
    have k8 := (show _ ∧ _ from kk)
    clear kk
    obtain ⟨rfl, kk⟩ := k8
    refine ⟨13, ⟨[], [], (0, 10, 13, 13), rfl, fun z hz => absurd hz List.not_mem_nil, by decide, by decide, (wa_4 162 rfl rfl), wn_4 23 rfl rfl, rfl⟩, fun q9 => ?_⟩
    refine V_astore hC (lv' := [(4, _), (0, _), (1, _), (2, _), (3, _)]) (Nat.le_of_ble_eq_true rfl) rfl dL_setImage_13 ?_
    refine V_iconst hC dL_setImage_15 ?_
    obtain ⟨hr, kk⟩ := kk
    exact V_retW hC hR rfl (by rw [hgr]; exact ⟨Nat.le_refl _, Nat.le_refl _⟩) dL_setImage_16 hr kk
abbrev md_L_readImage : Md := (yL_readImage, cL_readImage, 4, (some .int), 7)
abbrev hh_L_readImage : List (Nat × Nat × Nat × Nat) := [(0, 9, 12, 13)]
theorem mk_L_readImage : MkW md_L_readImage hh_L_readImage 3 := ⟨by decide +kernel, (wa_6 203 rfl rfl), (wa_1 0 rfl rfl), by decide +kernel, by decide⟩
def T_L_readImage (G : GT) (Q : Int → Mem → (Nat → Int64) → Prop) (qo : Nat) (x1 : Int) (M : Mem) (f : Nat → Int64) : Prop := (OkI (gB G) (gl G) md_X11_readImage 0 0 [.ref (ad (gB G) 0), .int (I x1)] (Xo (gB G) qo f) M (fun r4 M1 => inR r4 → (∀ f1 : Nat → Int64, f1 = vp_updL f 0 ((I r4).toInt64) → (inR (0 : Int) ∧ Q (0 : Int) M1 f1))) NoX ∨ OkI (gB G) (gl G) md_X11_readImage 1 6 [.ref (ad (gB G) 0), .int (I x1)] (Xo (gB G) qo f) M (fun _ _ => False) (fun E9 M1 => (E9 = "java/lang/IndexOutOfBoundsException" ∧ (inR (1 : Int) ∧ Q (1 : Int) M1 f))))
set_option maxRecDepth 100000 in
set_option maxHeartbeats 4000000 in
theorem ok_L_readImage {B : WB} {l : Launch} {qo : Nat} {f : Nat → Int64} {M : Mem} {Q : Int → Mem → (Nat → Int64) → Prop} {x1 : Int} (hl : l.stackTraces = false) (body : ∀ G : GT, gB G = B → gl G = l → T_L_readImage G Q qo x1 M f) : OkW B l md_L_readImage hh_L_readImage [.ref (ad B 0), .int (I x1), .ref qo] qo f M Q := by
  refine OkW_of mk_L_readImage hl (Nat.le_of_ble_eq_true rfl) (fun G hC hR hg => ?_)
  have kk := body G hg.1 hg.2.2
  obtain ⟨rfl, hgr, rfl⟩ := hg
  unfold T_L_readImage at kk
  refine V_aload_n hC 2 rfl dL_readImage_0 ?_
  refine V_iconst hC dL_readImage_1 ?_
  refine V_aload_n hC 0 rfl dL_readImage_2 ?_
  refine V_iload_n hC 1 rfl dL_readImage_3 ?_
  rcases kk with kk | kk
  · refine V_cVi hC (As := [_]) lv_L_119 dL_readImage_4 (d0 := 7) (Nat.le_of_ble_eq_true rfl) (Rm_of hgr) rv_0 rfl (Nat.le_of_ble_eq_true rfl) zk kk (fun r9 M9 z kk => ?_)
    replace kk := kk z
    refine V_i2l hC dL_readImage_7 ?_
    refine V_lastW hC dL_readImage_8 ?_
    replace kk := kk _ rfl
    refine V_goto hC 15 rfl dL_readImage_9 ?_
    refine V_iconst hC dL_readImage_15 ?_
    obtain ⟨hr, kk⟩ := kk
    exact V_retW hC hR rfl zk dL_readImage_16 hr kk
  · refine V_cH hC hR (As := [_]) ⟨lv_L_119.1, lm_L_119, lv_L_119.2.2.1, lv_L_119.2.2.2⟩ dL_readImage_4 (d0 := 7) (Nat.le_of_ble_eq_true rfl) (Rm_of hgr) rv_0 rfl (Nat.le_of_ble_eq_true rfl) (Rk_of hgr ⟨Nat.le_refl _, Nat.le_refl _⟩) kk (noI fun _ _ q => q) (fun E9 M9 kk => ?_)
    have k8 := (show _ ∧ _ from kk)
    clear kk
    obtain ⟨rfl, kk⟩ := k8
    refine ⟨12, ⟨[], [], (0, 9, 12, 13), rfl, fun z hz => absurd hz List.not_mem_nil, by decide, by decide, (wa_4 162 rfl rfl), wn_4 23 rfl rfl, rfl⟩, fun q9 => ?_⟩
    refine V_astore_n hC (lv' := [(3, _), (0, _), (1, _), (2, _)]) (Nat.le_of_ble_eq_true rfl) rfl dL_readImage_12 ?_
    refine V_iconst hC dL_readImage_13 ?_
    obtain ⟨hr, kk⟩ := kk
    exact V_retW hC hR rfl (by rw [hgr]; exact ⟨Nat.le_refl _, Nat.le_refl _⟩) dL_readImage_14 hr kk
abbrev md_L_setTenure : Md := (yL_setTenure, cL_setTenure, 4, (some .int), 2)
abbrev hh_L_setTenure : List (Nat × Nat × Nat × Nat) := [(0, 9, 12, 15)]
theorem mk_L_setTenure : MkW md_L_setTenure hh_L_setTenure 3 := ⟨by decide +kernel, (wa_7 18 rfl rfl), (wa_1 0 rfl rfl), by decide +kernel, by decide⟩
def T_L_setTenure (G : GT) (Q : Int → Mem → (Nat → Int64) → Prop) (qo : Nat) (x1 : Int) (M : Mem) (f : Nat → Int64) : Prop := (OkI (gB G) (gl G) md_X11_setTenure 0 0 [.ref (ad (gB G) 0), .int (I x1)] (Xo (gB G) qo f) M (fun r4 M1 => inR r4 → (∀ f1 : Nat → Int64, f1 = vp_updL f 0 ((I r4).toInt64) → (inR (0 : Int) ∧ Q (0 : Int) M1 f1))) NoX ∨ OkI (gB G) (gl G) md_X11_setTenure 1 6 [.ref (ad (gB G) 0), .int (I x1)] (Xo (gB G) qo f) M (fun _ _ => False) (fun E9 M1 => (E9 = "java/lang/IllegalArgumentException" ∧ (inR (1 : Int) ∧ Q (1 : Int) M1 f))))
set_option maxRecDepth 100000 in
set_option maxHeartbeats 4000000 in
theorem ok_L_setTenure {B : WB} {l : Launch} {qo : Nat} {f : Nat → Int64} {M : Mem} {Q : Int → Mem → (Nat → Int64) → Prop} {x1 : Int} (hl : l.stackTraces = false) (body : ∀ G : GT, gB G = B → gl G = l → T_L_setTenure G Q qo x1 M f) : OkW B l md_L_setTenure hh_L_setTenure [.ref (ad B 0), .int (I x1), .ref qo] qo f M Q := by
  refine OkW_of mk_L_setTenure hl (Nat.le_of_ble_eq_true rfl) (fun G hC hR hg => ?_)
  have kk := body G hg.1 hg.2.2
  obtain ⟨rfl, hgr, rfl⟩ := hg
  unfold T_L_setTenure at kk
  refine V_aload_n hC 2 rfl dL_setTenure_0 ?_
  refine V_iconst hC dL_setTenure_1 ?_
  refine V_aload_n hC 0 rfl dL_setTenure_2 ?_
  refine V_iload_n hC 1 rfl dL_setTenure_3 ?_
  rcases kk with kk | kk
  · refine V_cVi hC (As := [_]) lv_L_122 dL_setTenure_4 (d0 := 2) (Nat.le_of_ble_eq_true rfl) (Rm_of hgr) rv_0 rfl (Nat.le_of_ble_eq_true rfl) zk kk (fun r9 M9 z kk => ?_)
    replace kk := kk z
    refine V_i2l hC dL_setTenure_7 ?_
    refine V_lastW hC dL_setTenure_8 ?_
    replace kk := kk _ rfl
    refine V_goto hC 15 rfl dL_setTenure_9 ?_
    refine V_iconst hC dL_setTenure_15 ?_
    obtain ⟨hr, kk⟩ := kk
    exact V_retW hC hR rfl zk dL_setTenure_16 hr kk
  · refine V_cH hC hR (As := [_]) ⟨lv_L_122.1, lm_L_122, lv_L_122.2.2.1, lv_L_122.2.2.2⟩ dL_setTenure_4 (d0 := 2) (Nat.le_of_ble_eq_true rfl) (Rm_of hgr) rv_0 rfl (Nat.le_of_ble_eq_true rfl) (Rk_of hgr ⟨Nat.le_refl _, Nat.le_refl _⟩) kk (noI fun _ _ q => q) (fun E9 M9 kk => ?_)
    have k8 := (show _ ∧ _ from kk)
    clear kk
    obtain ⟨rfl, kk⟩ := k8
    refine ⟨12, ⟨[], [], (0, 9, 12, 15), rfl, fun z hz => absurd hz List.not_mem_nil, by decide, by decide, (wa_4 163 rfl rfl), wn_4 186 rfl rfl, rfl⟩, fun q9 => ?_⟩
    refine V_astore_n hC (lv' := [(3, _), (0, _), (1, _), (2, _)]) (Nat.le_of_ble_eq_true rfl) rfl dL_setTenure_12 ?_
    refine V_iconst hC dL_setTenure_13 ?_
    obtain ⟨hr, kk⟩ := kk
    exact V_retW hC hR rfl (by rw [hgr]; exact ⟨Nat.le_refl _, Nat.le_refl _⟩) dL_setTenure_14 hr kk
abbrev md_L_collectYoung : Md := (yL_collectYoung, cL_collectYoung, 3, (some .int), 5)
abbrev hh_L_collectYoung : List (Nat × Nat × Nat × Nat) := [(0, 8, 11, 17)]
theorem mk_L_collectYoung : MkW md_L_collectYoung hh_L_collectYoung 2 := ⟨by decide +kernel, (wa_7 25 rfl rfl), (wa_1 0 rfl rfl), by decide +kernel, by decide⟩
def T_L_collectYoung (G : GT) (Q : Int → Mem → (Nat → Int64) → Prop) (qo : Nat) (M : Mem) (f : Nat → Int64) : Prop := (OkI (gB G) (gl G) md_X11_collectYoung 0 0 [.ref (ad (gB G) 0)] (Xo (gB G) qo f) M (fun r3 M1 => inR r3 → (∀ f1 : Nat → Int64, f1 = vp_updL f 0 ((I r3).toInt64) → (inR (0 : Int) ∧ Q (0 : Int) M1 f1))) NoX ∨ OkI (gB G) (gl G) md_X11_collectYoung 1 6 [.ref (ad (gB G) 0)] (Xo (gB G) qo f) M (fun _ _ => False) (fun E9 M1 => (E9 = "java/lang/IllegalStateException" ∧ (inR (1 : Int) ∧ Q (1 : Int) M1 f))))
set_option maxRecDepth 100000 in
set_option maxHeartbeats 4000000 in
theorem ok_L_collectYoung {B : WB} {l : Launch} {qo : Nat} {f : Nat → Int64} {M : Mem} {Q : Int → Mem → (Nat → Int64) → Prop} (hl : l.stackTraces = false) (body : ∀ G : GT, gB G = B → gl G = l → T_L_collectYoung G Q qo M f) : OkW B l md_L_collectYoung hh_L_collectYoung [.ref (ad B 0), .ref qo] qo f M Q := by
  refine OkW_of mk_L_collectYoung hl (Nat.le_of_ble_eq_true rfl) (fun G hC hR hg => ?_)
  have kk := body G hg.1 hg.2.2
  obtain ⟨rfl, hgr, rfl⟩ := hg
  unfold T_L_collectYoung at kk
  refine V_aload_n hC 1 rfl dL_collectYoung_0 ?_
  refine V_iconst hC dL_collectYoung_1 ?_
  refine V_aload_n hC 0 rfl dL_collectYoung_2 ?_
  rcases kk with kk | kk
  · refine V_cVi hC (As := []) lv_L_125 dL_collectYoung_3 (d0 := 5) (Nat.le_of_ble_eq_true rfl) (Rm_of hgr) rv_0 rfl (Nat.le_of_ble_eq_true rfl) zk kk (fun r9 M9 z kk => ?_)
    replace kk := kk z
    refine V_i2l hC dL_collectYoung_6 ?_
    refine V_lastW hC dL_collectYoung_7 ?_
    replace kk := kk _ rfl
    refine V_goto hC 14 rfl dL_collectYoung_8 ?_
    refine V_iconst hC dL_collectYoung_14 ?_
    obtain ⟨hr, kk⟩ := kk
    exact V_retW hC hR rfl zk dL_collectYoung_15 hr kk
  · refine V_cH hC hR (As := []) ⟨lv_L_125.1, lm_L_125, lv_L_125.2.2.1, lv_L_125.2.2.2⟩ dL_collectYoung_3 (d0 := 5) (Nat.le_of_ble_eq_true rfl) (Rm_of hgr) rv_0 rfl (Nat.le_of_ble_eq_true rfl) (Rk_of hgr ⟨Nat.le_refl _, Nat.le_refl _⟩) kk (noI fun _ _ q => q) (fun E9 M9 kk => ?_)
    have k8 := (show _ ∧ _ from kk)
    clear kk
    obtain ⟨rfl, kk⟩ := k8
    refine ⟨11, ⟨[], [], (0, 8, 11, 17), rfl, fun z hz => absurd hz List.not_mem_nil, by decide, by decide, (wa_4 164 rfl rfl), wn_4 202 rfl rfl, rfl⟩, fun q9 => ?_⟩
    refine V_astore_n hC (lv' := [(2, _), (0, _), (1, _)]) (Nat.le_of_ble_eq_true rfl) rfl dL_collectYoung_11 ?_
    refine V_iconst hC dL_collectYoung_12 ?_
    obtain ⟨hr, kk⟩ := kk
    exact V_retW hC hR rfl (by rw [hgr]; exact ⟨Nat.le_refl _, Nat.le_refl _⟩) dL_collectYoung_13 hr kk
abbrev md_L_collectAll : Md := (yL_collectAll, cL_collectAll, 4, (some .int), 5)
abbrev hh_L_collectAll : List (Nat × Nat × Nat × Nat) := [(0, 9, 12, 17)]
theorem mk_L_collectAll : MkW md_L_collectAll hh_L_collectAll 3 := ⟨by decide +kernel, (wa_7 38 rfl rfl), (wa_1 0 rfl rfl), by decide +kernel, by decide⟩
def T_L_collectAll (G : GT) (Q : Int → Mem → (Nat → Int64) → Prop) (qo : Nat) (x1 : Int) (M : Mem) (f : Nat → Int64) : Prop := (OkI (gB G) (gl G) md_X11_collectAll 0 0 [.ref (ad (gB G) 0), .int (I x1)] (Xo (gB G) qo f) M (fun r4 M1 => inR r4 → (∀ f1 : Nat → Int64, f1 = vp_updL f 0 ((I r4).toInt64) → (inR (0 : Int) ∧ Q (0 : Int) M1 f1))) NoX ∨ OkI (gB G) (gl G) md_X11_collectAll 1 6 [.ref (ad (gB G) 0), .int (I x1)] (Xo (gB G) qo f) M (fun _ _ => False) (fun E9 M1 => (E9 = "java/lang/IllegalStateException" ∧ (inR (1 : Int) ∧ Q (1 : Int) M1 f))))
set_option maxRecDepth 100000 in
set_option maxHeartbeats 4000000 in
theorem ok_L_collectAll {B : WB} {l : Launch} {qo : Nat} {f : Nat → Int64} {M : Mem} {Q : Int → Mem → (Nat → Int64) → Prop} {x1 : Int} (hl : l.stackTraces = false) (body : ∀ G : GT, gB G = B → gl G = l → T_L_collectAll G Q qo x1 M f) : OkW B l md_L_collectAll hh_L_collectAll [.ref (ad B 0), .int (I x1), .ref qo] qo f M Q := by
  refine OkW_of mk_L_collectAll hl (Nat.le_of_ble_eq_true rfl) (fun G hC hR hg => ?_)
  have kk := body G hg.1 hg.2.2
  obtain ⟨rfl, hgr, rfl⟩ := hg
  unfold T_L_collectAll at kk
  refine V_aload_n hC 2 rfl dL_collectAll_0 ?_
  refine V_iconst hC dL_collectAll_1 ?_
  refine V_aload_n hC 0 rfl dL_collectAll_2 ?_
  refine V_iload_n hC 1 rfl dL_collectAll_3 ?_
  rcases kk with kk | kk
  · refine V_cVi hC (As := [_]) lv_L_129 dL_collectAll_4 (d0 := 5) (Nat.le_of_ble_eq_true rfl) (Rm_of hgr) rv_0 rfl (Nat.le_of_ble_eq_true rfl) zk kk (fun r9 M9 z kk => ?_)
    replace kk := kk z
    refine V_i2l hC dL_collectAll_7 ?_
    refine V_lastW hC dL_collectAll_8 ?_
    replace kk := kk _ rfl
    refine V_goto hC 15 rfl dL_collectAll_9 ?_
    refine V_iconst hC dL_collectAll_15 ?_
    obtain ⟨hr, kk⟩ := kk
    exact V_retW hC hR rfl zk dL_collectAll_16 hr kk
  · refine V_cH hC hR (As := [_]) ⟨lv_L_129.1, lm_L_129, lv_L_129.2.2.1, lv_L_129.2.2.2⟩ dL_collectAll_4 (d0 := 5) (Nat.le_of_ble_eq_true rfl) (Rm_of hgr) rv_0 rfl (Nat.le_of_ble_eq_true rfl) (Rk_of hgr ⟨Nat.le_refl _, Nat.le_refl _⟩) kk (noI fun _ _ q => q) (fun E9 M9 kk => ?_)
    have k8 := (show _ ∧ _ from kk)
    clear kk
    obtain ⟨rfl, kk⟩ := k8
    refine ⟨12, ⟨[], [], (0, 9, 12, 17), rfl, fun z hz => absurd hz List.not_mem_nil, by decide, by decide, (wa_4 164 rfl rfl), wn_4 202 rfl rfl, rfl⟩, fun q9 => ?_⟩
    refine V_astore_n hC (lv' := [(3, _), (0, _), (1, _), (2, _)]) (Nat.le_of_ble_eq_true rfl) rfl dL_collectAll_12 ?_
    refine V_iconst hC dL_collectAll_13 ?_
    obtain ⟨hr, kk⟩ := kk
    exact V_retW hC hR rfl (by rw [hgr]; exact ⟨Nat.le_refl _, Nat.le_refl _⟩) dL_collectAll_14 hr kk
abbrev md_L_beginMarking : Md := (yL_beginMarking, cL_beginMarking, 3, (some .int), 4)
abbrev hh_L_beginMarking : List (Nat × Nat × Nat × Nat) := [(0, 8, 11, 17)]
theorem mk_L_beginMarking : MkW md_L_beginMarking hh_L_beginMarking 2 := ⟨by decide +kernel, (wa_7 45 rfl rfl), (wa_1 0 rfl rfl), by decide +kernel, by decide⟩
def T_L_beginMarking (G : GT) (Q : Int → Mem → (Nat → Int64) → Prop) (qo : Nat) (M : Mem) (f : Nat → Int64) : Prop := (OkI (gB G) (gl G) md_X11_beginMarking 0 0 [.ref (ad (gB G) 0)] (Xo (gB G) qo f) M (fun r3 M1 => inR r3 → (∀ f1 : Nat → Int64, f1 = vp_updL f 0 ((I r3).toInt64) → (inR (0 : Int) ∧ Q (0 : Int) M1 f1))) NoX ∨ OkI (gB G) (gl G) md_X11_beginMarking 1 6 [.ref (ad (gB G) 0)] (Xo (gB G) qo f) M (fun _ _ => False) (fun E9 M1 => (E9 = "java/lang/IllegalStateException" ∧ (inR (1 : Int) ∧ Q (1 : Int) M1 f))))
set_option maxRecDepth 100000 in
set_option maxHeartbeats 4000000 in
theorem ok_L_beginMarking {B : WB} {l : Launch} {qo : Nat} {f : Nat → Int64} {M : Mem} {Q : Int → Mem → (Nat → Int64) → Prop} (hl : l.stackTraces = false) (body : ∀ G : GT, gB G = B → gl G = l → T_L_beginMarking G Q qo M f) : OkW B l md_L_beginMarking hh_L_beginMarking [.ref (ad B 0), .ref qo] qo f M Q := by
  refine OkW_of mk_L_beginMarking hl (Nat.le_of_ble_eq_true rfl) (fun G hC hR hg => ?_)
  have kk := body G hg.1 hg.2.2
  obtain ⟨rfl, hgr, rfl⟩ := hg
  unfold T_L_beginMarking at kk
  refine V_aload_n hC 1 rfl dL_beginMarking_0 ?_
  refine V_iconst hC dL_beginMarking_1 ?_
  refine V_aload_n hC 0 rfl dL_beginMarking_2 ?_
  rcases kk with kk | kk
  · refine V_cVi hC (As := []) lv_L_133 dL_beginMarking_3 (d0 := 4) (Nat.le_of_ble_eq_true rfl) (Rm_of hgr) rv_0 rfl (Nat.le_of_ble_eq_true rfl) zk kk (fun r9 M9 z kk => ?_)
    replace kk := kk z
    refine V_i2l hC dL_beginMarking_6 ?_
    refine V_lastW hC dL_beginMarking_7 ?_
    replace kk := kk _ rfl
    refine V_goto hC 14 rfl dL_beginMarking_8 ?_
    refine V_iconst hC dL_beginMarking_14 ?_
    obtain ⟨hr, kk⟩ := kk
    exact V_retW hC hR rfl zk dL_beginMarking_15 hr kk
  · refine V_cH hC hR (As := []) ⟨lv_L_133.1, lm_L_133, lv_L_133.2.2.1, lv_L_133.2.2.2⟩ dL_beginMarking_3 (d0 := 4) (Nat.le_of_ble_eq_true rfl) (Rm_of hgr) rv_0 rfl (Nat.le_of_ble_eq_true rfl) (Rk_of hgr ⟨Nat.le_refl _, Nat.le_refl _⟩) kk (noI fun _ _ q => q) (fun E9 M9 kk => ?_)
    have k8 := (show _ ∧ _ from kk)
    clear kk
    obtain ⟨rfl, kk⟩ := k8
    refine ⟨11, ⟨[], [], (0, 8, 11, 17), rfl, fun z hz => absurd hz List.not_mem_nil, by decide, by decide, (wa_4 164 rfl rfl), wn_4 202 rfl rfl, rfl⟩, fun q9 => ?_⟩
    refine V_astore_n hC (lv' := [(2, _), (0, _), (1, _)]) (Nat.le_of_ble_eq_true rfl) rfl dL_beginMarking_11 ?_
    refine V_iconst hC dL_beginMarking_12 ?_
    obtain ⟨hr, kk⟩ := kk
    exact V_retW hC hR rfl (by rw [hgr]; exact ⟨Nat.le_refl _, Nat.le_refl _⟩) dL_beginMarking_13 hr kk
abbrev md_L_step : Md := (yL_step, cL_step, 4, (some .int), 5)
abbrev hh_L_step : List (Nat × Nat × Nat × Nat) := [(0, 9, 12, 15), (0, 9, 15, 17)]
theorem mk_L_step : MkW md_L_step hh_L_step 3 := ⟨by decide +kernel, (wa_7 59 rfl rfl), (wa_1 0 rfl rfl), by decide +kernel, by decide⟩
def T_L_step (G : GT) (Q : Int → Mem → (Nat → Int64) → Prop) (qo : Nat) (x1 : Int) (M : Mem) (f : Nat → Int64) : Prop := (OkI (gB G) (gl G) md_X11_step 0 0 [.ref (ad (gB G) 0), .int (I x1)] (Xo (gB G) qo f) M (fun r4 M1 => inR r4 → (∀ f1 : Nat → Int64, f1 = vp_updL f 0 ((I r4).toInt64) → (inR (0 : Int) ∧ Q (0 : Int) M1 f1))) NoX ∨ OkI (gB G) (gl G) md_X11_step 1 6 [.ref (ad (gB G) 0), .int (I x1)] (Xo (gB G) qo f) M (fun _ _ => False) (fun E9 M1 => (E9 = "java/lang/IllegalArgumentException" ∧ (inR (1 : Int) ∧ Q (1 : Int) M1 f)) ∨ (E9 = "java/lang/IllegalStateException" ∧ (inR (2 : Int) ∧ Q (2 : Int) M1 f))))
set_option maxRecDepth 100000 in
set_option maxHeartbeats 4000000 in
theorem ok_L_step {B : WB} {l : Launch} {qo : Nat} {f : Nat → Int64} {M : Mem} {Q : Int → Mem → (Nat → Int64) → Prop} {x1 : Int} (hl : l.stackTraces = false) (body : ∀ G : GT, gB G = B → gl G = l → T_L_step G Q qo x1 M f) : OkW B l md_L_step hh_L_step [.ref (ad B 0), .int (I x1), .ref qo] qo f M Q := by
  refine OkW_of mk_L_step hl (Nat.le_of_ble_eq_true rfl) (fun G hC hR hg => ?_)
  have kk := body G hg.1 hg.2.2
  obtain ⟨rfl, hgr, rfl⟩ := hg
  unfold T_L_step at kk
  refine V_aload_n hC 2 rfl dL_step_0 ?_
  refine V_iconst hC dL_step_1 ?_
  refine V_aload_n hC 0 rfl dL_step_2 ?_
  refine V_iload_n hC 1 rfl dL_step_3 ?_
  rcases kk with kk | kk
  · refine V_cVi hC (As := [_]) lv_L_136 dL_step_4 (d0 := 5) (Nat.le_of_ble_eq_true rfl) (Rm_of hgr) rv_0 rfl (Nat.le_of_ble_eq_true rfl) zk kk (fun r9 M9 z kk => ?_)
    replace kk := kk z
    refine V_i2l hC dL_step_7 ?_
    refine V_lastW hC dL_step_8 ?_
    replace kk := kk _ rfl
    refine V_goto hC 18 rfl dL_step_9 ?_
    refine V_iconst hC dL_step_18 ?_
    obtain ⟨hr, kk⟩ := kk
    exact V_retW hC hR rfl zk dL_step_19 hr kk
  · refine V_cH hC hR (As := [_]) ⟨lv_L_136.1, lm_L_136, lv_L_136.2.2.1, lv_L_136.2.2.2⟩ dL_step_4 (d0 := 5) (Nat.le_of_ble_eq_true rfl) (Rm_of hgr) rv_0 rfl (Nat.le_of_ble_eq_true rfl) (Rk_of hgr ⟨Nat.le_refl _, Nat.le_refl _⟩) kk (noI fun _ _ q => q) (fun E9 M9 kk => ?_)
    have k8 := (show _ ∧ _ ∨ _ ∧ _ from kk)
    clear kk
    rcases k8 with ⟨rfl, kk⟩ | ⟨rfl, kk⟩
    · refine ⟨12, ⟨[], [(0, 9, 15, 17)], (0, 9, 12, 15), rfl, fun z hz => absurd hz List.not_mem_nil, by decide, by decide, (wa_4 163 rfl rfl), wn_4 186 rfl rfl, rfl⟩, fun q9 => ?_⟩
      refine V_astore_n hC (lv' := [(3, _), (0, _), (1, _), (2, _)]) (Nat.le_of_ble_eq_true rfl) rfl dL_step_12 ?_
      refine V_iconst hC dL_step_13 ?_
      obtain ⟨hr, kk⟩ := kk
      exact V_retW hC hR rfl (by rw [hgr]; exact ⟨Nat.le_refl _, Nat.le_refl _⟩) dL_step_14 hr kk
    · refine ⟨15, ⟨[(0, 9, 12, 15)], [], (0, 9, 15, 17), rfl, List.forall_mem_cons.mpr ⟨⟨by decide, _, (wa_4 163 rfl rfl), Or.inr (Or.inr ⟨rfl, rfl⟩)⟩, fun z hz => absurd hz List.not_mem_nil⟩, by decide, by decide, (wa_4 164 rfl rfl), wn_4 202 rfl rfl, rfl⟩, fun q9 => ?_⟩
      refine V_astore_n hC (lv' := [(3, _), (0, _), (1, _), (2, _)]) (Nat.le_of_ble_eq_true rfl) rfl dL_step_15 ?_
      refine V_iconst hC dL_step_16 ?_
      obtain ⟨hr, kk⟩ := kk
      exact V_retW hC hR rfl (by rw [hgr]; exact ⟨Nat.le_refl _, Nat.le_refl _⟩) dL_step_17 hr kk
abbrev md_L_referencesOf : Md := (yL_referencesOf, cL_referencesOf, 4, (some .int), 3)
abbrev hh_L_referencesOf : List (Nat × Nat × Nat × Nat) := [(0, 9, 12, 13)]
theorem mk_L_referencesOf : MkW md_L_referencesOf hh_L_referencesOf 3 := ⟨by decide +kernel, (wa_7 78 rfl rfl), (wa_1 0 rfl rfl), by decide +kernel, by decide⟩
def T_L_referencesOf (G : GT) (Q : Int → Mem → (Nat → Int64) → Prop) (qo : Nat) (x1 : Int) (M : Mem) (f : Nat → Int64) : Prop := (OkI (gB G) (gl G) md_X11_referencesOf 0 0 [.ref (ad (gB G) 0), .int (I x1)] (Xo (gB G) qo f) M (fun r4 M1 => inR r4 → (∀ f1 : Nat → Int64, f1 = vp_updL f 0 ((I r4).toInt64) → (inR (0 : Int) ∧ Q (0 : Int) M1 f1))) NoX ∨ OkI (gB G) (gl G) md_X11_referencesOf 1 6 [.ref (ad (gB G) 0), .int (I x1)] (Xo (gB G) qo f) M (fun _ _ => False) (fun E9 M1 => (E9 = "java/lang/IndexOutOfBoundsException" ∧ (inR (1 : Int) ∧ Q (1 : Int) M1 f))))
set_option maxRecDepth 100000 in
set_option maxHeartbeats 4000000 in
theorem ok_L_referencesOf {B : WB} {l : Launch} {qo : Nat} {f : Nat → Int64} {M : Mem} {Q : Int → Mem → (Nat → Int64) → Prop} {x1 : Int} (hl : l.stackTraces = false) (body : ∀ G : GT, gB G = B → gl G = l → T_L_referencesOf G Q qo x1 M f) : OkW B l md_L_referencesOf hh_L_referencesOf [.ref (ad B 0), .int (I x1), .ref qo] qo f M Q := by
  refine OkW_of mk_L_referencesOf hl (Nat.le_of_ble_eq_true rfl) (fun G hC hR hg => ?_)
  have kk := body G hg.1 hg.2.2
  obtain ⟨rfl, hgr, rfl⟩ := hg
  unfold T_L_referencesOf at kk
  refine V_aload_n hC 2 rfl dL_referencesOf_0 ?_
  refine V_iconst hC dL_referencesOf_1 ?_
  refine V_aload_n hC 0 rfl dL_referencesOf_2 ?_
  refine V_iload_n hC 1 rfl dL_referencesOf_3 ?_
  rcases kk with kk | kk
  · refine V_cVi hC (As := [_]) lv_L_139 dL_referencesOf_4 (d0 := 3) (Nat.le_of_ble_eq_true rfl) (Rm_of hgr) rv_0 rfl (Nat.le_of_ble_eq_true rfl) zk kk (fun r9 M9 z kk => ?_)
    replace kk := kk z
    refine V_i2l hC dL_referencesOf_7 ?_
    refine V_lastW hC dL_referencesOf_8 ?_
    replace kk := kk _ rfl
    refine V_goto hC 15 rfl dL_referencesOf_9 ?_
    refine V_iconst hC dL_referencesOf_15 ?_
    obtain ⟨hr, kk⟩ := kk
    exact V_retW hC hR rfl zk dL_referencesOf_16 hr kk
  · refine V_cH hC hR (As := [_]) ⟨lv_L_139.1, lm_L_139, lv_L_139.2.2.1, lv_L_139.2.2.2⟩ dL_referencesOf_4 (d0 := 3) (Nat.le_of_ble_eq_true rfl) (Rm_of hgr) rv_0 rfl (Nat.le_of_ble_eq_true rfl) (Rk_of hgr ⟨Nat.le_refl _, Nat.le_refl _⟩) kk (noI fun _ _ q => q) (fun E9 M9 kk => ?_)
    have k8 := (show _ ∧ _ from kk)
    clear kk
    obtain ⟨rfl, kk⟩ := k8
    refine ⟨12, ⟨[], [], (0, 9, 12, 13), rfl, fun z hz => absurd hz List.not_mem_nil, by decide, by decide, (wa_4 162 rfl rfl), wn_4 23 rfl rfl, rfl⟩, fun q9 => ?_⟩
    refine V_astore_n hC (lv' := [(3, _), (0, _), (1, _), (2, _)]) (Nat.le_of_ble_eq_true rfl) rfl dL_referencesOf_12 ?_
    refine V_iconst hC dL_referencesOf_13 ?_
    obtain ⟨hr, kk⟩ := kk
    exact V_retW hC hR rfl (by rw [hgr]; exact ⟨Nat.le_refl _, Nat.le_refl _⟩) dL_referencesOf_14 hr kk
abbrev md_L_numbersOf : Md := (yL_numbersOf, cL_numbersOf, 4, (some .int), 3)
abbrev hh_L_numbersOf : List (Nat × Nat × Nat × Nat) := [(0, 9, 12, 13)]
theorem mk_L_numbersOf : MkW md_L_numbersOf hh_L_numbersOf 3 := ⟨by decide +kernel, (wa_7 85 rfl rfl), (wa_1 0 rfl rfl), by decide +kernel, by decide⟩
def T_L_numbersOf (G : GT) (Q : Int → Mem → (Nat → Int64) → Prop) (qo : Nat) (x1 : Int) (M : Mem) (f : Nat → Int64) : Prop := (OkI (gB G) (gl G) md_X11_numbersOf 0 0 [.ref (ad (gB G) 0), .int (I x1)] (Xo (gB G) qo f) M (fun r4 M1 => inR r4 → (∀ f1 : Nat → Int64, f1 = vp_updL f 0 ((I r4).toInt64) → (inR (0 : Int) ∧ Q (0 : Int) M1 f1))) NoX ∨ OkI (gB G) (gl G) md_X11_numbersOf 1 6 [.ref (ad (gB G) 0), .int (I x1)] (Xo (gB G) qo f) M (fun _ _ => False) (fun E9 M1 => (E9 = "java/lang/IndexOutOfBoundsException" ∧ (inR (1 : Int) ∧ Q (1 : Int) M1 f))))
set_option maxRecDepth 100000 in
set_option maxHeartbeats 4000000 in
theorem ok_L_numbersOf {B : WB} {l : Launch} {qo : Nat} {f : Nat → Int64} {M : Mem} {Q : Int → Mem → (Nat → Int64) → Prop} {x1 : Int} (hl : l.stackTraces = false) (body : ∀ G : GT, gB G = B → gl G = l → T_L_numbersOf G Q qo x1 M f) : OkW B l md_L_numbersOf hh_L_numbersOf [.ref (ad B 0), .int (I x1), .ref qo] qo f M Q := by
  refine OkW_of mk_L_numbersOf hl (Nat.le_of_ble_eq_true rfl) (fun G hC hR hg => ?_)
  have kk := body G hg.1 hg.2.2
  obtain ⟨rfl, hgr, rfl⟩ := hg
  unfold T_L_numbersOf at kk
  refine V_aload_n hC 2 rfl dL_numbersOf_0 ?_
  refine V_iconst hC dL_numbersOf_1 ?_
  refine V_aload_n hC 0 rfl dL_numbersOf_2 ?_
  refine V_iload_n hC 1 rfl dL_numbersOf_3 ?_
  rcases kk with kk | kk
  · refine V_cVi hC (As := [_]) lv_L_142 dL_numbersOf_4 (d0 := 3) (Nat.le_of_ble_eq_true rfl) (Rm_of hgr) rv_0 rfl (Nat.le_of_ble_eq_true rfl) zk kk (fun r9 M9 z kk => ?_)
    replace kk := kk z
    refine V_i2l hC dL_numbersOf_7 ?_
    refine V_lastW hC dL_numbersOf_8 ?_
    replace kk := kk _ rfl
    refine V_goto hC 15 rfl dL_numbersOf_9 ?_
    refine V_iconst hC dL_numbersOf_15 ?_
    obtain ⟨hr, kk⟩ := kk
    exact V_retW hC hR rfl zk dL_numbersOf_16 hr kk
  · refine V_cH hC hR (As := [_]) ⟨lv_L_142.1, lm_L_142, lv_L_142.2.2.1, lv_L_142.2.2.2⟩ dL_numbersOf_4 (d0 := 3) (Nat.le_of_ble_eq_true rfl) (Rm_of hgr) rv_0 rfl (Nat.le_of_ble_eq_true rfl) (Rk_of hgr ⟨Nat.le_refl _, Nat.le_refl _⟩) kk (noI fun _ _ q => q) (fun E9 M9 kk => ?_)
    have k8 := (show _ ∧ _ from kk)
    clear kk
    obtain ⟨rfl, kk⟩ := k8
    refine ⟨12, ⟨[], [], (0, 9, 12, 13), rfl, fun z hz => absurd hz List.not_mem_nil, by decide, by decide, (wa_4 162 rfl rfl), wn_4 23 rfl rfl, rfl⟩, fun q9 => ?_⟩
    refine V_astore_n hC (lv' := [(3, _), (0, _), (1, _), (2, _)]) (Nat.le_of_ble_eq_true rfl) rfl dL_numbersOf_12 ?_
    refine V_iconst hC dL_numbersOf_13 ?_
    obtain ⟨hr, kk⟩ := kk
    exact V_retW hC hR rfl (by rw [hgr]; exact ⟨Nat.le_refl _, Nat.le_refl _⟩) dL_numbersOf_14 hr kk
abbrev md_L_isFinal : Md := (yL_isFinal, cL_isFinal, 4, (some .int), 3)
abbrev hh_L_isFinal : List (Nat × Nat × Nat × Nat) := [(0, 16, 19, 13)]
theorem mk_L_isFinal : MkW md_L_isFinal hh_L_isFinal 3 := ⟨by decide +kernel, (wa_7 92 rfl rfl), (wa_1 0 rfl rfl), by decide +kernel, by decide⟩
def T_L_isFinal (G : GT) (Q : Int → Mem → (Nat → Int64) → Prop) (qo : Nat) (x1 : Int) (M : Mem) (f : Nat → Int64) : Prop := (OkI (gB G) (gl G) md_X11_isFinal 0 0 [.ref (ad (gB G) 0), .int (I x1)] (Xo (gB G) qo f) M (fun r4 M1 => inR r4 → (inR r4 ∧ (r4 = 0 → (∀ f1 : Nat → Int64, f1 = vp_updL f 0 (0 : Int64) → (inR (0 : Int) ∧ Q (0 : Int) M1 f1))) ∧ (r4 ≠ 0 → (∀ f1 : Nat → Int64, f1 = vp_updL f 0 (1 : Int64) → (inR (0 : Int) ∧ Q (0 : Int) M1 f1))))) NoX ∨ OkI (gB G) (gl G) md_X11_isFinal 1 6 [.ref (ad (gB G) 0), .int (I x1)] (Xo (gB G) qo f) M (fun _ _ => False) (fun E9 M1 => (E9 = "java/lang/IndexOutOfBoundsException" ∧ (inR (1 : Int) ∧ Q (1 : Int) M1 f))))
set_option maxRecDepth 100000 in
set_option maxHeartbeats 4000000 in
theorem ok_L_isFinal {B : WB} {l : Launch} {qo : Nat} {f : Nat → Int64} {M : Mem} {Q : Int → Mem → (Nat → Int64) → Prop} {x1 : Int} (hl : l.stackTraces = false) (body : ∀ G : GT, gB G = B → gl G = l → T_L_isFinal G Q qo x1 M f) : OkW B l md_L_isFinal hh_L_isFinal [.ref (ad B 0), .int (I x1), .ref qo] qo f M Q := by
  refine OkW_of mk_L_isFinal hl (Nat.le_of_ble_eq_true rfl) (fun G hC hR hg => ?_)
  have kk := body G hg.1 hg.2.2
  obtain ⟨rfl, hgr, rfl⟩ := hg
  unfold T_L_isFinal at kk
  refine V_aload_n hC 2 rfl dL_isFinal_0 ?_
  refine V_iconst hC dL_isFinal_1 ?_
  refine V_aload_n hC 0 rfl dL_isFinal_2 ?_
  refine V_iload_n hC 1 rfl dL_isFinal_3 ?_
  rcases kk with kk | kk
  · refine V_cVi hC (As := [_]) lv_L_145 dL_isFinal_4 (d0 := 3) (Nat.le_of_ble_eq_true rfl) (Rm_of hgr) rv_0 rfl (Nat.le_of_ble_eq_true rfl) zk kk (fun r9 M9 z kk => ?_)
    replace kk := kk z
    obtain ⟨ha, k1, k2⟩ := kk
    refine V_if_eq hC 14 rfl dL_isFinal_7 ⟨ha, fun z => ?_, fun z => ?_⟩
    · replace kk := k1 z; clear k1 k2
      refine V_lconst hC 0 rfl dL_isFinal_14 ?_
      refine V_lastW hC dL_isFinal_15 ?_
      replace kk := kk _ rfl
      refine V_goto hC 22 rfl dL_isFinal_16 ?_
      refine V_iconst hC dL_isFinal_22 ?_
      obtain ⟨hr, kk⟩ := kk
      exact V_retW hC hR rfl zk dL_isFinal_23 hr kk
    · replace kk := k2 z; clear k1 k2
      refine V_lconst hC 1 rfl dL_isFinal_10 ?_
      refine V_goto hC 15 rfl dL_isFinal_11 ?_
      refine V_lastW hC dL_isFinal_15 ?_
      replace kk := kk _ rfl
      refine V_goto hC 22 rfl dL_isFinal_16 ?_
      refine V_iconst hC dL_isFinal_22 ?_
      obtain ⟨hr, kk⟩ := kk
      exact V_retW hC hR rfl zk dL_isFinal_23 hr kk
  · refine V_cH hC hR (As := [_]) ⟨lv_L_145.1, lm_L_145, lv_L_145.2.2.1, lv_L_145.2.2.2⟩ dL_isFinal_4 (d0 := 3) (Nat.le_of_ble_eq_true rfl) (Rm_of hgr) rv_0 rfl (Nat.le_of_ble_eq_true rfl) (Rk_of hgr ⟨Nat.le_refl _, Nat.le_refl _⟩) kk (noI fun _ _ q => q) (fun E9 M9 kk => ?_)
    have k8 := (show _ ∧ _ from kk)
    clear kk
    obtain ⟨rfl, kk⟩ := k8
    refine ⟨19, ⟨[], [], (0, 16, 19, 13), rfl, fun z hz => absurd hz List.not_mem_nil, by decide, by decide, (wa_4 162 rfl rfl), wn_4 23 rfl rfl, rfl⟩, fun q9 => ?_⟩
    refine V_astore_n hC (lv' := [(3, _), (0, _), (1, _), (2, _)]) (Nat.le_of_ble_eq_true rfl) rfl dL_isFinal_19 ?_
    refine V_iconst hC dL_isFinal_20 ?_
    obtain ⟨hr, kk⟩ := kk
    exact V_retW hC hR rfl (by rw [hgr]; exact ⟨Nat.le_refl _, Nat.le_refl _⟩) dL_isFinal_21 hr kk
abbrev md_L_isKindOf : Md := (yL_isKindOf, cL_isKindOf, 5, (some .int), 3)
abbrev hh_L_isKindOf : List (Nat × Nat × Nat × Nat) := [(0, 17, 20, 13)]
theorem mk_L_isKindOf : MkW md_L_isKindOf hh_L_isKindOf 4 := ⟨by decide +kernel, (wa_7 99 rfl rfl), (wa_1 0 rfl rfl), by decide +kernel, by decide⟩
def T_L_isKindOf (G : GT) (Q : Int → Mem → (Nat → Int64) → Prop) (qo : Nat) (x1 : Int) (x2 : Int) (M : Mem) (f : Nat → Int64) : Prop := (OkI (gB G) (gl G) md_X11_isKindOf 0 0 [.ref (ad (gB G) 0), .int (I x1), .int (I x2)] (Xo (gB G) qo f) M (fun r5 M1 => inR r5 → (inR r5 ∧ (r5 = 0 → (∀ f1 : Nat → Int64, f1 = vp_updL f 0 (0 : Int64) → (inR (0 : Int) ∧ Q (0 : Int) M1 f1))) ∧ (r5 ≠ 0 → (∀ f1 : Nat → Int64, f1 = vp_updL f 0 (1 : Int64) → (inR (0 : Int) ∧ Q (0 : Int) M1 f1))))) NoX ∨ OkI (gB G) (gl G) md_X11_isKindOf 1 6 [.ref (ad (gB G) 0), .int (I x1), .int (I x2)] (Xo (gB G) qo f) M (fun _ _ => False) (fun E9 M1 => (E9 = "java/lang/IndexOutOfBoundsException" ∧ (inR (1 : Int) ∧ Q (1 : Int) M1 f))))
set_option maxRecDepth 100000 in
set_option maxHeartbeats 4000000 in
theorem ok_L_isKindOf {B : WB} {l : Launch} {qo : Nat} {f : Nat → Int64} {M : Mem} {Q : Int → Mem → (Nat → Int64) → Prop} {x1 : Int} {x2 : Int} (hl : l.stackTraces = false) (body : ∀ G : GT, gB G = B → gl G = l → T_L_isKindOf G Q qo x1 x2 M f) : OkW B l md_L_isKindOf hh_L_isKindOf [.ref (ad B 0), .int (I x1), .int (I x2), .ref qo] qo f M Q := by
  refine OkW_of mk_L_isKindOf hl (Nat.le_of_ble_eq_true rfl) (fun G hC hR hg => ?_)
  have kk := body G hg.1 hg.2.2
  obtain ⟨rfl, hgr, rfl⟩ := hg
  unfold T_L_isKindOf at kk
  refine V_aload_n hC 3 rfl dL_isKindOf_0 ?_
  refine V_iconst hC dL_isKindOf_1 ?_
  refine V_aload_n hC 0 rfl dL_isKindOf_2 ?_
  refine V_iload_n hC 1 rfl dL_isKindOf_3 ?_
  refine V_iload_n hC 2 rfl dL_isKindOf_4 ?_
  rcases kk with kk | kk
  · refine V_cVi hC (As := [_, _]) lv_L_148 dL_isKindOf_5 (d0 := 3) (Nat.le_of_ble_eq_true rfl) (Rm_of hgr) rv_0 rfl (Nat.le_of_ble_eq_true rfl) zk kk (fun r9 M9 z kk => ?_)
    replace kk := kk z
    obtain ⟨ha, k1, k2⟩ := kk
    refine V_if_eq hC 15 rfl dL_isKindOf_8 ⟨ha, fun z => ?_, fun z => ?_⟩
    · replace kk := k1 z; clear k1 k2
      refine V_lconst hC 0 rfl dL_isKindOf_15 ?_
      refine V_lastW hC dL_isKindOf_16 ?_
      replace kk := kk _ rfl
      refine V_goto hC 24 rfl dL_isKindOf_17 ?_
      refine V_iconst hC dL_isKindOf_24 ?_
      obtain ⟨hr, kk⟩ := kk
      exact V_retW hC hR rfl zk dL_isKindOf_25 hr kk
    · replace kk := k2 z; clear k1 k2
      refine V_lconst hC 1 rfl dL_isKindOf_11 ?_
      refine V_goto hC 16 rfl dL_isKindOf_12 ?_
      refine V_lastW hC dL_isKindOf_16 ?_
      replace kk := kk _ rfl
      refine V_goto hC 24 rfl dL_isKindOf_17 ?_
      refine V_iconst hC dL_isKindOf_24 ?_
      obtain ⟨hr, kk⟩ := kk
      exact V_retW hC hR rfl zk dL_isKindOf_25 hr kk
  · refine V_cH hC hR (As := [_, _]) ⟨lv_L_148.1, lm_L_148, lv_L_148.2.2.1, lv_L_148.2.2.2⟩ dL_isKindOf_5 (d0 := 3) (Nat.le_of_ble_eq_true rfl) (Rm_of hgr) rv_0 rfl (Nat.le_of_ble_eq_true rfl) (Rk_of hgr ⟨Nat.le_refl _, Nat.le_refl _⟩) kk (noI fun _ _ q => q) (fun E9 M9 kk => ?_)
    have k8 := (show _ ∧ _ from kk)
    clear kk
    obtain ⟨rfl, kk⟩ := k8
    refine ⟨20, ⟨[], [], (0, 17, 20, 13), rfl, fun z hz => absurd hz List.not_mem_nil, by decide, by decide, (wa_4 162 rfl rfl), wn_4 23 rfl rfl, rfl⟩, fun q9 => ?_⟩
    refine V_astore hC (lv' := [(4, _), (0, _), (1, _), (2, _), (3, _)]) (Nat.le_of_ble_eq_true rfl) rfl dL_isKindOf_20 ?_
    refine V_iconst hC dL_isKindOf_22 ?_
    obtain ⟨hr, kk⟩ := kk
    exact V_retW hC hR rfl (by rw [hgr]; exact ⟨Nat.le_refl _, Nat.le_refl _⟩) dL_isKindOf_23 hr kk
abbrev md_L_numberOf : Md := (yL_numberOf, cL_numberOf, 4, (some .int), 3)
abbrev hh_L_numberOf : List (Nat × Nat × Nat × Nat) := [(0, 9, 12, 13)]
theorem mk_L_numberOf : MkW md_L_numberOf hh_L_numberOf 3 := ⟨by decide +kernel, (wa_7 110 rfl rfl), (wa_1 0 rfl rfl), by decide +kernel, by decide⟩
def T_L_numberOf (G : GT) (Q : Int → Mem → (Nat → Int64) → Prop) (qo : Nat) (x1 : Int) (M : Mem) (f : Nat → Int64) : Prop := (OkI (gB G) (gl G) md_X11_numberOf 0 0 [.ref (ad (gB G) 0), .int (I x1)] (Xo (gB G) qo f) M (fun r4 M1 => inR r4 → (∀ f1 : Nat → Int64, f1 = vp_updL f 0 ((I r4).toInt64) → (inR (0 : Int) ∧ Q (0 : Int) M1 f1))) NoX ∨ OkI (gB G) (gl G) md_X11_numberOf 1 6 [.ref (ad (gB G) 0), .int (I x1)] (Xo (gB G) qo f) M (fun _ _ => False) (fun E9 M1 => (E9 = "java/lang/IndexOutOfBoundsException" ∧ (inR (1 : Int) ∧ Q (1 : Int) M1 f))))
set_option maxRecDepth 100000 in
set_option maxHeartbeats 4000000 in
theorem ok_L_numberOf {B : WB} {l : Launch} {qo : Nat} {f : Nat → Int64} {M : Mem} {Q : Int → Mem → (Nat → Int64) → Prop} {x1 : Int} (hl : l.stackTraces = false) (body : ∀ G : GT, gB G = B → gl G = l → T_L_numberOf G Q qo x1 M f) : OkW B l md_L_numberOf hh_L_numberOf [.ref (ad B 0), .int (I x1), .ref qo] qo f M Q := by
  refine OkW_of mk_L_numberOf hl (Nat.le_of_ble_eq_true rfl) (fun G hC hR hg => ?_)
  have kk := body G hg.1 hg.2.2
  obtain ⟨rfl, hgr, rfl⟩ := hg
  unfold T_L_numberOf at kk
  refine V_aload_n hC 2 rfl dL_numberOf_0 ?_
  refine V_iconst hC dL_numberOf_1 ?_
  refine V_aload_n hC 0 rfl dL_numberOf_2 ?_
  refine V_iload_n hC 1 rfl dL_numberOf_3 ?_
  rcases kk with kk | kk
  · refine V_cVi hC (As := [_]) lv_L_151 dL_numberOf_4 (d0 := 3) (Nat.le_of_ble_eq_true rfl) (Rm_of hgr) rv_0 rfl (Nat.le_of_ble_eq_true rfl) zk kk (fun r9 M9 z kk => ?_)
    replace kk := kk z
    refine V_i2l hC dL_numberOf_7 ?_
    refine V_lastW hC dL_numberOf_8 ?_
    replace kk := kk _ rfl
    refine V_goto hC 15 rfl dL_numberOf_9 ?_
    refine V_iconst hC dL_numberOf_15 ?_
    obtain ⟨hr, kk⟩ := kk
    exact V_retW hC hR rfl zk dL_numberOf_16 hr kk
  · refine V_cH hC hR (As := [_]) ⟨lv_L_151.1, lm_L_151, lv_L_151.2.2.1, lv_L_151.2.2.2⟩ dL_numberOf_4 (d0 := 3) (Nat.le_of_ble_eq_true rfl) (Rm_of hgr) rv_0 rfl (Nat.le_of_ble_eq_true rfl) (Rk_of hgr ⟨Nat.le_refl _, Nat.le_refl _⟩) kk (noI fun _ _ q => q) (fun E9 M9 kk => ?_)
    have k8 := (show _ ∧ _ from kk)
    clear kk
    obtain ⟨rfl, kk⟩ := k8
    refine ⟨12, ⟨[], [], (0, 9, 12, 13), rfl, fun z hz => absurd hz List.not_mem_nil, by decide, by decide, (wa_4 162 rfl rfl), wn_4 23 rfl rfl, rfl⟩, fun q9 => ?_⟩
    refine V_astore_n hC (lv' := [(3, _), (0, _), (1, _), (2, _)]) (Nat.le_of_ble_eq_true rfl) rfl dL_numberOf_12 ?_
    refine V_iconst hC dL_numberOf_13 ?_
    obtain ⟨hr, kk⟩ := kk
    exact V_retW hC hR rfl (by rw [hgr]; exact ⟨Nat.le_refl _, Nat.le_refl _⟩) dL_numberOf_14 hr kk
abbrev md_L_globalNumber : Md := (yL_globalNumber, cL_globalNumber, 4, (some .int), 2)
abbrev hh_L_globalNumber : List (Nat × Nat × Nat × Nat) := [(0, 9, 12, 13)]
theorem mk_L_globalNumber : MkW md_L_globalNumber hh_L_globalNumber 3 := ⟨by decide +kernel, (wa_7 114 rfl rfl), (wa_1 0 rfl rfl), by decide +kernel, by decide⟩
def T_L_globalNumber (G : GT) (Q : Int → Mem → (Nat → Int64) → Prop) (qo : Nat) (x1 : Int) (M : Mem) (f : Nat → Int64) : Prop := (OkI (gB G) (gl G) md_X11_globalNumber 0 0 [.ref (ad (gB G) 0), .int (I x1)] (Xo (gB G) qo f) M (fun r4 M1 => inR r4 → (∀ f1 : Nat → Int64, f1 = vp_updL f 0 ((I r4).toInt64) → (inR (0 : Int) ∧ Q (0 : Int) M1 f1))) NoX ∨ OkI (gB G) (gl G) md_X11_globalNumber 1 6 [.ref (ad (gB G) 0), .int (I x1)] (Xo (gB G) qo f) M (fun _ _ => False) (fun E9 M1 => (E9 = "java/lang/IndexOutOfBoundsException" ∧ (inR (1 : Int) ∧ Q (1 : Int) M1 f))))
set_option maxRecDepth 100000 in
set_option maxHeartbeats 4000000 in
theorem ok_L_globalNumber {B : WB} {l : Launch} {qo : Nat} {f : Nat → Int64} {M : Mem} {Q : Int → Mem → (Nat → Int64) → Prop} {x1 : Int} (hl : l.stackTraces = false) (body : ∀ G : GT, gB G = B → gl G = l → T_L_globalNumber G Q qo x1 M f) : OkW B l md_L_globalNumber hh_L_globalNumber [.ref (ad B 0), .int (I x1), .ref qo] qo f M Q := by
  refine OkW_of mk_L_globalNumber hl (Nat.le_of_ble_eq_true rfl) (fun G hC hR hg => ?_)
  have kk := body G hg.1 hg.2.2
  obtain ⟨rfl, hgr, rfl⟩ := hg
  unfold T_L_globalNumber at kk
  refine V_aload_n hC 2 rfl dL_globalNumber_0 ?_
  refine V_iconst hC dL_globalNumber_1 ?_
  refine V_aload_n hC 0 rfl dL_globalNumber_2 ?_
  refine V_iload_n hC 1 rfl dL_globalNumber_3 ?_
  rcases kk with kk | kk
  · refine V_cVi hC (As := [_]) lv_L_154 dL_globalNumber_4 (d0 := 2) (Nat.le_of_ble_eq_true rfl) (Rm_of hgr) rv_0 rfl (Nat.le_of_ble_eq_true rfl) zk kk (fun r9 M9 z kk => ?_)
    replace kk := kk z
    refine V_i2l hC dL_globalNumber_7 ?_
    refine V_lastW hC dL_globalNumber_8 ?_
    replace kk := kk _ rfl
    refine V_goto hC 15 rfl dL_globalNumber_9 ?_
    refine V_iconst hC dL_globalNumber_15 ?_
    obtain ⟨hr, kk⟩ := kk
    exact V_retW hC hR rfl zk dL_globalNumber_16 hr kk
  · refine V_cH hC hR (As := [_]) ⟨lv_L_154.1, lm_L_154, lv_L_154.2.2.1, lv_L_154.2.2.2⟩ dL_globalNumber_4 (d0 := 2) (Nat.le_of_ble_eq_true rfl) (Rm_of hgr) rv_0 rfl (Nat.le_of_ble_eq_true rfl) (Rk_of hgr ⟨Nat.le_refl _, Nat.le_refl _⟩) kk (noI fun _ _ q => q) (fun E9 M9 kk => ?_)
    have k8 := (show _ ∧ _ from kk)
    clear kk
    obtain ⟨rfl, kk⟩ := k8
    refine ⟨12, ⟨[], [], (0, 9, 12, 13), rfl, fun z hz => absurd hz List.not_mem_nil, by decide, by decide, (wa_4 162 rfl rfl), wn_4 23 rfl rfl, rfl⟩, fun q9 => ?_⟩
    refine V_astore_n hC (lv' := [(3, _), (0, _), (1, _), (2, _)]) (Nat.le_of_ble_eq_true rfl) rfl dL_globalNumber_12 ?_
    refine V_iconst hC dL_globalNumber_13 ?_
    obtain ⟨hr, kk⟩ := kk
    exact V_retW hC hR rfl (by rw [hgr]; exact ⟨Nat.le_refl _, Nat.le_refl _⟩) dL_globalNumber_14 hr kk
abbrev md_L_formOf : Md := (yL_formOf, cL_formOf, 4, (some .int), 3)
abbrev hh_L_formOf : List (Nat × Nat × Nat × Nat) := [(0, 9, 12, 13)]
theorem mk_L_formOf : MkW md_L_formOf hh_L_formOf 3 := ⟨by decide +kernel, (wa_7 118 rfl rfl), (wa_1 0 rfl rfl), by decide +kernel, by decide⟩
def T_L_formOf (G : GT) (Q : Int → Mem → (Nat → Int64) → Prop) (qo : Nat) (x1 : Int) (M : Mem) (f : Nat → Int64) : Prop := (OkI (gB G) (gl G) md_X11_formOf 0 0 [.ref (ad (gB G) 0), .int (I x1)] (Xo (gB G) qo f) M (fun r4 M1 => inR r4 → (∀ f1 : Nat → Int64, f1 = vp_updL f 0 ((I r4).toInt64) → (inR (0 : Int) ∧ Q (0 : Int) M1 f1))) NoX ∨ OkI (gB G) (gl G) md_X11_formOf 1 6 [.ref (ad (gB G) 0), .int (I x1)] (Xo (gB G) qo f) M (fun _ _ => False) (fun E9 M1 => (E9 = "java/lang/IndexOutOfBoundsException" ∧ (inR (1 : Int) ∧ Q (1 : Int) M1 f))))
set_option maxRecDepth 100000 in
set_option maxHeartbeats 4000000 in
theorem ok_L_formOf {B : WB} {l : Launch} {qo : Nat} {f : Nat → Int64} {M : Mem} {Q : Int → Mem → (Nat → Int64) → Prop} {x1 : Int} (hl : l.stackTraces = false) (body : ∀ G : GT, gB G = B → gl G = l → T_L_formOf G Q qo x1 M f) : OkW B l md_L_formOf hh_L_formOf [.ref (ad B 0), .int (I x1), .ref qo] qo f M Q := by
  refine OkW_of mk_L_formOf hl (Nat.le_of_ble_eq_true rfl) (fun G hC hR hg => ?_)
  have kk := body G hg.1 hg.2.2
  obtain ⟨rfl, hgr, rfl⟩ := hg
  unfold T_L_formOf at kk
  refine V_aload_n hC 2 rfl dL_formOf_0 ?_
  refine V_iconst hC dL_formOf_1 ?_
  refine V_aload_n hC 0 rfl dL_formOf_2 ?_
  refine V_iload_n hC 1 rfl dL_formOf_3 ?_
  rcases kk with kk | kk
  · refine V_cVi hC (As := [_]) lv_L_157 dL_formOf_4 (d0 := 3) (Nat.le_of_ble_eq_true rfl) (Rm_of hgr) rv_0 rfl (Nat.le_of_ble_eq_true rfl) zk kk (fun r9 M9 z kk => ?_)
    replace kk := kk z
    refine V_i2l hC dL_formOf_7 ?_
    refine V_lastW hC dL_formOf_8 ?_
    replace kk := kk _ rfl
    refine V_goto hC 15 rfl dL_formOf_9 ?_
    refine V_iconst hC dL_formOf_15 ?_
    obtain ⟨hr, kk⟩ := kk
    exact V_retW hC hR rfl zk dL_formOf_16 hr kk
  · refine V_cH hC hR (As := [_]) ⟨lv_L_157.1, lm_L_157, lv_L_157.2.2.1, lv_L_157.2.2.2⟩ dL_formOf_4 (d0 := 3) (Nat.le_of_ble_eq_true rfl) (Rm_of hgr) rv_0 rfl (Nat.le_of_ble_eq_true rfl) (Rk_of hgr ⟨Nat.le_refl _, Nat.le_refl _⟩) kk (noI fun _ _ q => q) (fun E9 M9 kk => ?_)
    have k8 := (show _ ∧ _ from kk)
    clear kk
    obtain ⟨rfl, kk⟩ := k8
    refine ⟨12, ⟨[], [], (0, 9, 12, 13), rfl, fun z hz => absurd hz List.not_mem_nil, by decide, by decide, (wa_4 162 rfl rfl), wn_4 23 rfl rfl, rfl⟩, fun q9 => ?_⟩
    refine V_astore_n hC (lv' := [(3, _), (0, _), (1, _), (2, _)]) (Nat.le_of_ble_eq_true rfl) rfl dL_formOf_12 ?_
    refine V_iconst hC dL_formOf_13 ?_
    obtain ⟨hr, kk⟩ := kk
    exact V_retW hC hR rfl (by rw [hgr]; exact ⟨Nat.le_refl _, Nat.le_refl _⟩) dL_formOf_14 hr kk
abbrev md_L_kindOf : Md := (yL_kindOf, cL_kindOf, 4, (some .int), 3)
abbrev hh_L_kindOf : List (Nat × Nat × Nat × Nat) := [(0, 9, 12, 13)]
theorem mk_L_kindOf : MkW md_L_kindOf hh_L_kindOf 3 := ⟨by decide +kernel, (wa_7 122 rfl rfl), (wa_1 0 rfl rfl), by decide +kernel, by decide⟩
def T_L_kindOf (G : GT) (Q : Int → Mem → (Nat → Int64) → Prop) (qo : Nat) (x1 : Int) (M : Mem) (f : Nat → Int64) : Prop := (OkI (gB G) (gl G) md_X11_kindOf 0 0 [.ref (ad (gB G) 0), .int (I x1)] (Xo (gB G) qo f) M (fun r4 M1 => inR r4 → (∀ f1 : Nat → Int64, f1 = vp_updL f 0 ((I r4).toInt64) → (inR (0 : Int) ∧ Q (0 : Int) M1 f1))) NoX ∨ OkI (gB G) (gl G) md_X11_kindOf 1 6 [.ref (ad (gB G) 0), .int (I x1)] (Xo (gB G) qo f) M (fun _ _ => False) (fun E9 M1 => (E9 = "java/lang/IndexOutOfBoundsException" ∧ (inR (1 : Int) ∧ Q (1 : Int) M1 f))))
set_option maxRecDepth 100000 in
set_option maxHeartbeats 4000000 in
theorem ok_L_kindOf {B : WB} {l : Launch} {qo : Nat} {f : Nat → Int64} {M : Mem} {Q : Int → Mem → (Nat → Int64) → Prop} {x1 : Int} (hl : l.stackTraces = false) (body : ∀ G : GT, gB G = B → gl G = l → T_L_kindOf G Q qo x1 M f) : OkW B l md_L_kindOf hh_L_kindOf [.ref (ad B 0), .int (I x1), .ref qo] qo f M Q := by
  refine OkW_of mk_L_kindOf hl (Nat.le_of_ble_eq_true rfl) (fun G hC hR hg => ?_)
  have kk := body G hg.1 hg.2.2
  obtain ⟨rfl, hgr, rfl⟩ := hg
  unfold T_L_kindOf at kk
  refine V_aload_n hC 2 rfl dL_kindOf_0 ?_
  refine V_iconst hC dL_kindOf_1 ?_
  refine V_aload_n hC 0 rfl dL_kindOf_2 ?_
  refine V_iload_n hC 1 rfl dL_kindOf_3 ?_
  rcases kk with kk | kk
  · refine V_cVi hC (As := [_]) lv_L_160 dL_kindOf_4 (d0 := 3) (Nat.le_of_ble_eq_true rfl) (Rm_of hgr) rv_0 rfl (Nat.le_of_ble_eq_true rfl) zk kk (fun r9 M9 z kk => ?_)
    replace kk := kk z
    refine V_i2l hC dL_kindOf_7 ?_
    refine V_lastW hC dL_kindOf_8 ?_
    replace kk := kk _ rfl
    refine V_goto hC 15 rfl dL_kindOf_9 ?_
    refine V_iconst hC dL_kindOf_15 ?_
    obtain ⟨hr, kk⟩ := kk
    exact V_retW hC hR rfl zk dL_kindOf_16 hr kk
  · refine V_cH hC hR (As := [_]) ⟨lv_L_160.1, lm_L_160, lv_L_160.2.2.1, lv_L_160.2.2.2⟩ dL_kindOf_4 (d0 := 3) (Nat.le_of_ble_eq_true rfl) (Rm_of hgr) rv_0 rfl (Nat.le_of_ble_eq_true rfl) (Rk_of hgr ⟨Nat.le_refl _, Nat.le_refl _⟩) kk (noI fun _ _ q => q) (fun E9 M9 kk => ?_)
    have k8 := (show _ ∧ _ from kk)
    clear kk
    obtain ⟨rfl, kk⟩ := k8
    refine ⟨12, ⟨[], [], (0, 9, 12, 13), rfl, fun z hz => absurd hz List.not_mem_nil, by decide, by decide, (wa_4 162 rfl rfl), wn_4 23 rfl rfl, rfl⟩, fun q9 => ?_⟩
    refine V_astore_n hC (lv' := [(3, _), (0, _), (1, _), (2, _)]) (Nat.le_of_ble_eq_true rfl) rfl dL_kindOf_12 ?_
    refine V_iconst hC dL_kindOf_13 ?_
    obtain ⟨hr, kk⟩ := kk
    exact V_retW hC hR rfl (by rw [hgr]; exact ⟨Nat.le_refl _, Nat.le_refl _⟩) dL_kindOf_14 hr kk
abbrev md_L_lengthOf : Md := (yL_lengthOf, cL_lengthOf, 4, (some .int), 3)
abbrev hh_L_lengthOf : List (Nat × Nat × Nat × Nat) := [(0, 9, 12, 13)]
theorem mk_L_lengthOf : MkW md_L_lengthOf hh_L_lengthOf 3 := ⟨by decide +kernel, (wa_7 126 rfl rfl), (wa_1 0 rfl rfl), by decide +kernel, by decide⟩
def T_L_lengthOf (G : GT) (Q : Int → Mem → (Nat → Int64) → Prop) (qo : Nat) (x1 : Int) (M : Mem) (f : Nat → Int64) : Prop := (OkI (gB G) (gl G) md_X11_lengthOf 0 0 [.ref (ad (gB G) 0), .int (I x1)] (Xo (gB G) qo f) M (fun r4 M1 => inR r4 → (∀ f1 : Nat → Int64, f1 = vp_updL f 0 ((I r4).toInt64) → (inR (0 : Int) ∧ Q (0 : Int) M1 f1))) NoX ∨ OkI (gB G) (gl G) md_X11_lengthOf 1 6 [.ref (ad (gB G) 0), .int (I x1)] (Xo (gB G) qo f) M (fun _ _ => False) (fun E9 M1 => (E9 = "java/lang/IndexOutOfBoundsException" ∧ (inR (1 : Int) ∧ Q (1 : Int) M1 f))))
set_option maxRecDepth 100000 in
set_option maxHeartbeats 4000000 in
theorem ok_L_lengthOf {B : WB} {l : Launch} {qo : Nat} {f : Nat → Int64} {M : Mem} {Q : Int → Mem → (Nat → Int64) → Prop} {x1 : Int} (hl : l.stackTraces = false) (body : ∀ G : GT, gB G = B → gl G = l → T_L_lengthOf G Q qo x1 M f) : OkW B l md_L_lengthOf hh_L_lengthOf [.ref (ad B 0), .int (I x1), .ref qo] qo f M Q := by
  refine OkW_of mk_L_lengthOf hl (Nat.le_of_ble_eq_true rfl) (fun G hC hR hg => ?_)
  have kk := body G hg.1 hg.2.2
  obtain ⟨rfl, hgr, rfl⟩ := hg
  unfold T_L_lengthOf at kk
  refine V_aload_n hC 2 rfl dL_lengthOf_0 ?_
  refine V_iconst hC dL_lengthOf_1 ?_
  refine V_aload_n hC 0 rfl dL_lengthOf_2 ?_
  refine V_iload_n hC 1 rfl dL_lengthOf_3 ?_
  rcases kk with kk | kk
  · refine V_cVi hC (As := [_]) lv_L_163 dL_lengthOf_4 (d0 := 3) (Nat.le_of_ble_eq_true rfl) (Rm_of hgr) rv_0 rfl (Nat.le_of_ble_eq_true rfl) zk kk (fun r9 M9 z kk => ?_)
    replace kk := kk z
    refine V_i2l hC dL_lengthOf_7 ?_
    refine V_lastW hC dL_lengthOf_8 ?_
    replace kk := kk _ rfl
    refine V_goto hC 15 rfl dL_lengthOf_9 ?_
    refine V_iconst hC dL_lengthOf_15 ?_
    obtain ⟨hr, kk⟩ := kk
    exact V_retW hC hR rfl zk dL_lengthOf_16 hr kk
  · refine V_cH hC hR (As := [_]) ⟨lv_L_163.1, lm_L_163, lv_L_163.2.2.1, lv_L_163.2.2.2⟩ dL_lengthOf_4 (d0 := 3) (Nat.le_of_ble_eq_true rfl) (Rm_of hgr) rv_0 rfl (Nat.le_of_ble_eq_true rfl) (Rk_of hgr ⟨Nat.le_refl _, Nat.le_refl _⟩) kk (noI fun _ _ q => q) (fun E9 M9 kk => ?_)
    have k8 := (show _ ∧ _ from kk)
    clear kk
    obtain ⟨rfl, kk⟩ := k8
    refine ⟨12, ⟨[], [], (0, 9, 12, 13), rfl, fun z hz => absurd hz List.not_mem_nil, by decide, by decide, (wa_4 162 rfl rfl), wn_4 23 rfl rfl, rfl⟩, fun q9 => ?_⟩
    refine V_astore_n hC (lv' := [(3, _), (0, _), (1, _), (2, _)]) (Nat.le_of_ble_eq_true rfl) rfl dL_lengthOf_12 ?_
    refine V_iconst hC dL_lengthOf_13 ?_
    obtain ⟨hr, kk⟩ := kk
    exact V_retW hC hR rfl (by rw [hgr]; exact ⟨Nat.le_refl _, Nat.le_refl _⟩) dL_lengthOf_14 hr kk
abbrev md_L_wordsOf : Md := (yL_wordsOf, cL_wordsOf, 4, (some .int), 3)
abbrev hh_L_wordsOf : List (Nat × Nat × Nat × Nat) := [(0, 9, 12, 13)]
theorem mk_L_wordsOf : MkW md_L_wordsOf hh_L_wordsOf 3 := ⟨by decide +kernel, (wa_7 130 rfl rfl), (wa_1 0 rfl rfl), by decide +kernel, by decide⟩
def T_L_wordsOf (G : GT) (Q : Int → Mem → (Nat → Int64) → Prop) (qo : Nat) (x1 : Int) (M : Mem) (f : Nat → Int64) : Prop := (OkI (gB G) (gl G) md_X11_wordsOf 0 0 [.ref (ad (gB G) 0), .int (I x1)] (Xo (gB G) qo f) M (fun r4 M1 => inR r4 → (∀ f1 : Nat → Int64, f1 = vp_updL f 0 ((I r4).toInt64) → (inR (0 : Int) ∧ Q (0 : Int) M1 f1))) NoX ∨ OkI (gB G) (gl G) md_X11_wordsOf 1 6 [.ref (ad (gB G) 0), .int (I x1)] (Xo (gB G) qo f) M (fun _ _ => False) (fun E9 M1 => (E9 = "java/lang/IndexOutOfBoundsException" ∧ (inR (1 : Int) ∧ Q (1 : Int) M1 f))))
set_option maxRecDepth 100000 in
set_option maxHeartbeats 4000000 in
theorem ok_L_wordsOf {B : WB} {l : Launch} {qo : Nat} {f : Nat → Int64} {M : Mem} {Q : Int → Mem → (Nat → Int64) → Prop} {x1 : Int} (hl : l.stackTraces = false) (body : ∀ G : GT, gB G = B → gl G = l → T_L_wordsOf G Q qo x1 M f) : OkW B l md_L_wordsOf hh_L_wordsOf [.ref (ad B 0), .int (I x1), .ref qo] qo f M Q := by
  refine OkW_of mk_L_wordsOf hl (Nat.le_of_ble_eq_true rfl) (fun G hC hR hg => ?_)
  have kk := body G hg.1 hg.2.2
  obtain ⟨rfl, hgr, rfl⟩ := hg
  unfold T_L_wordsOf at kk
  refine V_aload_n hC 2 rfl dL_wordsOf_0 ?_
  refine V_iconst hC dL_wordsOf_1 ?_
  refine V_aload_n hC 0 rfl dL_wordsOf_2 ?_
  refine V_iload_n hC 1 rfl dL_wordsOf_3 ?_
  rcases kk with kk | kk
  · refine V_cVi hC (As := [_]) lv_L_166 dL_wordsOf_4 (d0 := 3) (Nat.le_of_ble_eq_true rfl) (Rm_of hgr) rv_0 rfl (Nat.le_of_ble_eq_true rfl) zk kk (fun r9 M9 z kk => ?_)
    replace kk := kk z
    refine V_i2l hC dL_wordsOf_7 ?_
    refine V_lastW hC dL_wordsOf_8 ?_
    replace kk := kk _ rfl
    refine V_goto hC 15 rfl dL_wordsOf_9 ?_
    refine V_iconst hC dL_wordsOf_15 ?_
    obtain ⟨hr, kk⟩ := kk
    exact V_retW hC hR rfl zk dL_wordsOf_16 hr kk
  · refine V_cH hC hR (As := [_]) ⟨lv_L_166.1, lm_L_166, lv_L_166.2.2.1, lv_L_166.2.2.2⟩ dL_wordsOf_4 (d0 := 3) (Nat.le_of_ble_eq_true rfl) (Rm_of hgr) rv_0 rfl (Nat.le_of_ble_eq_true rfl) (Rk_of hgr ⟨Nat.le_refl _, Nat.le_refl _⟩) kk (noI fun _ _ q => q) (fun E9 M9 kk => ?_)
    have k8 := (show _ ∧ _ from kk)
    clear kk
    obtain ⟨rfl, kk⟩ := k8
    refine ⟨12, ⟨[], [], (0, 9, 12, 13), rfl, fun z hz => absurd hz List.not_mem_nil, by decide, by decide, (wa_4 162 rfl rfl), wn_4 23 rfl rfl, rfl⟩, fun q9 => ?_⟩
    refine V_astore_n hC (lv' := [(3, _), (0, _), (1, _), (2, _)]) (Nat.le_of_ble_eq_true rfl) rfl dL_wordsOf_12 ?_
    refine V_iconst hC dL_wordsOf_13 ?_
    obtain ⟨hr, kk⟩ := kk
    exact V_retW hC hR rfl (by rw [hgr]; exact ⟨Nat.le_refl _, Nat.le_refl _⟩) dL_wordsOf_14 hr kk
abbrev md_L_ageOf : Md := (yL_ageOf, cL_ageOf, 4, (some .int), 3)
abbrev hh_L_ageOf : List (Nat × Nat × Nat × Nat) := [(0, 9, 12, 13)]
theorem mk_L_ageOf : MkW md_L_ageOf hh_L_ageOf 3 := ⟨by decide +kernel, (wa_7 134 rfl rfl), (wa_1 0 rfl rfl), by decide +kernel, by decide⟩
def T_L_ageOf (G : GT) (Q : Int → Mem → (Nat → Int64) → Prop) (qo : Nat) (x1 : Int) (M : Mem) (f : Nat → Int64) : Prop := (OkI (gB G) (gl G) md_X11_ageOf 0 0 [.ref (ad (gB G) 0), .int (I x1)] (Xo (gB G) qo f) M (fun r4 M1 => inR r4 → (∀ f1 : Nat → Int64, f1 = vp_updL f 0 ((I r4).toInt64) → (inR (0 : Int) ∧ Q (0 : Int) M1 f1))) NoX ∨ OkI (gB G) (gl G) md_X11_ageOf 1 6 [.ref (ad (gB G) 0), .int (I x1)] (Xo (gB G) qo f) M (fun _ _ => False) (fun E9 M1 => (E9 = "java/lang/IndexOutOfBoundsException" ∧ (inR (1 : Int) ∧ Q (1 : Int) M1 f))))
set_option maxRecDepth 100000 in
set_option maxHeartbeats 4000000 in
theorem ok_L_ageOf {B : WB} {l : Launch} {qo : Nat} {f : Nat → Int64} {M : Mem} {Q : Int → Mem → (Nat → Int64) → Prop} {x1 : Int} (hl : l.stackTraces = false) (body : ∀ G : GT, gB G = B → gl G = l → T_L_ageOf G Q qo x1 M f) : OkW B l md_L_ageOf hh_L_ageOf [.ref (ad B 0), .int (I x1), .ref qo] qo f M Q := by
  refine OkW_of mk_L_ageOf hl (Nat.le_of_ble_eq_true rfl) (fun G hC hR hg => ?_)
  have kk := body G hg.1 hg.2.2
  obtain ⟨rfl, hgr, rfl⟩ := hg
  unfold T_L_ageOf at kk
  refine V_aload_n hC 2 rfl dL_ageOf_0 ?_
  refine V_iconst hC dL_ageOf_1 ?_
  refine V_aload_n hC 0 rfl dL_ageOf_2 ?_
  refine V_iload_n hC 1 rfl dL_ageOf_3 ?_
  rcases kk with kk | kk
  · refine V_cVi hC (As := [_]) lv_L_169 dL_ageOf_4 (d0 := 3) (Nat.le_of_ble_eq_true rfl) (Rm_of hgr) rv_0 rfl (Nat.le_of_ble_eq_true rfl) zk kk (fun r9 M9 z kk => ?_)
    replace kk := kk z
    refine V_i2l hC dL_ageOf_7 ?_
    refine V_lastW hC dL_ageOf_8 ?_
    replace kk := kk _ rfl
    refine V_goto hC 15 rfl dL_ageOf_9 ?_
    refine V_iconst hC dL_ageOf_15 ?_
    obtain ⟨hr, kk⟩ := kk
    exact V_retW hC hR rfl zk dL_ageOf_16 hr kk
  · refine V_cH hC hR (As := [_]) ⟨lv_L_169.1, lm_L_169, lv_L_169.2.2.1, lv_L_169.2.2.2⟩ dL_ageOf_4 (d0 := 3) (Nat.le_of_ble_eq_true rfl) (Rm_of hgr) rv_0 rfl (Nat.le_of_ble_eq_true rfl) (Rk_of hgr ⟨Nat.le_refl _, Nat.le_refl _⟩) kk (noI fun _ _ q => q) (fun E9 M9 kk => ?_)
    have k8 := (show _ ∧ _ from kk)
    clear kk
    obtain ⟨rfl, kk⟩ := k8
    refine ⟨12, ⟨[], [], (0, 9, 12, 13), rfl, fun z hz => absurd hz List.not_mem_nil, by decide, by decide, (wa_4 162 rfl rfl), wn_4 23 rfl rfl, rfl⟩, fun q9 => ?_⟩
    refine V_astore_n hC (lv' := [(3, _), (0, _), (1, _), (2, _)]) (Nat.le_of_ble_eq_true rfl) rfl dL_ageOf_12 ?_
    refine V_iconst hC dL_ageOf_13 ?_
    obtain ⟨hr, kk⟩ := kk
    exact V_retW hC hR rfl (by rw [hgr]; exact ⟨Nat.le_refl _, Nat.le_refl _⟩) dL_ageOf_14 hr kk
abbrev md_L_isOld : Md := (yL_isOld, cL_isOld, 4, (some .int), 3)
abbrev hh_L_isOld : List (Nat × Nat × Nat × Nat) := [(0, 16, 19, 13)]
theorem mk_L_isOld : MkW md_L_isOld hh_L_isOld 3 := ⟨by decide +kernel, (wa_7 138 rfl rfl), (wa_1 0 rfl rfl), by decide +kernel, by decide⟩
def T_L_isOld (G : GT) (Q : Int → Mem → (Nat → Int64) → Prop) (qo : Nat) (x1 : Int) (M : Mem) (f : Nat → Int64) : Prop := (OkI (gB G) (gl G) md_X11_isOld 0 0 [.ref (ad (gB G) 0), .int (I x1)] (Xo (gB G) qo f) M (fun r4 M1 => inR r4 → (inR r4 ∧ (r4 = 0 → (∀ f1 : Nat → Int64, f1 = vp_updL f 0 (0 : Int64) → (inR (0 : Int) ∧ Q (0 : Int) M1 f1))) ∧ (r4 ≠ 0 → (∀ f1 : Nat → Int64, f1 = vp_updL f 0 (1 : Int64) → (inR (0 : Int) ∧ Q (0 : Int) M1 f1))))) NoX ∨ OkI (gB G) (gl G) md_X11_isOld 1 6 [.ref (ad (gB G) 0), .int (I x1)] (Xo (gB G) qo f) M (fun _ _ => False) (fun E9 M1 => (E9 = "java/lang/IndexOutOfBoundsException" ∧ (inR (1 : Int) ∧ Q (1 : Int) M1 f))))
set_option maxRecDepth 100000 in
set_option maxHeartbeats 4000000 in
theorem ok_L_isOld {B : WB} {l : Launch} {qo : Nat} {f : Nat → Int64} {M : Mem} {Q : Int → Mem → (Nat → Int64) → Prop} {x1 : Int} (hl : l.stackTraces = false) (body : ∀ G : GT, gB G = B → gl G = l → T_L_isOld G Q qo x1 M f) : OkW B l md_L_isOld hh_L_isOld [.ref (ad B 0), .int (I x1), .ref qo] qo f M Q := by
  refine OkW_of mk_L_isOld hl (Nat.le_of_ble_eq_true rfl) (fun G hC hR hg => ?_)
  have kk := body G hg.1 hg.2.2
  obtain ⟨rfl, hgr, rfl⟩ := hg
  unfold T_L_isOld at kk
  refine V_aload_n hC 2 rfl dL_isOld_0 ?_
  refine V_iconst hC dL_isOld_1 ?_
  refine V_aload_n hC 0 rfl dL_isOld_2 ?_
  refine V_iload_n hC 1 rfl dL_isOld_3 ?_
  rcases kk with kk | kk
  · refine V_cVi hC (As := [_]) lv_L_172 dL_isOld_4 (d0 := 3) (Nat.le_of_ble_eq_true rfl) (Rm_of hgr) rv_0 rfl (Nat.le_of_ble_eq_true rfl) zk kk (fun r9 M9 z kk => ?_)
    replace kk := kk z
    obtain ⟨ha, k1, k2⟩ := kk
    refine V_if_eq hC 14 rfl dL_isOld_7 ⟨ha, fun z => ?_, fun z => ?_⟩
    · replace kk := k1 z; clear k1 k2
      refine V_lconst hC 0 rfl dL_isOld_14 ?_
      refine V_lastW hC dL_isOld_15 ?_
      replace kk := kk _ rfl
      refine V_goto hC 22 rfl dL_isOld_16 ?_
      refine V_iconst hC dL_isOld_22 ?_
      obtain ⟨hr, kk⟩ := kk
      exact V_retW hC hR rfl zk dL_isOld_23 hr kk
    · replace kk := k2 z; clear k1 k2
      refine V_lconst hC 1 rfl dL_isOld_10 ?_
      refine V_goto hC 15 rfl dL_isOld_11 ?_
      refine V_lastW hC dL_isOld_15 ?_
      replace kk := kk _ rfl
      refine V_goto hC 22 rfl dL_isOld_16 ?_
      refine V_iconst hC dL_isOld_22 ?_
      obtain ⟨hr, kk⟩ := kk
      exact V_retW hC hR rfl zk dL_isOld_23 hr kk
  · refine V_cH hC hR (As := [_]) ⟨lv_L_172.1, lm_L_172, lv_L_172.2.2.1, lv_L_172.2.2.2⟩ dL_isOld_4 (d0 := 3) (Nat.le_of_ble_eq_true rfl) (Rm_of hgr) rv_0 rfl (Nat.le_of_ble_eq_true rfl) (Rk_of hgr ⟨Nat.le_refl _, Nat.le_refl _⟩) kk (noI fun _ _ q => q) (fun E9 M9 kk => ?_)
    have k8 := (show _ ∧ _ from kk)
    clear kk
    obtain ⟨rfl, kk⟩ := k8
    refine ⟨19, ⟨[], [], (0, 16, 19, 13), rfl, fun z hz => absurd hz List.not_mem_nil, by decide, by decide, (wa_4 162 rfl rfl), wn_4 23 rfl rfl, rfl⟩, fun q9 => ?_⟩
    refine V_astore_n hC (lv' := [(3, _), (0, _), (1, _), (2, _)]) (Nat.le_of_ble_eq_true rfl) rfl dL_isOld_19 ?_
    refine V_iconst hC dL_isOld_20 ?_
    obtain ⟨hr, kk⟩ := kk
    exact V_retW hC hR rfl (by rw [hgr]; exact ⟨Nat.le_refl _, Nat.le_refl _⟩) dL_isOld_21 hr kk
abbrev md_L_isFinalized : Md := (yL_isFinalized, cL_isFinalized, 4, (some .int), 3)
abbrev hh_L_isFinalized : List (Nat × Nat × Nat × Nat) := [(0, 16, 19, 13)]
theorem mk_L_isFinalized : MkW md_L_isFinalized hh_L_isFinalized 3 := ⟨by decide +kernel, (wa_7 142 rfl rfl), (wa_1 0 rfl rfl), by decide +kernel, by decide⟩
def T_L_isFinalized (G : GT) (Q : Int → Mem → (Nat → Int64) → Prop) (qo : Nat) (x1 : Int) (M : Mem) (f : Nat → Int64) : Prop := (OkI (gB G) (gl G) md_X11_isFinalized 0 0 [.ref (ad (gB G) 0), .int (I x1)] (Xo (gB G) qo f) M (fun r4 M1 => inR r4 → (inR r4 ∧ (r4 = 0 → (∀ f1 : Nat → Int64, f1 = vp_updL f 0 (0 : Int64) → (inR (0 : Int) ∧ Q (0 : Int) M1 f1))) ∧ (r4 ≠ 0 → (∀ f1 : Nat → Int64, f1 = vp_updL f 0 (1 : Int64) → (inR (0 : Int) ∧ Q (0 : Int) M1 f1))))) NoX ∨ OkI (gB G) (gl G) md_X11_isFinalized 1 6 [.ref (ad (gB G) 0), .int (I x1)] (Xo (gB G) qo f) M (fun _ _ => False) (fun E9 M1 => (E9 = "java/lang/IndexOutOfBoundsException" ∧ (inR (1 : Int) ∧ Q (1 : Int) M1 f))))
set_option maxRecDepth 100000 in
set_option maxHeartbeats 4000000 in
theorem ok_L_isFinalized {B : WB} {l : Launch} {qo : Nat} {f : Nat → Int64} {M : Mem} {Q : Int → Mem → (Nat → Int64) → Prop} {x1 : Int} (hl : l.stackTraces = false) (body : ∀ G : GT, gB G = B → gl G = l → T_L_isFinalized G Q qo x1 M f) : OkW B l md_L_isFinalized hh_L_isFinalized [.ref (ad B 0), .int (I x1), .ref qo] qo f M Q := by
  refine OkW_of mk_L_isFinalized hl (Nat.le_of_ble_eq_true rfl) (fun G hC hR hg => ?_)
  have kk := body G hg.1 hg.2.2
  obtain ⟨rfl, hgr, rfl⟩ := hg
  unfold T_L_isFinalized at kk
  refine V_aload_n hC 2 rfl dL_isFinalized_0 ?_
  refine V_iconst hC dL_isFinalized_1 ?_
  refine V_aload_n hC 0 rfl dL_isFinalized_2 ?_
  refine V_iload_n hC 1 rfl dL_isFinalized_3 ?_
  rcases kk with kk | kk
  · refine V_cVi hC (As := [_]) lv_L_175 dL_isFinalized_4 (d0 := 3) (Nat.le_of_ble_eq_true rfl) (Rm_of hgr) rv_0 rfl (Nat.le_of_ble_eq_true rfl) zk kk (fun r9 M9 z kk => ?_)
    replace kk := kk z
    obtain ⟨ha, k1, k2⟩ := kk
    refine V_if_eq hC 14 rfl dL_isFinalized_7 ⟨ha, fun z => ?_, fun z => ?_⟩
    · replace kk := k1 z; clear k1 k2
      refine V_lconst hC 0 rfl dL_isFinalized_14 ?_
      refine V_lastW hC dL_isFinalized_15 ?_
      replace kk := kk _ rfl
      refine V_goto hC 22 rfl dL_isFinalized_16 ?_
      refine V_iconst hC dL_isFinalized_22 ?_
      obtain ⟨hr, kk⟩ := kk
      exact V_retW hC hR rfl zk dL_isFinalized_23 hr kk
    · replace kk := k2 z; clear k1 k2
      refine V_lconst hC 1 rfl dL_isFinalized_10 ?_
      refine V_goto hC 15 rfl dL_isFinalized_11 ?_
      refine V_lastW hC dL_isFinalized_15 ?_
      replace kk := kk _ rfl
      refine V_goto hC 22 rfl dL_isFinalized_16 ?_
      refine V_iconst hC dL_isFinalized_22 ?_
      obtain ⟨hr, kk⟩ := kk
      exact V_retW hC hR rfl zk dL_isFinalized_23 hr kk
  · refine V_cH hC hR (As := [_]) ⟨lv_L_175.1, lm_L_175, lv_L_175.2.2.1, lv_L_175.2.2.2⟩ dL_isFinalized_4 (d0 := 3) (Nat.le_of_ble_eq_true rfl) (Rm_of hgr) rv_0 rfl (Nat.le_of_ble_eq_true rfl) (Rk_of hgr ⟨Nat.le_refl _, Nat.le_refl _⟩) kk (noI fun _ _ q => q) (fun E9 M9 kk => ?_)
    have k8 := (show _ ∧ _ from kk)
    clear kk
    obtain ⟨rfl, kk⟩ := k8
    refine ⟨19, ⟨[], [], (0, 16, 19, 13), rfl, fun z hz => absurd hz List.not_mem_nil, by decide, by decide, (wa_4 162 rfl rfl), wn_4 23 rfl rfl, rfl⟩, fun q9 => ?_⟩
    refine V_astore_n hC (lv' := [(3, _), (0, _), (1, _), (2, _)]) (Nat.le_of_ble_eq_true rfl) rfl dL_isFinalized_19 ?_
    refine V_iconst hC dL_isFinalized_20 ?_
    obtain ⟨hr, kk⟩ := kk
    exact V_retW hC hR rfl (by rw [hgr]; exact ⟨Nat.le_refl _, Nat.le_refl _⟩) dL_isFinalized_21 hr kk
abbrev md_L_isInterned : Md := (yL_isInterned, cL_isInterned, 4, (some .int), 3)
abbrev hh_L_isInterned : List (Nat × Nat × Nat × Nat) := [(0, 16, 19, 13)]
theorem mk_L_isInterned : MkW md_L_isInterned hh_L_isInterned 3 := ⟨by decide +kernel, (wa_7 146 rfl rfl), (wa_1 0 rfl rfl), by decide +kernel, by decide⟩
def T_L_isInterned (G : GT) (Q : Int → Mem → (Nat → Int64) → Prop) (qo : Nat) (x1 : Int) (M : Mem) (f : Nat → Int64) : Prop := (OkI (gB G) (gl G) md_X11_isInterned 0 0 [.ref (ad (gB G) 0), .int (I x1)] (Xo (gB G) qo f) M (fun r4 M1 => inR r4 → (inR r4 ∧ (r4 = 0 → (∀ f1 : Nat → Int64, f1 = vp_updL f 0 (0 : Int64) → (inR (0 : Int) ∧ Q (0 : Int) M1 f1))) ∧ (r4 ≠ 0 → (∀ f1 : Nat → Int64, f1 = vp_updL f 0 (1 : Int64) → (inR (0 : Int) ∧ Q (0 : Int) M1 f1))))) NoX ∨ OkI (gB G) (gl G) md_X11_isInterned 1 6 [.ref (ad (gB G) 0), .int (I x1)] (Xo (gB G) qo f) M (fun _ _ => False) (fun E9 M1 => (E9 = "java/lang/IndexOutOfBoundsException" ∧ (inR (1 : Int) ∧ Q (1 : Int) M1 f))))
set_option maxRecDepth 100000 in
set_option maxHeartbeats 4000000 in
theorem ok_L_isInterned {B : WB} {l : Launch} {qo : Nat} {f : Nat → Int64} {M : Mem} {Q : Int → Mem → (Nat → Int64) → Prop} {x1 : Int} (hl : l.stackTraces = false) (body : ∀ G : GT, gB G = B → gl G = l → T_L_isInterned G Q qo x1 M f) : OkW B l md_L_isInterned hh_L_isInterned [.ref (ad B 0), .int (I x1), .ref qo] qo f M Q := by
  refine OkW_of mk_L_isInterned hl (Nat.le_of_ble_eq_true rfl) (fun G hC hR hg => ?_)
  have kk := body G hg.1 hg.2.2
  obtain ⟨rfl, hgr, rfl⟩ := hg
  unfold T_L_isInterned at kk
  refine V_aload_n hC 2 rfl dL_isInterned_0 ?_
  refine V_iconst hC dL_isInterned_1 ?_
  refine V_aload_n hC 0 rfl dL_isInterned_2 ?_
  refine V_iload_n hC 1 rfl dL_isInterned_3 ?_
  rcases kk with kk | kk
  · refine V_cVi hC (As := [_]) lv_L_178 dL_isInterned_4 (d0 := 3) (Nat.le_of_ble_eq_true rfl) (Rm_of hgr) rv_0 rfl (Nat.le_of_ble_eq_true rfl) zk kk (fun r9 M9 z kk => ?_)
    replace kk := kk z
    obtain ⟨ha, k1, k2⟩ := kk
    refine V_if_eq hC 14 rfl dL_isInterned_7 ⟨ha, fun z => ?_, fun z => ?_⟩
    · replace kk := k1 z; clear k1 k2
      refine V_lconst hC 0 rfl dL_isInterned_14 ?_
      refine V_lastW hC dL_isInterned_15 ?_
      replace kk := kk _ rfl
      refine V_goto hC 22 rfl dL_isInterned_16 ?_
      refine V_iconst hC dL_isInterned_22 ?_
      obtain ⟨hr, kk⟩ := kk
      exact V_retW hC hR rfl zk dL_isInterned_23 hr kk
    · replace kk := k2 z; clear k1 k2
      refine V_lconst hC 1 rfl dL_isInterned_10 ?_
      refine V_goto hC 15 rfl dL_isInterned_11 ?_
      refine V_lastW hC dL_isInterned_15 ?_
      replace kk := kk _ rfl
      refine V_goto hC 22 rfl dL_isInterned_16 ?_
      refine V_iconst hC dL_isInterned_22 ?_
      obtain ⟨hr, kk⟩ := kk
      exact V_retW hC hR rfl zk dL_isInterned_23 hr kk
  · refine V_cH hC hR (As := [_]) ⟨lv_L_178.1, lm_L_178, lv_L_178.2.2.1, lv_L_178.2.2.2⟩ dL_isInterned_4 (d0 := 3) (Nat.le_of_ble_eq_true rfl) (Rm_of hgr) rv_0 rfl (Nat.le_of_ble_eq_true rfl) (Rk_of hgr ⟨Nat.le_refl _, Nat.le_refl _⟩) kk (noI fun _ _ q => q) (fun E9 M9 kk => ?_)
    have k8 := (show _ ∧ _ from kk)
    clear kk
    obtain ⟨rfl, kk⟩ := k8
    refine ⟨19, ⟨[], [], (0, 16, 19, 13), rfl, fun z hz => absurd hz List.not_mem_nil, by decide, by decide, (wa_4 162 rfl rfl), wn_4 23 rfl rfl, rfl⟩, fun q9 => ?_⟩
    refine V_astore_n hC (lv' := [(3, _), (0, _), (1, _), (2, _)]) (Nat.le_of_ble_eq_true rfl) rfl dL_isInterned_19 ?_
    refine V_iconst hC dL_isInterned_20 ?_
    obtain ⟨hr, kk⟩ := kk
    exact V_retW hC hR rfl (by rw [hgr]; exact ⟨Nat.le_refl _, Nat.le_refl _⟩) dL_isInterned_21 hr kk
abbrev md_L_isCleared : Md := (yL_isCleared, cL_isCleared, 4, (some .int), 3)
abbrev hh_L_isCleared : List (Nat × Nat × Nat × Nat) := [(0, 16, 19, 13)]
theorem mk_L_isCleared : MkW md_L_isCleared hh_L_isCleared 3 := ⟨by decide +kernel, (wa_7 150 rfl rfl), (wa_1 0 rfl rfl), by decide +kernel, by decide⟩
def T_L_isCleared (G : GT) (Q : Int → Mem → (Nat → Int64) → Prop) (qo : Nat) (x1 : Int) (M : Mem) (f : Nat → Int64) : Prop := (OkI (gB G) (gl G) md_X11_isCleared 0 0 [.ref (ad (gB G) 0), .int (I x1)] (Xo (gB G) qo f) M (fun r4 M1 => inR r4 → (inR r4 ∧ (r4 = 0 → (∀ f1 : Nat → Int64, f1 = vp_updL f 0 (0 : Int64) → (inR (0 : Int) ∧ Q (0 : Int) M1 f1))) ∧ (r4 ≠ 0 → (∀ f1 : Nat → Int64, f1 = vp_updL f 0 (1 : Int64) → (inR (0 : Int) ∧ Q (0 : Int) M1 f1))))) NoX ∨ OkI (gB G) (gl G) md_X11_isCleared 1 6 [.ref (ad (gB G) 0), .int (I x1)] (Xo (gB G) qo f) M (fun _ _ => False) (fun E9 M1 => (E9 = "java/lang/IndexOutOfBoundsException" ∧ (inR (1 : Int) ∧ Q (1 : Int) M1 f))))
set_option maxRecDepth 100000 in
set_option maxHeartbeats 4000000 in
theorem ok_L_isCleared {B : WB} {l : Launch} {qo : Nat} {f : Nat → Int64} {M : Mem} {Q : Int → Mem → (Nat → Int64) → Prop} {x1 : Int} (hl : l.stackTraces = false) (body : ∀ G : GT, gB G = B → gl G = l → T_L_isCleared G Q qo x1 M f) : OkW B l md_L_isCleared hh_L_isCleared [.ref (ad B 0), .int (I x1), .ref qo] qo f M Q := by
  refine OkW_of mk_L_isCleared hl (Nat.le_of_ble_eq_true rfl) (fun G hC hR hg => ?_)
  have kk := body G hg.1 hg.2.2
  obtain ⟨rfl, hgr, rfl⟩ := hg
  unfold T_L_isCleared at kk
  refine V_aload_n hC 2 rfl dL_isCleared_0 ?_
  refine V_iconst hC dL_isCleared_1 ?_
  refine V_aload_n hC 0 rfl dL_isCleared_2 ?_
  refine V_iload_n hC 1 rfl dL_isCleared_3 ?_
  rcases kk with kk | kk
  · refine V_cVi hC (As := [_]) lv_L_181 dL_isCleared_4 (d0 := 3) (Nat.le_of_ble_eq_true rfl) (Rm_of hgr) rv_0 rfl (Nat.le_of_ble_eq_true rfl) zk kk (fun r9 M9 z kk => ?_)
    replace kk := kk z
    obtain ⟨ha, k1, k2⟩ := kk
    refine V_if_eq hC 14 rfl dL_isCleared_7 ⟨ha, fun z => ?_, fun z => ?_⟩
    · replace kk := k1 z; clear k1 k2
      refine V_lconst hC 0 rfl dL_isCleared_14 ?_
      refine V_lastW hC dL_isCleared_15 ?_
      replace kk := kk _ rfl
      refine V_goto hC 22 rfl dL_isCleared_16 ?_
      refine V_iconst hC dL_isCleared_22 ?_
      obtain ⟨hr, kk⟩ := kk
      exact V_retW hC hR rfl zk dL_isCleared_23 hr kk
    · replace kk := k2 z; clear k1 k2
      refine V_lconst hC 1 rfl dL_isCleared_10 ?_
      refine V_goto hC 15 rfl dL_isCleared_11 ?_
      refine V_lastW hC dL_isCleared_15 ?_
      replace kk := kk _ rfl
      refine V_goto hC 22 rfl dL_isCleared_16 ?_
      refine V_iconst hC dL_isCleared_22 ?_
      obtain ⟨hr, kk⟩ := kk
      exact V_retW hC hR rfl zk dL_isCleared_23 hr kk
  · refine V_cH hC hR (As := [_]) ⟨lv_L_181.1, lm_L_181, lv_L_181.2.2.1, lv_L_181.2.2.2⟩ dL_isCleared_4 (d0 := 3) (Nat.le_of_ble_eq_true rfl) (Rm_of hgr) rv_0 rfl (Nat.le_of_ble_eq_true rfl) (Rk_of hgr ⟨Nat.le_refl _, Nat.le_refl _⟩) kk (noI fun _ _ q => q) (fun E9 M9 kk => ?_)
    have k8 := (show _ ∧ _ from kk)
    clear kk
    obtain ⟨rfl, kk⟩ := k8
    refine ⟨19, ⟨[], [], (0, 16, 19, 13), rfl, fun z hz => absurd hz List.not_mem_nil, by decide, by decide, (wa_4 162 rfl rfl), wn_4 23 rfl rfl, rfl⟩, fun q9 => ?_⟩
    refine V_astore_n hC (lv' := [(3, _), (0, _), (1, _), (2, _)]) (Nat.le_of_ble_eq_true rfl) rfl dL_isCleared_19 ?_
    refine V_iconst hC dL_isCleared_20 ?_
    obtain ⟨hr, kk⟩ := kk
    exact V_retW hC hR rfl (by rw [hgr]; exact ⟨Nat.le_refl _, Nat.le_refl _⟩) dL_isCleared_21 hr kk
abbrev md_L_entriesOf : Md := (yL_entriesOf, cL_entriesOf, 4, (some .int), 3)
abbrev hh_L_entriesOf : List (Nat × Nat × Nat × Nat) := [(0, 9, 12, 13)]
theorem mk_L_entriesOf : MkW md_L_entriesOf hh_L_entriesOf 3 := ⟨by decide +kernel, (wa_7 154 rfl rfl), (wa_1 0 rfl rfl), by decide +kernel, by decide⟩
def T_L_entriesOf (G : GT) (Q : Int → Mem → (Nat → Int64) → Prop) (qo : Nat) (x1 : Int) (M : Mem) (f : Nat → Int64) : Prop := (OkI (gB G) (gl G) md_X11_entriesOf 0 0 [.ref (ad (gB G) 0), .int (I x1)] (Xo (gB G) qo f) M (fun r4 M1 => inR r4 → (∀ f1 : Nat → Int64, f1 = vp_updL f 0 ((I r4).toInt64) → (inR (0 : Int) ∧ Q (0 : Int) M1 f1))) NoX ∨ OkI (gB G) (gl G) md_X11_entriesOf 1 6 [.ref (ad (gB G) 0), .int (I x1)] (Xo (gB G) qo f) M (fun _ _ => False) (fun E9 M1 => (E9 = "java/lang/IndexOutOfBoundsException" ∧ (inR (1 : Int) ∧ Q (1 : Int) M1 f))))
set_option maxRecDepth 100000 in
set_option maxHeartbeats 4000000 in
theorem ok_L_entriesOf {B : WB} {l : Launch} {qo : Nat} {f : Nat → Int64} {M : Mem} {Q : Int → Mem → (Nat → Int64) → Prop} {x1 : Int} (hl : l.stackTraces = false) (body : ∀ G : GT, gB G = B → gl G = l → T_L_entriesOf G Q qo x1 M f) : OkW B l md_L_entriesOf hh_L_entriesOf [.ref (ad B 0), .int (I x1), .ref qo] qo f M Q := by
  refine OkW_of mk_L_entriesOf hl (Nat.le_of_ble_eq_true rfl) (fun G hC hR hg => ?_)
  have kk := body G hg.1 hg.2.2
  obtain ⟨rfl, hgr, rfl⟩ := hg
  unfold T_L_entriesOf at kk
  refine V_aload_n hC 2 rfl dL_entriesOf_0 ?_
  refine V_iconst hC dL_entriesOf_1 ?_
  refine V_aload_n hC 0 rfl dL_entriesOf_2 ?_
  refine V_iload_n hC 1 rfl dL_entriesOf_3 ?_
  rcases kk with kk | kk
  · refine V_cVi hC (As := [_]) lv_L_184 dL_entriesOf_4 (d0 := 3) (Nat.le_of_ble_eq_true rfl) (Rm_of hgr) rv_0 rfl (Nat.le_of_ble_eq_true rfl) zk kk (fun r9 M9 z kk => ?_)
    replace kk := kk z
    refine V_i2l hC dL_entriesOf_7 ?_
    refine V_lastW hC dL_entriesOf_8 ?_
    replace kk := kk _ rfl
    refine V_goto hC 15 rfl dL_entriesOf_9 ?_
    refine V_iconst hC dL_entriesOf_15 ?_
    obtain ⟨hr, kk⟩ := kk
    exact V_retW hC hR rfl zk dL_entriesOf_16 hr kk
  · refine V_cH hC hR (As := [_]) ⟨lv_L_184.1, lm_L_184, lv_L_184.2.2.1, lv_L_184.2.2.2⟩ dL_entriesOf_4 (d0 := 3) (Nat.le_of_ble_eq_true rfl) (Rm_of hgr) rv_0 rfl (Nat.le_of_ble_eq_true rfl) (Rk_of hgr ⟨Nat.le_refl _, Nat.le_refl _⟩) kk (noI fun _ _ q => q) (fun E9 M9 kk => ?_)
    have k8 := (show _ ∧ _ from kk)
    clear kk
    obtain ⟨rfl, kk⟩ := k8
    refine ⟨12, ⟨[], [], (0, 9, 12, 13), rfl, fun z hz => absurd hz List.not_mem_nil, by decide, by decide, (wa_4 162 rfl rfl), wn_4 23 rfl rfl, rfl⟩, fun q9 => ?_⟩
    refine V_astore_n hC (lv' := [(3, _), (0, _), (1, _), (2, _)]) (Nat.le_of_ble_eq_true rfl) rfl dL_entriesOf_12 ?_
    refine V_iconst hC dL_entriesOf_13 ?_
    obtain ⟨hr, kk⟩ := kk
    exact V_retW hC hR rfl (by rw [hgr]; exact ⟨Nat.le_refl _, Nat.le_refl _⟩) dL_entriesOf_14 hr kk
abbrev md_L_imageAt : Md := (yL_imageAt, cL_imageAt, 4, (some .int), 2)
abbrev hh_L_imageAt : List (Nat × Nat × Nat × Nat) := [(0, 9, 12, 13)]
theorem mk_L_imageAt : MkW md_L_imageAt hh_L_imageAt 3 := ⟨by decide +kernel, (wa_7 158 rfl rfl), (wa_1 0 rfl rfl), by decide +kernel, by decide⟩
def T_L_imageAt (G : GT) (Q : Int → Mem → (Nat → Int64) → Prop) (qo : Nat) (x1 : Int) (M : Mem) (f : Nat → Int64) : Prop := (OkI (gB G) (gl G) md_X11_imageAt 0 0 [.ref (ad (gB G) 0), .int (I x1)] (Xo (gB G) qo f) M (fun r4 M1 => inR r4 → (∀ f1 : Nat → Int64, f1 = vp_updL f 0 ((I r4).toInt64) → (inR (0 : Int) ∧ Q (0 : Int) M1 f1))) NoX ∨ OkI (gB G) (gl G) md_X11_imageAt 1 6 [.ref (ad (gB G) 0), .int (I x1)] (Xo (gB G) qo f) M (fun _ _ => False) (fun E9 M1 => (E9 = "java/lang/IndexOutOfBoundsException" ∧ (inR (1 : Int) ∧ Q (1 : Int) M1 f))))
set_option maxRecDepth 100000 in
set_option maxHeartbeats 4000000 in
theorem ok_L_imageAt {B : WB} {l : Launch} {qo : Nat} {f : Nat → Int64} {M : Mem} {Q : Int → Mem → (Nat → Int64) → Prop} {x1 : Int} (hl : l.stackTraces = false) (body : ∀ G : GT, gB G = B → gl G = l → T_L_imageAt G Q qo x1 M f) : OkW B l md_L_imageAt hh_L_imageAt [.ref (ad B 0), .int (I x1), .ref qo] qo f M Q := by
  refine OkW_of mk_L_imageAt hl (Nat.le_of_ble_eq_true rfl) (fun G hC hR hg => ?_)
  have kk := body G hg.1 hg.2.2
  obtain ⟨rfl, hgr, rfl⟩ := hg
  unfold T_L_imageAt at kk
  refine V_aload_n hC 2 rfl dL_imageAt_0 ?_
  refine V_iconst hC dL_imageAt_1 ?_
  refine V_aload_n hC 0 rfl dL_imageAt_2 ?_
  refine V_iload_n hC 1 rfl dL_imageAt_3 ?_
  rcases kk with kk | kk
  · refine V_cVi hC (As := [_]) lv_L_187 dL_imageAt_4 (d0 := 2) (Nat.le_of_ble_eq_true rfl) (Rm_of hgr) rv_0 rfl (Nat.le_of_ble_eq_true rfl) zk kk (fun r9 M9 z kk => ?_)
    replace kk := kk z
    refine V_i2l hC dL_imageAt_7 ?_
    refine V_lastW hC dL_imageAt_8 ?_
    replace kk := kk _ rfl
    refine V_goto hC 15 rfl dL_imageAt_9 ?_
    refine V_iconst hC dL_imageAt_15 ?_
    obtain ⟨hr, kk⟩ := kk
    exact V_retW hC hR rfl zk dL_imageAt_16 hr kk
  · refine V_cH hC hR (As := [_]) ⟨lv_L_187.1, lm_L_187, lv_L_187.2.2.1, lv_L_187.2.2.2⟩ dL_imageAt_4 (d0 := 2) (Nat.le_of_ble_eq_true rfl) (Rm_of hgr) rv_0 rfl (Nat.le_of_ble_eq_true rfl) (Rk_of hgr ⟨Nat.le_refl _, Nat.le_refl _⟩) kk (noI fun _ _ q => q) (fun E9 M9 kk => ?_)
    have k8 := (show _ ∧ _ from kk)
    clear kk
    obtain ⟨rfl, kk⟩ := k8
    refine ⟨12, ⟨[], [], (0, 9, 12, 13), rfl, fun z hz => absurd hz List.not_mem_nil, by decide, by decide, (wa_4 162 rfl rfl), wn_4 23 rfl rfl, rfl⟩, fun q9 => ?_⟩
    refine V_astore_n hC (lv' := [(3, _), (0, _), (1, _), (2, _)]) (Nat.le_of_ble_eq_true rfl) rfl dL_imageAt_12 ?_
    refine V_iconst hC dL_imageAt_13 ?_
    obtain ⟨hr, kk⟩ := kk
    exact V_retW hC hR rfl (by rw [hgr]; exact ⟨Nat.le_refl _, Nat.le_refl _⟩) dL_imageAt_14 hr kk
abbrev md_L_retained : Md := (yL_retained, cL_retained, 4, (some .int), 5)
abbrev hh_L_retained : List (Nat × Nat × Nat × Nat) := [(0, 9, 12, 13), (0, 9, 15, 15)]
theorem mk_L_retained : MkW md_L_retained hh_L_retained 3 := ⟨by decide +kernel, (wa_7 165 rfl rfl), (wa_1 0 rfl rfl), by decide +kernel, by decide⟩
def T_L_retained (G : GT) (Q : Int → Mem → (Nat → Int64) → Prop) (qo : Nat) (x1 : Int) (M : Mem) (f : Nat → Int64) : Prop := (OkI (gB G) (gl G) md_X11_retained 0 0 [.ref (ad (gB G) 0), .int (I x1)] (Xo (gB G) qo f) M (fun r4 M1 => inR r4 → (∀ f1 : Nat → Int64, f1 = vp_updL f 0 ((I r4).toInt64) → (inR (0 : Int) ∧ Q (0 : Int) M1 f1))) NoX ∨ OkI (gB G) (gl G) md_X11_retained 1 6 [.ref (ad (gB G) 0), .int (I x1)] (Xo (gB G) qo f) M (fun _ _ => False) (fun E9 M1 => (E9 = "java/lang/IndexOutOfBoundsException" ∧ (inR (1 : Int) ∧ Q (1 : Int) M1 f)) ∨ (E9 = "java/lang/IllegalArgumentException" ∧ (inR (2 : Int) ∧ Q (2 : Int) M1 f))))
set_option maxRecDepth 100000 in
set_option maxHeartbeats 4000000 in
theorem ok_L_retained {B : WB} {l : Launch} {qo : Nat} {f : Nat → Int64} {M : Mem} {Q : Int → Mem → (Nat → Int64) → Prop} {x1 : Int} (hl : l.stackTraces = false) (body : ∀ G : GT, gB G = B → gl G = l → T_L_retained G Q qo x1 M f) : OkW B l md_L_retained hh_L_retained [.ref (ad B 0), .int (I x1), .ref qo] qo f M Q := by
  refine OkW_of mk_L_retained hl (Nat.le_of_ble_eq_true rfl) (fun G hC hR hg => ?_)
  have kk := body G hg.1 hg.2.2
  obtain ⟨rfl, hgr, rfl⟩ := hg
  unfold T_L_retained at kk
  refine V_aload_n hC 2 rfl dL_retained_0 ?_
  refine V_iconst hC dL_retained_1 ?_
  refine V_aload_n hC 0 rfl dL_retained_2 ?_
  refine V_iload_n hC 1 rfl dL_retained_3 ?_
  rcases kk with kk | kk
  · refine V_cVi hC (As := [_]) lv_L_190 dL_retained_4 (d0 := 5) (Nat.le_of_ble_eq_true rfl) (Rm_of hgr) rv_0 rfl (Nat.le_of_ble_eq_true rfl) zk kk (fun r9 M9 z kk => ?_)
    replace kk := kk z
    refine V_i2l hC dL_retained_7 ?_
    refine V_lastW hC dL_retained_8 ?_
    replace kk := kk _ rfl
    refine V_goto hC 18 rfl dL_retained_9 ?_
    refine V_iconst hC dL_retained_18 ?_
    obtain ⟨hr, kk⟩ := kk
    exact V_retW hC hR rfl zk dL_retained_19 hr kk
  · refine V_cH hC hR (As := [_]) ⟨lv_L_190.1, lm_L_190, lv_L_190.2.2.1, lv_L_190.2.2.2⟩ dL_retained_4 (d0 := 5) (Nat.le_of_ble_eq_true rfl) (Rm_of hgr) rv_0 rfl (Nat.le_of_ble_eq_true rfl) (Rk_of hgr ⟨Nat.le_refl _, Nat.le_refl _⟩) kk (noI fun _ _ q => q) (fun E9 M9 kk => ?_)
    have k8 := (show _ ∧ _ ∨ _ ∧ _ from kk)
    clear kk
    rcases k8 with ⟨rfl, kk⟩ | ⟨rfl, kk⟩
    · refine ⟨12, ⟨[], [(0, 9, 15, 15)], (0, 9, 12, 13), rfl, fun z hz => absurd hz List.not_mem_nil, by decide, by decide, (wa_4 162 rfl rfl), wn_4 23 rfl rfl, rfl⟩, fun q9 => ?_⟩
      refine V_astore_n hC (lv' := [(3, _), (0, _), (1, _), (2, _)]) (Nat.le_of_ble_eq_true rfl) rfl dL_retained_12 ?_
      refine V_iconst hC dL_retained_13 ?_
      obtain ⟨hr, kk⟩ := kk
      exact V_retW hC hR rfl (by rw [hgr]; exact ⟨Nat.le_refl _, Nat.le_refl _⟩) dL_retained_14 hr kk
    · refine ⟨15, ⟨[(0, 9, 12, 13)], [], (0, 9, 15, 15), rfl, List.forall_mem_cons.mpr ⟨⟨by decide, _, (wa_4 162 rfl rfl), Or.inl ⟨rfl, rfl⟩⟩, fun z hz => absurd hz List.not_mem_nil⟩, by decide, by decide, (wa_4 163 rfl rfl), wn_4 186 rfl rfl, rfl⟩, fun q9 => ?_⟩
      refine V_astore_n hC (lv' := [(3, _), (0, _), (1, _), (2, _)]) (Nat.le_of_ble_eq_true rfl) rfl dL_retained_15 ?_
      refine V_iconst hC dL_retained_16 ?_
      obtain ⟨hr, kk⟩ := kk
      exact V_retW hC hR rfl (by rw [hgr]; exact ⟨Nat.le_refl _, Nat.le_refl _⟩) dL_retained_17 hr kk
abbrev md_L_onCircle : Md := (yL_onCircle, cL_onCircle, 4, (some .int), 4)
abbrev hh_L_onCircle : List (Nat × Nat × Nat × Nat) := [(0, 16, 19, 13), (0, 16, 22, 15)]
theorem mk_L_onCircle : MkW md_L_onCircle hh_L_onCircle 3 := ⟨by decide +kernel, (wa_7 173 rfl rfl), (wa_1 0 rfl rfl), by decide +kernel, by decide⟩
def T_L_onCircle (G : GT) (Q : Int → Mem → (Nat → Int64) → Prop) (qo : Nat) (x1 : Int) (M : Mem) (f : Nat → Int64) : Prop := (OkI (gB G) (gl G) md_X11_onCircle 0 0 [.ref (ad (gB G) 0), .int (I x1)] (Xo (gB G) qo f) M (fun r4 M1 => inR r4 → (inR r4 ∧ (r4 = 0 → (∀ f1 : Nat → Int64, f1 = vp_updL f 0 (0 : Int64) → (inR (0 : Int) ∧ Q (0 : Int) M1 f1))) ∧ (r4 ≠ 0 → (∀ f1 : Nat → Int64, f1 = vp_updL f 0 (1 : Int64) → (inR (0 : Int) ∧ Q (0 : Int) M1 f1))))) NoX ∨ OkI (gB G) (gl G) md_X11_onCircle 1 6 [.ref (ad (gB G) 0), .int (I x1)] (Xo (gB G) qo f) M (fun _ _ => False) (fun E9 M1 => (E9 = "java/lang/IndexOutOfBoundsException" ∧ (inR (1 : Int) ∧ Q (1 : Int) M1 f)) ∨ (E9 = "java/lang/IllegalArgumentException" ∧ (inR (2 : Int) ∧ Q (2 : Int) M1 f))))
set_option maxRecDepth 100000 in
set_option maxHeartbeats 4000000 in
theorem ok_L_onCircle {B : WB} {l : Launch} {qo : Nat} {f : Nat → Int64} {M : Mem} {Q : Int → Mem → (Nat → Int64) → Prop} {x1 : Int} (hl : l.stackTraces = false) (body : ∀ G : GT, gB G = B → gl G = l → T_L_onCircle G Q qo x1 M f) : OkW B l md_L_onCircle hh_L_onCircle [.ref (ad B 0), .int (I x1), .ref qo] qo f M Q := by
  refine OkW_of mk_L_onCircle hl (Nat.le_of_ble_eq_true rfl) (fun G hC hR hg => ?_)
  have kk := body G hg.1 hg.2.2
  obtain ⟨rfl, hgr, rfl⟩ := hg
  unfold T_L_onCircle at kk
  refine V_aload_n hC 2 rfl dL_onCircle_0 ?_
  refine V_iconst hC dL_onCircle_1 ?_
  refine V_aload_n hC 0 rfl dL_onCircle_2 ?_
  refine V_iload_n hC 1 rfl dL_onCircle_3 ?_
  rcases kk with kk | kk
  · refine V_cVi hC (As := [_]) lv_L_193 dL_onCircle_4 (d0 := 4) (Nat.le_of_ble_eq_true rfl) (Rm_of hgr) rv_0 rfl (Nat.le_of_ble_eq_true rfl) zk kk (fun r9 M9 z kk => ?_)
    replace kk := kk z
    obtain ⟨ha, k1, k2⟩ := kk
    refine V_if_eq hC 14 rfl dL_onCircle_7 ⟨ha, fun z => ?_, fun z => ?_⟩
    · replace kk := k1 z; clear k1 k2
      refine V_lconst hC 0 rfl dL_onCircle_14 ?_
      refine V_lastW hC dL_onCircle_15 ?_
      replace kk := kk _ rfl
      refine V_goto hC 25 rfl dL_onCircle_16 ?_
      refine V_iconst hC dL_onCircle_25 ?_
      obtain ⟨hr, kk⟩ := kk
      exact V_retW hC hR rfl zk dL_onCircle_26 hr kk
    · replace kk := k2 z; clear k1 k2
      refine V_lconst hC 1 rfl dL_onCircle_10 ?_
      refine V_goto hC 15 rfl dL_onCircle_11 ?_
      refine V_lastW hC dL_onCircle_15 ?_
      replace kk := kk _ rfl
      refine V_goto hC 25 rfl dL_onCircle_16 ?_
      refine V_iconst hC dL_onCircle_25 ?_
      obtain ⟨hr, kk⟩ := kk
      exact V_retW hC hR rfl zk dL_onCircle_26 hr kk
  · refine V_cH hC hR (As := [_]) ⟨lv_L_193.1, lm_L_193, lv_L_193.2.2.1, lv_L_193.2.2.2⟩ dL_onCircle_4 (d0 := 4) (Nat.le_of_ble_eq_true rfl) (Rm_of hgr) rv_0 rfl (Nat.le_of_ble_eq_true rfl) (Rk_of hgr ⟨Nat.le_refl _, Nat.le_refl _⟩) kk (noI fun _ _ q => q) (fun E9 M9 kk => ?_)
    have k8 := (show _ ∧ _ ∨ _ ∧ _ from kk)
    clear kk
    rcases k8 with ⟨rfl, kk⟩ | ⟨rfl, kk⟩
    · refine ⟨19, ⟨[], [(0, 16, 22, 15)], (0, 16, 19, 13), rfl, fun z hz => absurd hz List.not_mem_nil, by decide, by decide, (wa_4 162 rfl rfl), wn_4 23 rfl rfl, rfl⟩, fun q9 => ?_⟩
      refine V_astore_n hC (lv' := [(3, _), (0, _), (1, _), (2, _)]) (Nat.le_of_ble_eq_true rfl) rfl dL_onCircle_19 ?_
      refine V_iconst hC dL_onCircle_20 ?_
      obtain ⟨hr, kk⟩ := kk
      exact V_retW hC hR rfl (by rw [hgr]; exact ⟨Nat.le_refl _, Nat.le_refl _⟩) dL_onCircle_21 hr kk
    · refine ⟨22, ⟨[(0, 16, 19, 13)], [], (0, 16, 22, 15), rfl, List.forall_mem_cons.mpr ⟨⟨by decide, _, (wa_4 162 rfl rfl), Or.inl ⟨rfl, rfl⟩⟩, fun z hz => absurd hz List.not_mem_nil⟩, by decide, by decide, (wa_4 163 rfl rfl), wn_4 186 rfl rfl, rfl⟩, fun q9 => ?_⟩
      refine V_astore_n hC (lv' := [(3, _), (0, _), (1, _), (2, _)]) (Nat.le_of_ble_eq_true rfl) rfl dL_onCircle_22 ?_
      refine V_iconst hC dL_onCircle_23 ?_
      obtain ⟨hr, kk⟩ := kk
      exact V_retW hC hR rfl (by rw [hgr]; exact ⟨Nat.le_refl _, Nat.le_refl _⟩) dL_onCircle_24 hr kk
abbrev md_L_referrers : Md := (yL_referrers, cL_referrers, 4, (some .int), 4)
abbrev hh_L_referrers : List (Nat × Nat × Nat × Nat) := [(0, 9, 12, 13), (0, 9, 15, 15)]
theorem mk_L_referrers : MkW md_L_referrers hh_L_referrers 3 := ⟨by decide +kernel, (wa_7 185 rfl rfl), (wa_1 0 rfl rfl), by decide +kernel, by decide⟩
def T_L_referrers (G : GT) (Q : Int → Mem → (Nat → Int64) → Prop) (qo : Nat) (x1 : Int) (M : Mem) (f : Nat → Int64) : Prop := (OkI (gB G) (gl G) md_X11_referrers 0 0 [.ref (ad (gB G) 0), .int (I x1)] (Xo (gB G) qo f) M (fun r4 M1 => inR r4 → (∀ f1 : Nat → Int64, f1 = vp_updL f 0 ((I r4).toInt64) → (inR (0 : Int) ∧ Q (0 : Int) M1 f1))) NoX ∨ OkI (gB G) (gl G) md_X11_referrers 1 6 [.ref (ad (gB G) 0), .int (I x1)] (Xo (gB G) qo f) M (fun _ _ => False) (fun E9 M1 => (E9 = "java/lang/IndexOutOfBoundsException" ∧ (inR (1 : Int) ∧ Q (1 : Int) M1 f)) ∨ (E9 = "java/lang/IllegalArgumentException" ∧ (inR (2 : Int) ∧ Q (2 : Int) M1 f))))
set_option maxRecDepth 100000 in
set_option maxHeartbeats 4000000 in
theorem ok_L_referrers {B : WB} {l : Launch} {qo : Nat} {f : Nat → Int64} {M : Mem} {Q : Int → Mem → (Nat → Int64) → Prop} {x1 : Int} (hl : l.stackTraces = false) (body : ∀ G : GT, gB G = B → gl G = l → T_L_referrers G Q qo x1 M f) : OkW B l md_L_referrers hh_L_referrers [.ref (ad B 0), .int (I x1), .ref qo] qo f M Q := by
  refine OkW_of mk_L_referrers hl (Nat.le_of_ble_eq_true rfl) (fun G hC hR hg => ?_)
  have kk := body G hg.1 hg.2.2
  obtain ⟨rfl, hgr, rfl⟩ := hg
  unfold T_L_referrers at kk
  refine V_aload_n hC 2 rfl dL_referrers_0 ?_
  refine V_iconst hC dL_referrers_1 ?_
  refine V_aload_n hC 0 rfl dL_referrers_2 ?_
  refine V_iload_n hC 1 rfl dL_referrers_3 ?_
  rcases kk with kk | kk
  · refine V_cVi hC (As := [_]) lv_L_196 dL_referrers_4 (d0 := 4) (Nat.le_of_ble_eq_true rfl) (Rm_of hgr) rv_0 rfl (Nat.le_of_ble_eq_true rfl) zk kk (fun r9 M9 z kk => ?_)
    replace kk := kk z
    refine V_i2l hC dL_referrers_7 ?_
    refine V_lastW hC dL_referrers_8 ?_
    replace kk := kk _ rfl
    refine V_goto hC 18 rfl dL_referrers_9 ?_
    refine V_iconst hC dL_referrers_18 ?_
    obtain ⟨hr, kk⟩ := kk
    exact V_retW hC hR rfl zk dL_referrers_19 hr kk
  · refine V_cH hC hR (As := [_]) ⟨lv_L_196.1, lm_L_196, lv_L_196.2.2.1, lv_L_196.2.2.2⟩ dL_referrers_4 (d0 := 4) (Nat.le_of_ble_eq_true rfl) (Rm_of hgr) rv_0 rfl (Nat.le_of_ble_eq_true rfl) (Rk_of hgr ⟨Nat.le_refl _, Nat.le_refl _⟩) kk (noI fun _ _ q => q) (fun E9 M9 kk => ?_)
    have k8 := (show _ ∧ _ ∨ _ ∧ _ from kk)
    clear kk
    rcases k8 with ⟨rfl, kk⟩ | ⟨rfl, kk⟩
    · refine ⟨12, ⟨[], [(0, 9, 15, 15)], (0, 9, 12, 13), rfl, fun z hz => absurd hz List.not_mem_nil, by decide, by decide, (wa_4 162 rfl rfl), wn_4 23 rfl rfl, rfl⟩, fun q9 => ?_⟩
      refine V_astore_n hC (lv' := [(3, _), (0, _), (1, _), (2, _)]) (Nat.le_of_ble_eq_true rfl) rfl dL_referrers_12 ?_
      refine V_iconst hC dL_referrers_13 ?_
      obtain ⟨hr, kk⟩ := kk
      exact V_retW hC hR rfl (by rw [hgr]; exact ⟨Nat.le_refl _, Nat.le_refl _⟩) dL_referrers_14 hr kk
    · refine ⟨15, ⟨[(0, 9, 12, 13)], [], (0, 9, 15, 15), rfl, List.forall_mem_cons.mpr ⟨⟨by decide, _, (wa_4 162 rfl rfl), Or.inl ⟨rfl, rfl⟩⟩, fun z hz => absurd hz List.not_mem_nil⟩, by decide, by decide, (wa_4 163 rfl rfl), wn_4 186 rfl rfl, rfl⟩, fun q9 => ?_⟩
      refine V_astore_n hC (lv' := [(3, _), (0, _), (1, _), (2, _)]) (Nat.le_of_ble_eq_true rfl) rfl dL_referrers_15 ?_
      refine V_iconst hC dL_referrers_16 ?_
      obtain ⟨hr, kk⟩ := kk
      exact V_retW hC hR rfl (by rw [hgr]; exact ⟨Nat.le_refl _, Nat.le_refl _⟩) dL_referrers_17 hr kk
abbrev md_L_sameShape : Md := (yL_sameShape, cL_sameShape, 5, (some .int), 6)
abbrev hh_L_sameShape : List (Nat × Nat × Nat × Nat) := [(0, 17, 20, 13), (0, 17, 24, 15)]
theorem mk_L_sameShape : MkW md_L_sameShape hh_L_sameShape 4 := ⟨by decide +kernel, (wa_7 196 rfl rfl), (wa_1 0 rfl rfl), by decide +kernel, by decide⟩
def T_L_sameShape (G : GT) (Q : Int → Mem → (Nat → Int64) → Prop) (qo : Nat) (x1 : Int) (x2 : Int) (M : Mem) (f : Nat → Int64) : Prop := (OkI (gB G) (gl G) md_X11_sameShape 0 0 [.ref (ad (gB G) 0), .int (I x1), .int (I x2)] (Xo (gB G) qo f) M (fun r5 M1 => inR r5 → (inR r5 ∧ (r5 = 0 → (∀ f1 : Nat → Int64, f1 = vp_updL f 0 (0 : Int64) → (inR (0 : Int) ∧ Q (0 : Int) M1 f1))) ∧ (r5 ≠ 0 → (∀ f1 : Nat → Int64, f1 = vp_updL f 0 (1 : Int64) → (inR (0 : Int) ∧ Q (0 : Int) M1 f1))))) NoX ∨ OkI (gB G) (gl G) md_X11_sameShape 1 6 [.ref (ad (gB G) 0), .int (I x1), .int (I x2)] (Xo (gB G) qo f) M (fun _ _ => False) (fun E9 M1 => (E9 = "java/lang/IndexOutOfBoundsException" ∧ (inR (1 : Int) ∧ Q (1 : Int) M1 f)) ∨ (E9 = "java/lang/IllegalArgumentException" ∧ (inR (2 : Int) ∧ Q (2 : Int) M1 f))))
set_option maxRecDepth 100000 in
set_option maxHeartbeats 4000000 in
theorem ok_L_sameShape {B : WB} {l : Launch} {qo : Nat} {f : Nat → Int64} {M : Mem} {Q : Int → Mem → (Nat → Int64) → Prop} {x1 : Int} {x2 : Int} (hl : l.stackTraces = false) (body : ∀ G : GT, gB G = B → gl G = l → T_L_sameShape G Q qo x1 x2 M f) : OkW B l md_L_sameShape hh_L_sameShape [.ref (ad B 0), .int (I x1), .int (I x2), .ref qo] qo f M Q := by
  refine OkW_of mk_L_sameShape hl (Nat.le_of_ble_eq_true rfl) (fun G hC hR hg => ?_)
  have kk := body G hg.1 hg.2.2
  obtain ⟨rfl, hgr, rfl⟩ := hg
  unfold T_L_sameShape at kk
  refine V_aload_n hC 3 rfl dL_sameShape_0 ?_
  refine V_iconst hC dL_sameShape_1 ?_
  refine V_aload_n hC 0 rfl dL_sameShape_2 ?_
  refine V_iload_n hC 1 rfl dL_sameShape_3 ?_
  refine V_iload_n hC 2 rfl dL_sameShape_4 ?_
  rcases kk with kk | kk
  · refine V_cVi hC (As := [_, _]) lv_L_199 dL_sameShape_5 (d0 := 6) (Nat.le_of_ble_eq_true rfl) (Rm_of hgr) rv_0 rfl (Nat.le_of_ble_eq_true rfl) zk kk (fun r9 M9 z kk => ?_)
    replace kk := kk z
    obtain ⟨ha, k1, k2⟩ := kk
    refine V_if_eq hC 15 rfl dL_sameShape_8 ⟨ha, fun z => ?_, fun z => ?_⟩
    · replace kk := k1 z; clear k1 k2
      refine V_lconst hC 0 rfl dL_sameShape_15 ?_
      refine V_lastW hC dL_sameShape_16 ?_
      replace kk := kk _ rfl
      refine V_goto hC 28 rfl dL_sameShape_17 ?_
      refine V_iconst hC dL_sameShape_28 ?_
      obtain ⟨hr, kk⟩ := kk
      exact V_retW hC hR rfl zk dL_sameShape_29 hr kk
    · replace kk := k2 z; clear k1 k2
      refine V_lconst hC 1 rfl dL_sameShape_11 ?_
      refine V_goto hC 16 rfl dL_sameShape_12 ?_
      refine V_lastW hC dL_sameShape_16 ?_
      replace kk := kk _ rfl
      refine V_goto hC 28 rfl dL_sameShape_17 ?_
      refine V_iconst hC dL_sameShape_28 ?_
      obtain ⟨hr, kk⟩ := kk
      exact V_retW hC hR rfl zk dL_sameShape_29 hr kk
  · refine V_cH hC hR (As := [_, _]) ⟨lv_L_199.1, lm_L_199, lv_L_199.2.2.1, lv_L_199.2.2.2⟩ dL_sameShape_5 (d0 := 6) (Nat.le_of_ble_eq_true rfl) (Rm_of hgr) rv_0 rfl (Nat.le_of_ble_eq_true rfl) (Rk_of hgr ⟨Nat.le_refl _, Nat.le_refl _⟩) kk (noI fun _ _ q => q) (fun E9 M9 kk => ?_)
    have k8 := (show _ ∧ _ ∨ _ ∧ _ from kk)
    clear kk
    rcases k8 with ⟨rfl, kk⟩ | ⟨rfl, kk⟩
    · refine ⟨20, ⟨[], [(0, 17, 24, 15)], (0, 17, 20, 13), rfl, fun z hz => absurd hz List.not_mem_nil, by decide, by decide, (wa_4 162 rfl rfl), wn_4 23 rfl rfl, rfl⟩, fun q9 => ?_⟩
      refine V_astore hC (lv' := [(4, _), (0, _), (1, _), (2, _), (3, _)]) (Nat.le_of_ble_eq_true rfl) rfl dL_sameShape_20 ?_
      refine V_iconst hC dL_sameShape_22 ?_
      obtain ⟨hr, kk⟩ := kk
      exact V_retW hC hR rfl (by rw [hgr]; exact ⟨Nat.le_refl _, Nat.le_refl _⟩) dL_sameShape_23 hr kk
    · refine ⟨24, ⟨[(0, 17, 20, 13)], [], (0, 17, 24, 15), rfl, List.forall_mem_cons.mpr ⟨⟨by decide, _, (wa_4 162 rfl rfl), Or.inl ⟨rfl, rfl⟩⟩, fun z hz => absurd hz List.not_mem_nil⟩, by decide, by decide, (wa_4 163 rfl rfl), wn_4 186 rfl rfl, rfl⟩, fun q9 => ?_⟩
      refine V_astore hC (lv' := [(4, _), (0, _), (1, _), (2, _), (3, _)]) (Nat.le_of_ble_eq_true rfl) rfl dL_sameShape_24 ?_
      refine V_iconst hC dL_sameShape_26 ?_
      obtain ⟨hr, kk⟩ := kk
      exact V_retW hC hR rfl (by rw [hgr]; exact ⟨Nat.le_refl _, Nat.le_refl _⟩) dL_sameShape_27 hr kk
theorem lw_206 : MkW md_L_defineKind hh_L_defineKind 6 ∧ Cond.methodLink md_law.1.cls 206 md_L_defineKind.1 ∈ wAll ∧ Cond.static md_L_defineKind.1 ∈ wAll := ⟨mk_L_defineKind, (wa_4 159 rfl rfl), (wa_4 160 rfl rfl)⟩
theorem lw_215 : MkW md_L_push hh_L_push 3 ∧ Cond.methodLink md_law.1.cls 215 md_L_push.1 ∈ wAll ∧ Cond.static md_L_push.1 ∈ wAll := ⟨mk_L_push, (wa_4 222 rfl rfl), (wa_4 223 rfl rfl)⟩
theorem lw_219 : MkW md_L_pop hh_L_pop 3 ∧ Cond.methodLink md_law.1.cls 219 md_L_pop.1 ∈ wAll ∧ Cond.static md_L_pop.1 ∈ wAll := ⟨mk_L_pop, (wa_4 232 rfl rfl), (wa_4 233 rfl rfl)⟩
theorem lw_222 : MkW md_L_assign hh_L_assign 4 ∧ Cond.methodLink md_law.1.cls 222 md_L_assign.1 ∈ wAll ∧ Cond.static md_L_assign.1 ∈ wAll := ⟨mk_L_assign, (wa_5 5 rfl rfl), (wa_5 6 rfl rfl)⟩
theorem lw_226 : MkW md_L_clear hh_L_clear 3 ∧ Cond.methodLink md_law.1.cls 226 md_L_clear.1 ∈ wAll ∧ Cond.static md_L_clear.1 ∈ wAll := ⟨mk_L_clear, (wa_5 16 rfl rfl), (wa_5 17 rfl rfl)⟩
theorem lw_229 : MkW md_L_toGlobal hh_L_toGlobal 4 ∧ Cond.methodLink md_law.1.cls 229 md_L_toGlobal.1 ∈ wAll ∧ Cond.static md_L_toGlobal.1 ∈ wAll := ⟨mk_L_toGlobal, (wa_5 23 rfl rfl), (wa_5 24 rfl rfl)⟩
theorem lw_232 : MkW md_L_fromGlobal hh_L_fromGlobal 4 ∧ Cond.methodLink md_law.1.cls 232 md_L_fromGlobal.1 ∈ wAll ∧ Cond.static md_L_fromGlobal.1 ∈ wAll := ⟨mk_L_fromGlobal, (wa_5 30 rfl rfl), (wa_5 31 rfl rfl)⟩
theorem lw_235 : MkW md_L_newObject hh_L_newObject 4 ∧ Cond.methodLink md_law.1.cls 235 md_L_newObject.1 ∈ wAll ∧ Cond.static md_L_newObject.1 ∈ wAll := ⟨mk_L_newObject, (wa_5 37 rfl rfl), (wa_5 38 rfl rfl)⟩
theorem lw_238 : MkW md_L_newRow hh_L_newRow 4 ∧ Cond.methodLink md_law.1.cls 238 md_L_newRow.1 ∈ wAll ∧ Cond.static md_L_newRow.1 ∈ wAll := ⟨mk_L_newRow, (wa_5 148 rfl rfl), (wa_5 149 rfl rfl)⟩
theorem lw_241 : MkW md_L_newText hh_L_newText 4 ∧ Cond.methodLink md_law.1.cls 241 md_L_newText.1 ∈ wAll ∧ Cond.static md_L_newText.1 ∈ wAll := ⟨mk_L_newText, (wa_5 160 rfl rfl), (wa_5 161 rfl rfl)⟩
theorem lw_244 : MkW md_L_newWeak hh_L_newWeak 5 ∧ Cond.methodLink md_law.1.cls 244 md_L_newWeak.1 ∈ wAll ∧ Cond.static md_L_newWeak.1 ∈ wAll := ⟨mk_L_newWeak, (wa_5 167 rfl rfl), (wa_5 168 rfl rfl)⟩
theorem lw_248 : MkW md_L_newSoft hh_L_newSoft 5 ∧ Cond.methodLink md_law.1.cls 248 md_L_newSoft.1 ∈ wAll ∧ Cond.static md_L_newSoft.1 ∈ wAll := ⟨mk_L_newSoft, (wa_5 184 rfl rfl), (wa_5 185 rfl rfl)⟩
theorem lw_251 : MkW md_L_newPhantom hh_L_newPhantom 4 ∧ Cond.methodLink md_law.1.cls 251 md_L_newPhantom.1 ∈ wAll ∧ Cond.static md_L_newPhantom.1 ∈ wAll := ⟨mk_L_newPhantom, (wa_5 191 rfl rfl), (wa_5 192 rfl rfl)⟩
theorem lw_254 : MkW md_L_newTable hh_L_newTable 4 ∧ Cond.methodLink md_law.1.cls 254 md_L_newTable.1 ∈ wAll ∧ Cond.static md_L_newTable.1 ∈ wAll := ⟨mk_L_newTable, (wa_5 198 rfl rfl), (wa_5 199 rfl rfl)⟩
theorem lw_257 : MkW md_L_load hh_L_load 5 ∧ Cond.methodLink md_law.1.cls 257 md_L_load.1 ∈ wAll ∧ Cond.static md_L_load.1 ∈ wAll := ⟨mk_L_load, (wa_5 205 rfl rfl), (wa_5 206 rfl rfl)⟩
theorem lw_261 : MkW md_L_store hh_L_store 5 ∧ Cond.methodLink md_law.1.cls 261 md_L_store.1 ∈ wAll ∧ Cond.static md_L_store.1 ∈ wAll := ⟨mk_L_store, (wa_5 218 rfl rfl), (wa_5 219 rfl rfl)⟩
theorem lw_264 : MkW md_L_getNumber hh_L_getNumber 4 ∧ Cond.methodLink md_law.1.cls 264 md_L_getNumber.1 ∈ wAll ∧ Cond.static md_L_getNumber.1 ∈ wAll := ⟨mk_L_getNumber, (wa_5 225 rfl rfl), (wa_5 226 rfl rfl)⟩
theorem lw_267 : MkW md_L_setNumber hh_L_setNumber 5 ∧ Cond.methodLink md_law.1.cls 267 md_L_setNumber.1 ∈ wAll ∧ Cond.static md_L_setNumber.1 ∈ wAll := ⟨mk_L_setNumber, (wa_5 238 rfl rfl), (wa_5 239 rfl rfl)⟩
theorem lw_270 : MkW md_L_getByte hh_L_getByte 4 ∧ Cond.methodLink md_law.1.cls 270 md_L_getByte.1 ∈ wAll ∧ Cond.static md_L_getByte.1 ∈ wAll := ⟨mk_L_getByte, (wa_6 5 rfl rfl), (wa_6 6 rfl rfl)⟩
theorem lw_273 : MkW md_L_setByte hh_L_setByte 5 ∧ Cond.methodLink md_law.1.cls 273 md_L_setByte.1 ∈ wAll ∧ Cond.static md_L_setByte.1 ∈ wAll := ⟨mk_L_setByte, (wa_6 17 rfl rfl), (wa_6 18 rfl rfl)⟩
theorem lw_276 : MkW md_L_read hh_L_read 4 ∧ Cond.methodLink md_law.1.cls 276 md_L_read.1 ∈ wAll ∧ Cond.static md_L_read.1 ∈ wAll := ⟨mk_L_read, (wa_6 25 rfl rfl), (wa_6 26 rfl rfl)⟩
theorem lw_279 : MkW md_L_refersTo hh_L_refersTo 4 ∧ Cond.methodLink md_law.1.cls 279 md_L_refersTo.1 ∈ wAll ∧ Cond.static md_L_refersTo.1 ∈ wAll := ⟨mk_L_refersTo, (wa_6 43 rfl rfl), (wa_6 44 rfl rfl)⟩
theorem lw_282 : MkW md_L_forget hh_L_forget 3 ∧ Cond.methodLink md_law.1.cls 282 md_L_forget.1 ∈ wAll ∧ Cond.static md_L_forget.1 ∈ wAll := ⟨mk_L_forget, (wa_6 50 rfl rfl), (wa_6 51 rfl rfl)⟩
theorem lw_285 : MkW md_L_poll hh_L_poll 3 ∧ Cond.methodLink md_law.1.cls 285 md_L_poll.1 ∈ wAll ∧ Cond.static md_L_poll.1 ∈ wAll := ⟨mk_L_poll, (wa_6 57 rfl rfl), (wa_6 58 rfl rfl)⟩
theorem lw_288 : MkW md_L_takeLast hh_L_takeLast 3 ∧ Cond.methodLink md_law.1.cls 288 md_L_takeLast.1 ∈ wAll ∧ Cond.static md_L_takeLast.1 ∈ wAll := ⟨mk_L_takeLast, (wa_6 73 rfl rfl), (wa_6 74 rfl rfl)⟩
theorem lw_291 : MkW md_L_put hh_L_put 5 ∧ Cond.methodLink md_law.1.cls 291 md_L_put.1 ∈ wAll ∧ Cond.static md_L_put.1 ∈ wAll := ⟨mk_L_put, (wa_6 80 rfl rfl), (wa_6 81 rfl rfl)⟩
theorem lw_294 : MkW md_L_get hh_L_get 5 ∧ Cond.methodLink md_law.1.cls 294 md_L_get.1 ∈ wAll ∧ Cond.static md_L_get.1 ∈ wAll := ⟨mk_L_get, (wa_6 97 rfl rfl), (wa_6 98 rfl rfl)⟩
theorem lw_297 : MkW md_L_remove hh_L_remove 4 ∧ Cond.methodLink md_law.1.cls 297 md_L_remove.1 ∈ wAll ∧ Cond.static md_L_remove.1 ∈ wAll := ⟨mk_L_remove, (wa_6 104 rfl rfl), (wa_6 105 rfl rfl)⟩
theorem lw_300 : MkW md_L_intern hh_L_intern 4 ∧ Cond.methodLink md_law.1.cls 300 md_L_intern.1 ∈ wAll ∧ Cond.static md_L_intern.1 ∈ wAll := ⟨mk_L_intern, (wa_6 111 rfl rfl), (wa_6 112 rfl rfl)⟩
theorem lw_303 : MkW md_L_deepCopy hh_L_deepCopy 4 ∧ Cond.methodLink md_law.1.cls 303 md_L_deepCopy.1 ∈ wAll ∧ Cond.static md_L_deepCopy.1 ∈ wAll := ⟨mk_L_deepCopy, (wa_6 127 rfl rfl), (wa_6 128 rfl rfl)⟩
theorem lw_306 : MkW md_L_writeImage hh_L_writeImage 3 ∧ Cond.methodLink md_law.1.cls 306 md_L_writeImage.1 ∈ wAll ∧ Cond.static md_L_writeImage.1 ∈ wAll := ⟨mk_L_writeImage, (wa_6 166 rfl rfl), (wa_6 167 rfl rfl)⟩
theorem lw_309 : MkW md_L_setImage hh_L_setImage 4 ∧ Cond.methodLink md_law.1.cls 309 md_L_setImage.1 ∈ wAll ∧ Cond.static md_L_setImage.1 ∈ wAll := ⟨mk_L_setImage, (wa_6 189 rfl rfl), (wa_6 190 rfl rfl)⟩
theorem lw_312 : MkW md_L_readImage hh_L_readImage 3 ∧ Cond.methodLink md_law.1.cls 312 md_L_readImage.1 ∈ wAll ∧ Cond.static md_L_readImage.1 ∈ wAll := ⟨mk_L_readImage, (wa_6 201 rfl rfl), (wa_6 202 rfl rfl)⟩
theorem lw_315 : MkW md_L_setTenure hh_L_setTenure 3 ∧ Cond.methodLink md_law.1.cls 315 md_L_setTenure.1 ∈ wAll ∧ Cond.static md_L_setTenure.1 ∈ wAll := ⟨mk_L_setTenure, (wa_7 16 rfl rfl), (wa_7 17 rfl rfl)⟩
theorem lw_318 : MkW md_L_collectYoung hh_L_collectYoung 2 ∧ Cond.methodLink md_law.1.cls 318 md_L_collectYoung.1 ∈ wAll ∧ Cond.static md_L_collectYoung.1 ∈ wAll := ⟨mk_L_collectYoung, (wa_7 23 rfl rfl), (wa_7 24 rfl rfl)⟩
theorem lw_322 : MkW md_L_collectAll hh_L_collectAll 3 ∧ Cond.methodLink md_law.1.cls 322 md_L_collectAll.1 ∈ wAll ∧ Cond.static md_L_collectAll.1 ∈ wAll := ⟨mk_L_collectAll, (wa_7 36 rfl rfl), (wa_7 37 rfl rfl)⟩
theorem lw_326 : MkW md_L_beginMarking hh_L_beginMarking 2 ∧ Cond.methodLink md_law.1.cls 326 md_L_beginMarking.1 ∈ wAll ∧ Cond.static md_L_beginMarking.1 ∈ wAll := ⟨mk_L_beginMarking, (wa_7 43 rfl rfl), (wa_7 44 rfl rfl)⟩
theorem lw_329 : MkW md_L_step hh_L_step 3 ∧ Cond.methodLink md_law.1.cls 329 md_L_step.1 ∈ wAll ∧ Cond.static md_L_step.1 ∈ wAll := ⟨mk_L_step, (wa_7 57 rfl rfl), (wa_7 58 rfl rfl)⟩
theorem lw_344 : MkW md_L_referencesOf hh_L_referencesOf 3 ∧ Cond.methodLink md_law.1.cls 344 md_L_referencesOf.1 ∈ wAll ∧ Cond.static md_L_referencesOf.1 ∈ wAll := ⟨mk_L_referencesOf, (wa_7 76 rfl rfl), (wa_7 77 rfl rfl)⟩
theorem lw_347 : MkW md_L_numbersOf hh_L_numbersOf 3 ∧ Cond.methodLink md_law.1.cls 347 md_L_numbersOf.1 ∈ wAll ∧ Cond.static md_L_numbersOf.1 ∈ wAll := ⟨mk_L_numbersOf, (wa_7 83 rfl rfl), (wa_7 84 rfl rfl)⟩
theorem lw_350 : MkW md_L_isFinal hh_L_isFinal 3 ∧ Cond.methodLink md_law.1.cls 350 md_L_isFinal.1 ∈ wAll ∧ Cond.static md_L_isFinal.1 ∈ wAll := ⟨mk_L_isFinal, (wa_7 90 rfl rfl), (wa_7 91 rfl rfl)⟩
theorem lw_353 : MkW md_L_isKindOf hh_L_isKindOf 4 ∧ Cond.methodLink md_law.1.cls 353 md_L_isKindOf.1 ∈ wAll ∧ Cond.static md_L_isKindOf.1 ∈ wAll := ⟨mk_L_isKindOf, (wa_7 97 rfl rfl), (wa_7 98 rfl rfl)⟩
theorem lw_356 : MkW md_L_numberOf hh_L_numberOf 3 ∧ Cond.methodLink md_law.1.cls 356 md_L_numberOf.1 ∈ wAll ∧ Cond.static md_L_numberOf.1 ∈ wAll := ⟨mk_L_numberOf, (wa_7 108 rfl rfl), (wa_7 109 rfl rfl)⟩
theorem lw_359 : MkW md_L_globalNumber hh_L_globalNumber 3 ∧ Cond.methodLink md_law.1.cls 359 md_L_globalNumber.1 ∈ wAll ∧ Cond.static md_L_globalNumber.1 ∈ wAll := ⟨mk_L_globalNumber, (wa_7 112 rfl rfl), (wa_7 113 rfl rfl)⟩
theorem lw_362 : MkW md_L_formOf hh_L_formOf 3 ∧ Cond.methodLink md_law.1.cls 362 md_L_formOf.1 ∈ wAll ∧ Cond.static md_L_formOf.1 ∈ wAll := ⟨mk_L_formOf, (wa_7 116 rfl rfl), (wa_7 117 rfl rfl)⟩
theorem lw_365 : MkW md_L_kindOf hh_L_kindOf 3 ∧ Cond.methodLink md_law.1.cls 365 md_L_kindOf.1 ∈ wAll ∧ Cond.static md_L_kindOf.1 ∈ wAll := ⟨mk_L_kindOf, (wa_7 120 rfl rfl), (wa_7 121 rfl rfl)⟩
theorem lw_368 : MkW md_L_lengthOf hh_L_lengthOf 3 ∧ Cond.methodLink md_law.1.cls 368 md_L_lengthOf.1 ∈ wAll ∧ Cond.static md_L_lengthOf.1 ∈ wAll := ⟨mk_L_lengthOf, (wa_7 124 rfl rfl), (wa_7 125 rfl rfl)⟩
theorem lw_371 : MkW md_L_wordsOf hh_L_wordsOf 3 ∧ Cond.methodLink md_law.1.cls 371 md_L_wordsOf.1 ∈ wAll ∧ Cond.static md_L_wordsOf.1 ∈ wAll := ⟨mk_L_wordsOf, (wa_7 128 rfl rfl), (wa_7 129 rfl rfl)⟩
theorem lw_374 : MkW md_L_ageOf hh_L_ageOf 3 ∧ Cond.methodLink md_law.1.cls 374 md_L_ageOf.1 ∈ wAll ∧ Cond.static md_L_ageOf.1 ∈ wAll := ⟨mk_L_ageOf, (wa_7 132 rfl rfl), (wa_7 133 rfl rfl)⟩
theorem lw_377 : MkW md_L_isOld hh_L_isOld 3 ∧ Cond.methodLink md_law.1.cls 377 md_L_isOld.1 ∈ wAll ∧ Cond.static md_L_isOld.1 ∈ wAll := ⟨mk_L_isOld, (wa_7 136 rfl rfl), (wa_7 137 rfl rfl)⟩
theorem lw_380 : MkW md_L_isFinalized hh_L_isFinalized 3 ∧ Cond.methodLink md_law.1.cls 380 md_L_isFinalized.1 ∈ wAll ∧ Cond.static md_L_isFinalized.1 ∈ wAll := ⟨mk_L_isFinalized, (wa_7 140 rfl rfl), (wa_7 141 rfl rfl)⟩
theorem lw_383 : MkW md_L_isInterned hh_L_isInterned 3 ∧ Cond.methodLink md_law.1.cls 383 md_L_isInterned.1 ∈ wAll ∧ Cond.static md_L_isInterned.1 ∈ wAll := ⟨mk_L_isInterned, (wa_7 144 rfl rfl), (wa_7 145 rfl rfl)⟩
theorem lw_386 : MkW md_L_isCleared hh_L_isCleared 3 ∧ Cond.methodLink md_law.1.cls 386 md_L_isCleared.1 ∈ wAll ∧ Cond.static md_L_isCleared.1 ∈ wAll := ⟨mk_L_isCleared, (wa_7 148 rfl rfl), (wa_7 149 rfl rfl)⟩
theorem lw_389 : MkW md_L_entriesOf hh_L_entriesOf 3 ∧ Cond.methodLink md_law.1.cls 389 md_L_entriesOf.1 ∈ wAll ∧ Cond.static md_L_entriesOf.1 ∈ wAll := ⟨mk_L_entriesOf, (wa_7 152 rfl rfl), (wa_7 153 rfl rfl)⟩
theorem lw_445 : MkW md_L_imageAt hh_L_imageAt 3 ∧ Cond.methodLink md_law.1.cls 445 md_L_imageAt.1 ∈ wAll ∧ Cond.static md_L_imageAt.1 ∈ wAll := ⟨mk_L_imageAt, (wa_7 156 rfl rfl), (wa_7 157 rfl rfl)⟩
theorem lw_464 : MkW md_L_retained hh_L_retained 3 ∧ Cond.methodLink md_law.1.cls 464 md_L_retained.1 ∈ wAll ∧ Cond.static md_L_retained.1 ∈ wAll := ⟨mk_L_retained, (wa_7 163 rfl rfl), (wa_7 164 rfl rfl)⟩
theorem lw_471 : MkW md_L_onCircle hh_L_onCircle 3 ∧ Cond.methodLink md_law.1.cls 471 md_L_onCircle.1 ∈ wAll ∧ Cond.static md_L_onCircle.1 ∈ wAll := ⟨mk_L_onCircle, (wa_7 171 rfl rfl), (wa_7 172 rfl rfl)⟩
theorem lw_474 : MkW md_L_referrers hh_L_referrers 3 ∧ Cond.methodLink md_law.1.cls 474 md_L_referrers.1 ∈ wAll ∧ Cond.static md_L_referrers.1 ∈ wAll := ⟨mk_L_referrers, (wa_7 183 rfl rfl), (wa_7 184 rfl rfl)⟩
theorem lw_477 : MkW md_L_sameShape hh_L_sameShape 4 ∧ Cond.methodLink md_law.1.cls 477 md_L_sameShape.1 ∈ wAll ∧ Cond.static md_L_sameShape.1 ∈ wAll := ⟨mk_L_sameShape, (wa_7 194 rfl rfl), (wa_7 195 rfl rfl)⟩
