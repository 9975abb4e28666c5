theorem dX0_init_0 : decode cX0_init 0 = .ok (.aload_n 0, 1) := by decide +kernel
theorem dX0_init_1 : decode cX0_init 1 = .ok (.invokespecial 3, 3) := by decide +kernel
theorem dX0_init_4 : decode cX0_init 4 = .ok (.aload_n 0, 1) := by decide +kernel
theorem dX0_init_5 : decode cX0_init 5 = .ok (.sipush 208, 3) := by decide +kernel
theorem dX0_init_8 : decode cX0_init 8 = .ok (.newarray .boolean, 2) := by decide +kernel
theorem dX0_init_10 : decode cX0_init 10 = .ok (.putfield 9, 3) := by decide +kernel
theorem dX0_init_13 : decode cX0_init 13 = .ok (.aload_n 0, 1) := by decide +kernel
theorem dX0_init_14 : decode cX0_init 14 = .ok (.sipush 208, 3) := by decide +kernel
theorem dX0_init_17 : decode cX0_init 17 = .ok (.newarray .int, 2) := by decide +kernel
theorem dX0_init_19 : decode cX0_init 19 = .ok (.putfield 15, 3) := by decide +kernel
theorem dX0_init_22 : decode cX0_init 22 = .ok (.aload_n 0, 1) := by decide +kernel
theorem dX0_init_23 : decode cX0_init 23 = .ok (.iconst (-1), 1) := by decide +kernel
theorem dX0_init_24 : decode cX0_init 24 = .ok (.putfield 19, 3) := by decide +kernel
theorem dX0_init_27 : decode cX0_init 27 = .ok (.return_, 1) := by decide +kernel
theorem dX0_contains_0 : decode cX0_contains 0 = .ok (.iload_n 1, 1) := by decide +kernel
theorem dX0_contains_1 : decode cX0_contains 1 = .ok (.ifCond .lt 23, 3) := by decide +kernel
theorem dX0_contains_4 : decode cX0_contains 4 = .ok (.iload_n 1, 1) := by decide +kernel
theorem dX0_contains_5 : decode cX0_contains 5 = .ok (.sipush 208, 3) := by decide +kernel
theorem dX0_contains_8 : decode cX0_contains 8 = .ok (.if_icmp .ge 16, 3) := by decide +kernel
theorem dX0_contains_11 : decode cX0_contains 11 = .ok (.aload_n 0, 1) := by decide +kernel
theorem dX0_contains_12 : decode cX0_contains 12 = .ok (.getfield 9, 3) := by decide +kernel
theorem dX0_contains_15 : decode cX0_contains 15 = .ok (.iload_n 1, 1) := by decide +kernel
theorem dX0_contains_16 : decode cX0_contains 16 = .ok (.baload, 1) := by decide +kernel
theorem dX0_contains_17 : decode cX0_contains 17 = .ok (.ifCond .eq 7, 3) := by decide +kernel
theorem dX0_contains_20 : decode cX0_contains 20 = .ok (.iconst 1, 1) := by decide +kernel
theorem dX0_contains_21 : decode cX0_contains 21 = .ok (.goto 4, 3) := by decide +kernel
theorem dX0_contains_24 : decode cX0_contains 24 = .ok (.iconst 0, 1) := by decide +kernel
theorem dX0_contains_25 : decode cX0_contains 25 = .ok (.ireturn, 1) := by decide +kernel
theorem dX0_include_0 : decode cX0_include 0 = .ok (.iload_n 1, 1) := by decide +kernel
theorem dX0_include_1 : decode cX0_include 1 = .ok (.ifCond .lt 27, 3) := by decide +kernel
theorem dX0_include_4 : decode cX0_include 4 = .ok (.iload_n 1, 1) := by decide +kernel
theorem dX0_include_5 : decode cX0_include 5 = .ok (.sipush 208, 3) := by decide +kernel
theorem dX0_include_8 : decode cX0_include 8 = .ok (.if_icmp .ge 20, 3) := by decide +kernel
theorem dX0_include_11 : decode cX0_include 11 = .ok (.aload_n 0, 1) := by decide +kernel
theorem dX0_include_12 : decode cX0_include 12 = .ok (.getfield 9, 3) := by decide +kernel
theorem dX0_include_15 : decode cX0_include 15 = .ok (.iload_n 1, 1) := by decide +kernel
theorem dX0_include_16 : decode cX0_include 16 = .ok (.baload, 1) := by decide +kernel
theorem dX0_include_17 : decode cX0_include 17 = .ok (.ifCond .ne 11, 3) := by decide +kernel
theorem dX0_include_20 : decode cX0_include 20 = .ok (.iload_n 1, 1) := by decide +kernel
theorem dX0_include_21 : decode cX0_include 21 = .ok (.aload_n 0, 1) := by decide +kernel
theorem dX0_include_22 : decode cX0_include 22 = .ok (.getfield 19, 3) := by decide +kernel
theorem dX0_include_25 : decode cX0_include 25 = .ok (.if_icmp .ne 4, 3) := by decide +kernel
theorem dX0_include_28 : decode cX0_include 28 = .ok (.return_, 1) := by decide +kernel
theorem dX0_include_29 : decode cX0_include 29 = .ok (.aload_n 0, 1) := by decide +kernel
theorem dX0_include_30 : decode cX0_include 30 = .ok (.getfield 9, 3) := by decide +kernel
theorem dX0_include_33 : decode cX0_include 33 = .ok (.iload_n 1, 1) := by decide +kernel
theorem dX0_include_34 : decode cX0_include 34 = .ok (.iconst 1, 1) := by decide +kernel
theorem dX0_include_35 : decode cX0_include 35 = .ok (.bastore, 1) := by decide +kernel
theorem dX0_include_36 : decode cX0_include 36 = .ok (.aload_n 0, 1) := by decide +kernel
theorem dX0_include_37 : decode cX0_include 37 = .ok (.getfield 15, 3) := by decide +kernel
theorem dX0_include_40 : decode cX0_include 40 = .ok (.aload_n 0, 1) := by decide +kernel
theorem dX0_include_41 : decode cX0_include 41 = .ok (.getfield 23, 3) := by decide +kernel
theorem dX0_include_44 : decode cX0_include 44 = .ok (.iload_n 1, 1) := by decide +kernel
theorem dX0_include_45 : decode cX0_include 45 = .ok (.iastore, 1) := by decide +kernel
theorem dX0_include_46 : decode cX0_include 46 = .ok (.aload_n 0, 1) := by decide +kernel
theorem dX0_include_47 : decode cX0_include 47 = .ok (.dup, 1) := by decide +kernel
theorem dX0_include_48 : decode cX0_include 48 = .ok (.getfield 23, 3) := by decide +kernel
theorem dX0_include_51 : decode cX0_include 51 = .ok (.iconst 1, 1) := by decide +kernel
theorem dX0_include_52 : decode cX0_include 52 = .ok (.iadd, 1) := by decide +kernel
theorem dX0_include_53 : decode cX0_include 53 = .ok (.putfield 23, 3) := by decide +kernel
theorem dX0_include_56 : decode cX0_include 56 = .ok (.return_, 1) := by decide +kernel
theorem dX0_includeAll_0 : decode cX0_includeAll 0 = .ok (.iconst 0, 1) := by decide +kernel
theorem dX0_includeAll_1 : decode cX0_includeAll 1 = .ok (.istore_n 2, 1) := by decide +kernel
theorem dX0_includeAll_2 : decode cX0_includeAll 2 = .ok (.iload_n 2, 1) := by decide +kernel
theorem dX0_includeAll_3 : decode cX0_includeAll 3 = .ok (.aload_n 1, 1) := by decide +kernel
theorem dX0_includeAll_4 : decode cX0_includeAll 4 = .ok (.getfield 23, 3) := by decide +kernel
theorem dX0_includeAll_7 : decode cX0_includeAll 7 = .ok (.if_icmp .ge 19, 3) := by decide +kernel
theorem dX0_includeAll_10 : decode cX0_includeAll 10 = .ok (.aload_n 0, 1) := by decide +kernel
theorem dX0_includeAll_11 : decode cX0_includeAll 11 = .ok (.aload_n 1, 1) := by decide +kernel
theorem dX0_includeAll_12 : decode cX0_includeAll 12 = .ok (.getfield 15, 3) := by decide +kernel
theorem dX0_includeAll_15 : decode cX0_includeAll 15 = .ok (.iload_n 2, 1) := by decide +kernel
theorem dX0_includeAll_16 : decode cX0_includeAll 16 = .ok (.iaload, 1) := by decide +kernel
theorem dX0_includeAll_17 : decode cX0_includeAll 17 = .ok (.invokevirtual 26, 3) := by decide +kernel
theorem dX0_includeAll_20 : decode cX0_includeAll 20 = .ok (.iinc 2 1, 3) := by decide +kernel
theorem dX0_includeAll_23 : decode cX0_includeAll 23 = .ok (.goto (-21), 3) := by decide +kernel
theorem dX0_includeAll_26 : decode cX0_includeAll 26 = .ok (.return_, 1) := by decide +kernel
theorem dX0_makeEmpty_0 : decode cX0_makeEmpty 0 = .ok (.iconst 0, 1) := by decide +kernel
theorem dX0_makeEmpty_1 : decode cX0_makeEmpty 1 = .ok (.istore_n 1, 1) := by decide +kernel
theorem dX0_makeEmpty_2 : decode cX0_makeEmpty 2 = .ok (.iload_n 1, 1) := by decide +kernel
theorem dX0_makeEmpty_3 : decode cX0_makeEmpty 3 = .ok (.aload_n 0, 1) := by decide +kernel
theorem dX0_makeEmpty_4 : decode cX0_makeEmpty 4 = .ok (.getfield 23, 3) := by decide +kernel
theorem dX0_makeEmpty_7 : decode cX0_makeEmpty 7 = .ok (.if_icmp .ge 21, 3) := by decide +kernel
theorem dX0_makeEmpty_10 : decode cX0_makeEmpty 10 = .ok (.aload_n 0, 1) := by decide +kernel
theorem dX0_makeEmpty_11 : decode cX0_makeEmpty 11 = .ok (.getfield 9, 3) := by decide +kernel
theorem dX0_makeEmpty_14 : decode cX0_makeEmpty 14 = .ok (.aload_n 0, 1) := by decide +kernel
theorem dX0_makeEmpty_15 : decode cX0_makeEmpty 15 = .ok (.getfield 15, 3) := by decide +kernel
theorem dX0_makeEmpty_18 : decode cX0_makeEmpty 18 = .ok (.iload_n 1, 1) := by decide +kernel
theorem dX0_makeEmpty_19 : decode cX0_makeEmpty 19 = .ok (.iaload, 1) := by decide +kernel
theorem dX0_makeEmpty_20 : decode cX0_makeEmpty 20 = .ok (.iconst 0, 1) := by decide +kernel
theorem dX0_makeEmpty_21 : decode cX0_makeEmpty 21 = .ok (.bastore, 1) := by decide +kernel
theorem dX0_makeEmpty_22 : decode cX0_makeEmpty 22 = .ok (.iinc 1 1, 3) := by decide +kernel
theorem dX0_makeEmpty_25 : decode cX0_makeEmpty 25 = .ok (.goto (-23), 3) := by decide +kernel
theorem dX0_makeEmpty_28 : decode cX0_makeEmpty 28 = .ok (.aload_n 0, 1) := by decide +kernel
theorem dX0_makeEmpty_29 : decode cX0_makeEmpty 29 = .ok (.iconst 0, 1) := by decide +kernel
theorem dX0_makeEmpty_30 : decode cX0_makeEmpty 30 = .ok (.putfield 23, 3) := by decide +kernel
theorem dX0_makeEmpty_33 : decode cX0_makeEmpty 33 = .ok (.return_, 1) := by decide +kernel
theorem dX1_init_0 : decode cX1_init 0 = .ok (.aload_n 0, 1) := by decide +kernel
theorem dX1_init_1 : decode cX1_init 1 = .ok (.invokespecial 3, 3) := by decide +kernel
theorem dX1_init_4 : decode cX1_init 4 = .ok (.aload_n 0, 1) := by decide +kernel
theorem dX1_init_5 : decode cX1_init 5 = .ok (.new 9, 3) := by decide +kernel
theorem dX1_init_8 : decode cX1_init 8 = .ok (.dup, 1) := by decide +kernel
theorem dX1_init_9 : decode cX1_init 9 = .ok (.invokespecial 11, 3) := by decide +kernel
theorem dX1_init_12 : decode cX1_init 12 = .ok (.putfield 12, 3) := by decide +kernel
theorem dX1_init_15 : decode cX1_init 15 = .ok (.aload_n 0, 1) := by decide +kernel
theorem dX1_init_16 : decode cX1_init 16 = .ok (.new 9, 3) := by decide +kernel
theorem dX1_init_19 : decode cX1_init 19 = .ok (.dup, 1) := by decide +kernel
theorem dX1_init_20 : decode cX1_init 20 = .ok (.invokespecial 11, 3) := by decide +kernel
theorem dX1_init_23 : decode cX1_init 23 = .ok (.putfield 18, 3) := by decide +kernel
theorem dX1_init_26 : decode cX1_init 26 = .ok (.aload_n 0, 1) := by decide +kernel
theorem dX1_init_27 : decode cX1_init 27 = .ok (.iconst 2, 1) := by decide +kernel
theorem dX1_init_28 : decode cX1_init 28 = .ok (.putfield 21, 3) := by decide +kernel
theorem dX1_init_31 : decode cX1_init 31 = .ok (.aload_n 0, 1) := by decide +kernel
theorem dX1_init_32 : decode cX1_init 32 = .ok (.aload_n 1, 1) := by decide +kernel
theorem dX1_init_33 : decode cX1_init 33 = .ok (.putfield 25, 3) := by decide +kernel
theorem dX1_init_36 : decode cX1_init 36 = .ok (.aload_n 0, 1) := by decide +kernel
theorem dX1_init_37 : decode cX1_init 37 = .ok (.aload_n 2, 1) := by decide +kernel
theorem dX1_init_38 : decode cX1_init 38 = .ok (.putfield 29, 3) := by decide +kernel
theorem dX1_init_41 : decode cX1_init 41 = .ok (.aload_n 0, 1) := by decide +kernel
theorem dX1_init_42 : decode cX1_init 42 = .ok (.aload_n 3, 1) := by decide +kernel
theorem dX1_init_43 : decode cX1_init 43 = .ok (.putfield 33, 3) := by decide +kernel
theorem dX1_init_46 : decode cX1_init 46 = .ok (.aload_n 0, 1) := by decide +kernel
theorem dX1_init_47 : decode cX1_init 47 = .ok (.aload 4, 2) := by decide +kernel
theorem dX1_init_49 : decode cX1_init 49 = .ok (.putfield 37, 3) := by decide +kernel
theorem dX1_init_52 : decode cX1_init 52 = .ok (.return_, 1) := by decide +kernel
theorem dX1_make_0 : decode cX1_make 0 = .ok (.aload_n 0, 1) := by decide +kernel
theorem dX1_make_1 : decode cX1_make 1 = .ok (.getfield 25, 3) := by decide +kernel
theorem dX1_make_4 : decode cX1_make 4 = .ok (.iload_n 1, 1) := by decide +kernel
theorem dX1_make_5 : decode cX1_make 5 = .ok (.iload_n 2, 1) := by decide +kernel
theorem dX1_make_6 : decode cX1_make 6 = .ok (.iload_n 3, 1) := by decide +kernel
theorem dX1_make_7 : decode cX1_make 7 = .ok (.iload 4, 2) := by decide +kernel
theorem dX1_make_9 : decode cX1_make 9 = .ok (.invokevirtual 41, 3) := by decide +kernel
theorem dX1_make_12 : decode cX1_make 12 = .ok (.istore 5, 2) := by decide +kernel
theorem dX1_make_14 : decode cX1_make 14 = .ok (.aload_n 0, 1) := by decide +kernel
theorem dX1_make_15 : decode cX1_make 15 = .ok (.getfield 37, 3) := by decide +kernel
theorem dX1_make_18 : decode cX1_make 18 = .ok (.iload 5, 2) := by decide +kernel
theorem dX1_make_20 : decode cX1_make 20 = .ok (.invokevirtual 47, 3) := by decide +kernel
theorem dX1_make_23 : decode cX1_make 23 = .ok (.iload 5, 2) := by decide +kernel
theorem dX1_make_25 : decode cX1_make 25 = .ok (.ireturn, 1) := by decide +kernel
theorem dX1_findRoom_0 : decode cX1_findRoom 0 = .ok (.iconst 0, 1) := by decide +kernel
theorem dX1_findRoom_1 : decode cX1_findRoom 1 = .ok (.istore_n 2, 1) := by decide +kernel
theorem dX1_findRoom_2 : decode cX1_findRoom 2 = .ok (.iload_n 2, 1) := by decide +kernel
theorem dX1_findRoom_3 : decode cX1_findRoom 3 = .ok (.iconst 3, 1) := by decide +kernel
theorem dX1_findRoom_4 : decode cX1_findRoom 4 = .ok (.if_icmp .gt 39, 3) := by decide +kernel
theorem dX1_findRoom_7 : decode cX1_findRoom 7 = .ok (.aload_n 0, 1) := by decide +kernel
theorem dX1_findRoom_8 : decode cX1_findRoom 8 = .ok (.iload_n 1, 1) := by decide +kernel
theorem dX1_findRoom_9 : decode cX1_findRoom 9 = .ok (.invokevirtual 53, 3) := by decide +kernel
theorem dX1_findRoom_12 : decode cX1_findRoom 12 = .ok (.ifCond .eq 5, 3) := by decide +kernel
theorem dX1_findRoom_15 : decode cX1_findRoom 15 = .ok (.iconst 1, 1) := by decide +kernel
theorem dX1_findRoom_16 : decode cX1_findRoom 16 = .ok (.ireturn, 1) := by decide +kernel
theorem dX1_findRoom_17 : decode cX1_findRoom 17 = .ok (.iload_n 2, 1) := by decide +kernel
theorem dX1_findRoom_18 : decode cX1_findRoom 18 = .ok (.ifCond .ne 13, 3) := by decide +kernel
theorem dX1_findRoom_21 : decode cX1_findRoom 21 = .ok (.aload_n 0, 1) := by decide +kernel
theorem dX1_findRoom_22 : decode cX1_findRoom 22 = .ok (.getfield 37, 3) := by decide +kernel
theorem dX1_findRoom_25 : decode cX1_findRoom 25 = .ok (.getfield 57, 3) := by decide +kernel
theorem dX1_findRoom_28 : decode cX1_findRoom 28 = .ok (.ifCond .eq 9, 3) := by decide +kernel
theorem dX1_findRoom_31 : decode cX1_findRoom 31 = .ok (.aload_n 0, 1) := by decide +kernel
theorem dX1_findRoom_32 : decode cX1_findRoom 32 = .ok (.iload_n 2, 1) := by decide +kernel
theorem dX1_findRoom_33 : decode cX1_findRoom 33 = .ok (.invokevirtual 61, 3) := by decide +kernel
theorem dX1_findRoom_36 : decode cX1_findRoom 36 = .ok (.pop, 1) := by decide +kernel
theorem dX1_findRoom_37 : decode cX1_findRoom 37 = .ok (.iinc 2 1, 3) := by decide +kernel
theorem dX1_findRoom_40 : decode cX1_findRoom 40 = .ok (.goto (-38), 3) := by decide +kernel
theorem dX1_findRoom_43 : decode cX1_findRoom 43 = .ok (.aload_n 0, 1) := by decide +kernel
theorem dX1_findRoom_44 : decode cX1_findRoom 44 = .ok (.iload_n 1, 1) := by decide +kernel
theorem dX1_findRoom_45 : decode cX1_findRoom 45 = .ok (.invokevirtual 53, 3) := by decide +kernel
theorem dX1_findRoom_48 : decode cX1_findRoom 48 = .ok (.ireturn, 1) := by decide +kernel
theorem dX1_isRoomFor_0 : decode cX1_isRoomFor 0 = .ok (.iload_n 1, 1) := by decide +kernel
theorem dX1_isRoomFor_1 : decode cX1_isRoomFor 1 = .ok (.bipush 32, 2) := by decide +kernel
theorem dX1_isRoomFor_3 : decode cX1_isRoomFor 3 = .ok (.if_icmp .gt 23, 3) := by decide +kernel
theorem dX1_isRoomFor_6 : decode cX1_isRoomFor 6 = .ok (.aload_n 0, 1) := by decide +kernel
theorem dX1_isRoomFor_7 : decode cX1_isRoomFor 7 = .ok (.getfield 25, 3) := by decide +kernel
theorem dX1_isRoomFor_10 : decode cX1_isRoomFor 10 = .ok (.getfield 65, 3) := by decide +kernel
theorem dX1_isRoomFor_13 : decode cX1_isRoomFor 13 = .ok (.iload_n 1, 1) := by decide +kernel
theorem dX1_isRoomFor_14 : decode cX1_isRoomFor 14 = .ok (.iadd, 1) := by decide +kernel
theorem dX1_isRoomFor_15 : decode cX1_isRoomFor 15 = .ok (.bipush 96, 2) := by decide +kernel
theorem dX1_isRoomFor_17 : decode cX1_isRoomFor 17 = .ok (.if_icmp .gt 7, 3) := by decide +kernel
theorem dX1_isRoomFor_20 : decode cX1_isRoomFor 20 = .ok (.iconst 1, 1) := by decide +kernel
theorem dX1_isRoomFor_21 : decode cX1_isRoomFor 21 = .ok (.goto 4, 3) := by decide +kernel
theorem dX1_isRoomFor_24 : decode cX1_isRoomFor 24 = .ok (.iconst 0, 1) := by decide +kernel
theorem dX1_isRoomFor_25 : decode cX1_isRoomFor 25 = .ok (.ireturn, 1) := by decide +kernel
theorem dX1_isRoomFor_26 : decode cX1_isRoomFor 26 = .ok (.aload_n 0, 1) := by decide +kernel
theorem dX1_isRoomFor_27 : decode cX1_isRoomFor 27 = .ok (.getfield 25, 3) := by decide +kernel
theorem dX1_isRoomFor_30 : decode cX1_isRoomFor 30 = .ok (.getfield 68, 3) := by decide +kernel
theorem dX1_isRoomFor_33 : decode cX1_isRoomFor 33 = .ok (.iload_n 1, 1) := by decide +kernel
theorem dX1_isRoomFor_34 : decode cX1_isRoomFor 34 = .ok (.iadd, 1) := by decide +kernel
theorem dX1_isRoomFor_35 : decode cX1_isRoomFor 35 = .ok (.sipush 320, 3) := by decide +kernel
theorem dX1_isRoomFor_38 : decode cX1_isRoomFor 38 = .ok (.if_icmp .gt 7, 3) := by decide +kernel
theorem dX1_isRoomFor_41 : decode cX1_isRoomFor 41 = .ok (.iconst 1, 1) := by decide +kernel
theorem dX1_isRoomFor_42 : decode cX1_isRoomFor 42 = .ok (.goto 4, 3) := by decide +kernel
theorem dX1_isRoomFor_45 : decode cX1_isRoomFor 45 = .ok (.iconst 0, 1) := by decide +kernel
theorem dX1_isRoomFor_46 : decode cX1_isRoomFor 46 = .ok (.ireturn, 1) := by decide +kernel
theorem dX1_collect_0 : decode cX1_collect 0 = .ok (.iload_n 1, 1) := by decide +kernel
theorem dX1_collect_1 : decode cX1_collect 1 = .ok (.iconst 1, 1) := by decide +kernel
theorem dX1_collect_2 : decode cX1_collect 2 = .ok (.if_icmp .ne 28, 3) := by decide +kernel
theorem dX1_collect_5 : decode cX1_collect 5 = .ok (.aload_n 0, 1) := by decide +kernel
theorem dX1_collect_6 : decode cX1_collect 6 = .ok (.getfield 25, 3) := by decide +kernel
theorem dX1_collect_9 : decode cX1_collect 9 = .ok (.getfield 65, 3) := by decide +kernel
theorem dX1_collect_12 : decode cX1_collect 12 = .ok (.aload_n 0, 1) := by decide +kernel
theorem dX1_collect_13 : decode cX1_collect 13 = .ok (.getfield 25, 3) := by decide +kernel
theorem dX1_collect_16 : decode cX1_collect 16 = .ok (.getfield 68, 3) := by decide +kernel
theorem dX1_collect_19 : decode cX1_collect 19 = .ok (.iadd, 1) := by decide +kernel
theorem dX1_collect_20 : decode cX1_collect 20 = .ok (.sipush 320, 3) := by decide +kernel
theorem dX1_collect_23 : decode cX1_collect 23 = .ok (.if_icmp .gt 7, 3) := by decide +kernel
theorem dX1_collect_26 : decode cX1_collect 26 = .ok (.iconst 1, 1) := by decide +kernel
theorem dX1_collect_27 : decode cX1_collect 27 = .ok (.goto 4, 3) := by decide +kernel
theorem dX1_collect_30 : decode cX1_collect 30 = .ok (.iconst 0, 1) := by decide +kernel
theorem dX1_collect_31 : decode cX1_collect 31 = .ok (.istore_n 2, 1) := by decide +kernel
theorem dX1_collect_32 : decode cX1_collect 32 = .ok (.iload_n 1, 1) := by decide +kernel
theorem dX1_collect_33 : decode cX1_collect 33 = .ok (.ifCond .ne 10, 3) := by decide +kernel
theorem dX1_collect_36 : decode cX1_collect 36 = .ok (.aload_n 0, 1) := by decide +kernel
theorem dX1_collect_37 : decode cX1_collect 37 = .ok (.invokevirtual 71, 3) := by decide +kernel
theorem dX1_collect_40 : decode cX1_collect 40 = .ok (.goto 18, 3) := by decide +kernel
theorem dX1_collect_43 : decode cX1_collect 43 = .ok (.aload_n 0, 1) := by decide +kernel
theorem dX1_collect_44 : decode cX1_collect 44 = .ok (.iload_n 2, 1) := by decide +kernel
theorem dX1_collect_45 : decode cX1_collect 45 = .ok (.iload_n 1, 1) := by decide +kernel
theorem dX1_collect_46 : decode cX1_collect 46 = .ok (.iconst 3, 1) := by decide +kernel
theorem dX1_collect_47 : decode cX1_collect 47 = .ok (.if_icmp .ne 7, 3) := by decide +kernel
theorem dX1_collect_50 : decode cX1_collect 50 = .ok (.iconst 1, 1) := by decide +kernel
theorem dX1_collect_51 : decode cX1_collect 51 = .ok (.goto 4, 3) := by decide +kernel
theorem dX1_collect_54 : decode cX1_collect 54 = .ok (.iconst 0, 1) := by decide +kernel
theorem dX1_collect_55 : decode cX1_collect 55 = .ok (.invokevirtual 74, 3) := by decide +kernel
theorem dX1_collect_58 : decode cX1_collect 58 = .ok (.aload_n 0, 1) := by decide +kernel
theorem dX1_collect_59 : decode cX1_collect 59 = .ok (.iload_n 1, 1) := by decide +kernel
theorem dX1_collect_60 : decode cX1_collect 60 = .ok (.iconst 3, 1) := by decide +kernel
theorem dX1_collect_61 : decode cX1_collect 61 = .ok (.if_icmp .ne 7, 3) := by decide +kernel
theorem dX1_collect_64 : decode cX1_collect 64 = .ok (.iconst 1, 1) := by decide +kernel
theorem dX1_collect_65 : decode cX1_collect 65 = .ok (.goto 4, 3) := by decide +kernel
theorem dX1_collect_68 : decode cX1_collect 68 = .ok (.iconst 0, 1) := by decide +kernel
theorem dX1_collect_69 : decode cX1_collect 69 = .ok (.invokevirtual 78, 3) := by decide +kernel
theorem dX1_collect_72 : decode cX1_collect 72 = .ok (.aload_n 0, 1) := by decide +kernel
theorem dX1_collect_73 : decode cX1_collect 73 = .ok (.invokevirtual 82, 3) := by decide +kernel
theorem dX1_collect_76 : decode cX1_collect 76 = .ok (.aload_n 0, 1) := by decide +kernel
theorem dX1_collect_77 : decode cX1_collect 77 = .ok (.invokevirtual 85, 3) := by decide +kernel
theorem dX1_collect_80 : decode cX1_collect 80 = .ok (.aload_n 0, 1) := by decide +kernel
theorem dX1_collect_81 : decode cX1_collect 81 = .ok (.invokevirtual 88, 3) := by decide +kernel
theorem dX1_collect_84 : decode cX1_collect 84 = .ok (.aload_n 0, 1) := by decide +kernel
theorem dX1_collect_85 : decode cX1_collect 85 = .ok (.getfield 25, 3) := by decide +kernel
theorem dX1_collect_88 : decode cX1_collect 88 = .ok (.getfield 91, 3) := by decide +kernel
theorem dX1_collect_91 : decode cX1_collect 91 = .ok (.aload_n 0, 1) := by decide +kernel
theorem dX1_collect_92 : decode cX1_collect 92 = .ok (.getfield 18, 3) := by decide +kernel
theorem dX1_collect_95 : decode cX1_collect 95 = .ok (.getfield 94, 3) := by decide +kernel
theorem dX1_collect_98 : decode cX1_collect 98 = .ok (.isub, 1) := by decide +kernel
theorem dX1_collect_99 : decode cX1_collect 99 = .ok (.istore_n 3, 1) := by decide +kernel
theorem dX1_collect_100 : decode cX1_collect 100 = .ok (.aload_n 0, 1) := by decide +kernel
theorem dX1_collect_101 : decode cX1_collect 101 = .ok (.getfield 25, 3) := by decide +kernel
theorem dX1_collect_104 : decode cX1_collect 104 = .ok (.aload_n 0, 1) := by decide +kernel
theorem dX1_collect_105 : decode cX1_collect 105 = .ok (.getfield 18, 3) := by decide +kernel
theorem dX1_collect_108 : decode cX1_collect 108 = .ok (.invokevirtual 97, 3) := by decide +kernel
theorem dX1_collect_111 : decode cX1_collect 111 = .ok (.iload_n 2, 1) := by decide +kernel
theorem dX1_collect_112 : decode cX1_collect 112 = .ok (.ifCond .eq 27, 3) := by decide +kernel
theorem dX1_collect_115 : decode cX1_collect 115 = .ok (.aload_n 0, 1) := by decide +kernel
theorem dX1_collect_116 : decode cX1_collect 116 = .ok (.getfield 25, 3) := by decide +kernel
theorem dX1_collect_119 : decode cX1_collect 119 = .ok (.aload_n 0, 1) := by decide +kernel
theorem dX1_collect_120 : decode cX1_collect 120 = .ok (.getfield 21, 3) := by decide +kernel
theorem dX1_collect_123 : decode cX1_collect 123 = .ok (.invokevirtual 101, 3) := by decide +kernel
theorem dX1_collect_126 : decode cX1_collect 126 = .ok (.aload_n 0, 1) := by decide +kernel
theorem dX1_collect_127 : decode cX1_collect 127 = .ok (.dup, 1) := by decide +kernel
theorem dX1_collect_128 : decode cX1_collect 128 = .ok (.getfield 104, 3) := by decide +kernel
theorem dX1_collect_131 : decode cX1_collect 131 = .ok (.iconst 1, 1) := by decide +kernel
theorem dX1_collect_132 : decode cX1_collect 132 = .ok (.iadd, 1) := by decide +kernel
theorem dX1_collect_133 : decode cX1_collect 133 = .ok (.putfield 104, 3) := by decide +kernel
theorem dX1_collect_136 : decode cX1_collect 136 = .ok (.goto 20, 3) := by decide +kernel
theorem dX1_collect_139 : decode cX1_collect 139 = .ok (.aload_n 0, 1) := by decide +kernel
theorem dX1_collect_140 : decode cX1_collect 140 = .ok (.getfield 25, 3) := by decide +kernel
theorem dX1_collect_143 : decode cX1_collect 143 = .ok (.invokevirtual 107, 3) := by decide +kernel
theorem dX1_collect_146 : decode cX1_collect 146 = .ok (.aload_n 0, 1) := by decide +kernel
theorem dX1_collect_147 : decode cX1_collect 147 = .ok (.dup, 1) := by decide +kernel
theorem dX1_collect_148 : decode cX1_collect 148 = .ok (.getfield 110, 3) := by decide +kernel
theorem dX1_collect_151 : decode cX1_collect 151 = .ok (.iconst 1, 1) := by decide +kernel
theorem dX1_collect_152 : decode cX1_collect 152 = .ok (.iadd, 1) := by decide +kernel
theorem dX1_collect_153 : decode cX1_collect 153 = .ok (.putfield 110, 3) := by decide +kernel
theorem dX1_collect_156 : decode cX1_collect 156 = .ok (.iload_n 3, 1) := by decide +kernel
theorem dX1_collect_157 : decode cX1_collect 157 = .ok (.ireturn, 1) := by decide +kernel
theorem dX1_countDoomed_0 : decode cX1_countDoomed 0 = .ok (.aload_n 0, 1) := by decide +kernel
theorem dX1_countDoomed_1 : decode cX1_countDoomed 1 = .ok (.iconst 0, 1) := by decide +kernel
theorem dX1_countDoomed_2 : decode cX1_countDoomed 2 = .ok (.iload_n 1, 1) := by decide +kernel
theorem dX1_countDoomed_3 : decode cX1_countDoomed 3 = .ok (.invokevirtual 74, 3) := by decide +kernel
theorem dX1_countDoomed_6 : decode cX1_countDoomed 6 = .ok (.aload_n 0, 1) := by decide +kernel
theorem dX1_countDoomed_7 : decode cX1_countDoomed 7 = .ok (.iload_n 1, 1) := by decide +kernel
theorem dX1_countDoomed_8 : decode cX1_countDoomed 8 = .ok (.invokevirtual 78, 3) := by decide +kernel
theorem dX1_countDoomed_11 : decode cX1_countDoomed 11 = .ok (.aload_n 0, 1) := by decide +kernel
theorem dX1_countDoomed_12 : decode cX1_countDoomed 12 = .ok (.getfield 25, 3) := by decide +kernel
theorem dX1_countDoomed_15 : decode cX1_countDoomed 15 = .ok (.getfield 91, 3) := by decide +kernel
theorem dX1_countDoomed_18 : decode cX1_countDoomed 18 = .ok (.aload_n 0, 1) := by decide +kernel
theorem dX1_countDoomed_19 : decode cX1_countDoomed 19 = .ok (.getfield 18, 3) := by decide +kernel
theorem dX1_countDoomed_22 : decode cX1_countDoomed 22 = .ok (.getfield 94, 3) := by decide +kernel
theorem dX1_countDoomed_25 : decode cX1_countDoomed 25 = .ok (.isub, 1) := by decide +kernel
theorem dX1_countDoomed_26 : decode cX1_countDoomed 26 = .ok (.ireturn, 1) := by decide +kernel
theorem dX1_takeStrongFromMarking_0 : decode cX1_takeStrongFromMarking 0 = .ok (.aload_n 0, 1) := by decide +kernel
theorem dX1_takeStrongFromMarking_1 : decode cX1_takeStrongFromMarking 1 = .ok (.getfield 37, 3) := by decide +kernel
theorem dX1_takeStrongFromMarking_4 : decode cX1_takeStrongFromMarking 4 = .ok (.iconst 0, 1) := by decide +kernel
theorem dX1_takeStrongFromMarking_5 : decode cX1_takeStrongFromMarking 5 = .ok (.putfield 57, 3) := by decide +kernel
theorem dX1_takeStrongFromMarking_8 : decode cX1_takeStrongFromMarking 8 = .ok (.aload_n 0, 1) := by decide +kernel
theorem dX1_takeStrongFromMarking_9 : decode cX1_takeStrongFromMarking 9 = .ok (.getfield 12, 3) := by decide +kernel
theorem dX1_takeStrongFromMarking_12 : decode cX1_takeStrongFromMarking 12 = .ok (.invokevirtual 113, 3) := by decide +kernel
theorem dX1_takeStrongFromMarking_15 : decode cX1_takeStrongFromMarking 15 = .ok (.aload_n 0, 1) := by decide +kernel
theorem dX1_takeStrongFromMarking_16 : decode cX1_takeStrongFromMarking 16 = .ok (.getfield 12, 3) := by decide +kernel
theorem dX1_takeStrongFromMarking_19 : decode cX1_takeStrongFromMarking 19 = .ok (.aload_n 0, 1) := by decide +kernel
theorem dX1_takeStrongFromMarking_20 : decode cX1_takeStrongFromMarking 20 = .ok (.getfield 37, 3) := by decide +kernel
theorem dX1_takeStrongFromMarking_23 : decode cX1_takeStrongFromMarking 23 = .ok (.getfield 116, 3) := by decide +kernel
theorem dX1_takeStrongFromMarking_26 : decode cX1_takeStrongFromMarking 26 = .ok (.invokevirtual 119, 3) := by decide +kernel
theorem dX1_takeStrongFromMarking_29 : decode cX1_takeStrongFromMarking 29 = .ok (.aload_n 0, 1) := by decide +kernel
theorem dX1_takeStrongFromMarking_30 : decode cX1_takeStrongFromMarking 30 = .ok (.getfield 12, 3) := by decide +kernel
theorem dX1_takeStrongFromMarking_33 : decode cX1_takeStrongFromMarking 33 = .ok (.aload_n 0, 1) := by decide +kernel
theorem dX1_takeStrongFromMarking_34 : decode cX1_takeStrongFromMarking 34 = .ok (.getfield 37, 3) := by decide +kernel
theorem dX1_takeStrongFromMarking_37 : decode cX1_takeStrongFromMarking 37 = .ok (.getfield 122, 3) := by decide +kernel
theorem dX1_takeStrongFromMarking_40 : decode cX1_takeStrongFromMarking 40 = .ok (.invokevirtual 119, 3) := by decide +kernel
theorem dX1_takeStrongFromMarking_43 : decode cX1_takeStrongFromMarking 43 = .ok (.return_, 1) := by decide +kernel
theorem dX1_findStrong_0 : decode cX1_findStrong 0 = .ok (.aload_n 0, 1) := by decide +kernel
theorem dX1_findStrong_1 : decode cX1_findStrong 1 = .ok (.getfield 12, 3) := by decide +kernel
theorem dX1_findStrong_4 : decode cX1_findStrong 4 = .ok (.invokevirtual 113, 3) := by decide +kernel
theorem dX1_findStrong_7 : decode cX1_findStrong 7 = .ok (.aload_n 0, 1) := by decide +kernel
theorem dX1_findStrong_8 : decode cX1_findStrong 8 = .ok (.getfield 29, 3) := by decide +kernel
theorem dX1_findStrong_11 : decode cX1_findStrong 11 = .ok (.aload_n 0, 1) := by decide +kernel
theorem dX1_findStrong_12 : decode cX1_findStrong 12 = .ok (.getfield 12, 3) := by decide +kernel
theorem dX1_findStrong_15 : decode cX1_findStrong 15 = .ok (.invokevirtual 125, 3) := by decide +kernel
theorem dX1_findStrong_18 : decode cX1_findStrong 18 = .ok (.iload_n 1, 1) := by decide +kernel
theorem dX1_findStrong_19 : decode cX1_findStrong 19 = .ok (.ifCond .eq 58, 3) := by decide +kernel
theorem dX1_findStrong_22 : decode cX1_findStrong 22 = .ok (.iconst 0, 1) := by decide +kernel
theorem dX1_findStrong_23 : decode cX1_findStrong 23 = .ok (.istore_n 3, 1) := by decide +kernel
theorem dX1_findStrong_24 : decode cX1_findStrong 24 = .ok (.iload_n 3, 1) := by decide +kernel
theorem dX1_findStrong_25 : decode cX1_findStrong 25 = .ok (.aload_n 0, 1) := by decide +kernel
theorem dX1_findStrong_26 : decode cX1_findStrong 26 = .ok (.getfield 25, 3) := by decide +kernel
theorem dX1_findStrong_29 : decode cX1_findStrong 29 = .ok (.getfield 91, 3) := by decide +kernel
theorem dX1_findStrong_32 : decode cX1_findStrong 32 = .ok (.if_icmp .ge 45, 3) := by decide +kernel
theorem dX1_findStrong_35 : decode cX1_findStrong 35 = .ok (.aload_n 0, 1) := by decide +kernel
theorem dX1_findStrong_36 : decode cX1_findStrong 36 = .ok (.getfield 25, 3) := by decide +kernel
theorem dX1_findStrong_39 : decode cX1_findStrong 39 = .ok (.getfield 130, 3) := by decide +kernel
theorem dX1_findStrong_42 : decode cX1_findStrong 42 = .ok (.aload_n 0, 1) := by decide +kernel
theorem dX1_findStrong_43 : decode cX1_findStrong 43 = .ok (.getfield 25, 3) := by decide +kernel
theorem dX1_findStrong_46 : decode cX1_findStrong 46 = .ok (.getfield 134, 3) := by decide +kernel
theorem dX1_findStrong_49 : decode cX1_findStrong 49 = .ok (.iload_n 3, 1) := by decide +kernel
theorem dX1_findStrong_50 : decode cX1_findStrong 50 = .ok (.iaload, 1) := by decide +kernel
theorem dX1_findStrong_51 : decode cX1_findStrong 51 = .ok (.baload, 1) := by decide +kernel
theorem dX1_findStrong_52 : decode cX1_findStrong 52 = .ok (.ifCond .eq 19, 3) := by decide +kernel
theorem dX1_findStrong_55 : decode cX1_findStrong 55 = .ok (.aload_n 0, 1) := by decide +kernel
theorem dX1_findStrong_56 : decode cX1_findStrong 56 = .ok (.getfield 12, 3) := by decide +kernel
theorem dX1_findStrong_59 : decode cX1_findStrong 59 = .ok (.aload_n 0, 1) := by decide +kernel
theorem dX1_findStrong_60 : decode cX1_findStrong 60 = .ok (.getfield 25, 3) := by decide +kernel
theorem dX1_findStrong_63 : decode cX1_findStrong 63 = .ok (.getfield 134, 3) := by decide +kernel
theorem dX1_findStrong_66 : decode cX1_findStrong 66 = .ok (.iload_n 3, 1) := by decide +kernel
theorem dX1_findStrong_67 : decode cX1_findStrong 67 = .ok (.iaload, 1) := by decide +kernel
theorem dX1_findStrong_68 : decode cX1_findStrong 68 = .ok (.invokevirtual 138, 3) := by decide +kernel
theorem dX1_findStrong_71 : decode cX1_findStrong 71 = .ok (.iinc 3 1, 3) := by decide +kernel
theorem dX1_findStrong_74 : decode cX1_findStrong 74 = .ok (.goto (-50), 3) := by decide +kernel
theorem dX1_findStrong_77 : decode cX1_findStrong 77 = .ok (.aload_n 0, 1) := by decide +kernel
theorem dX1_findStrong_78 : decode cX1_findStrong 78 = .ok (.getfield 33, 3) := by decide +kernel
theorem dX1_findStrong_81 : decode cX1_findStrong 81 = .ok (.aload_n 0, 1) := by decide +kernel
theorem dX1_findStrong_82 : decode cX1_findStrong 82 = .ok (.getfield 12, 3) := by decide +kernel
theorem dX1_findStrong_85 : decode cX1_findStrong 85 = .ok (.aload_n 0, 1) := by decide +kernel
theorem dX1_findStrong_86 : decode cX1_findStrong 86 = .ok (.getfield 25, 3) := by decide +kernel
theorem dX1_findStrong_89 : decode cX1_findStrong 89 = .ok (.getfield 141, 3) := by decide +kernel
theorem dX1_findStrong_92 : decode cX1_findStrong 92 = .ok (.iload_n 2, 1) := by decide +kernel
theorem dX1_findStrong_93 : decode cX1_findStrong 93 = .ok (.invokevirtual 144, 3) := by decide +kernel
theorem dX1_findStrong_96 : decode cX1_findStrong 96 = .ok (.return_, 1) := by decide +kernel
theorem dX1_findKept_0 : decode cX1_findKept 0 = .ok (.aload_n 0, 1) := by decide +kernel
theorem dX1_findKept_1 : decode cX1_findKept 1 = .ok (.getfield 18, 3) := by decide +kernel
theorem dX1_findKept_4 : decode cX1_findKept 4 = .ok (.invokevirtual 113, 3) := by decide +kernel
theorem dX1_findKept_7 : decode cX1_findKept 7 = .ok (.aload_n 0, 1) := by decide +kernel
theorem dX1_findKept_8 : decode cX1_findKept 8 = .ok (.getfield 18, 3) := by decide +kernel
theorem dX1_findKept_11 : decode cX1_findKept 11 = .ok (.aload_n 0, 1) := by decide +kernel
theorem dX1_findKept_12 : decode cX1_findKept 12 = .ok (.getfield 12, 3) := by decide +kernel
theorem dX1_findKept_15 : decode cX1_findKept 15 = .ok (.invokevirtual 119, 3) := by decide +kernel
theorem dX1_findKept_18 : decode cX1_findKept 18 = .ok (.iconst 0, 1) := by decide +kernel
theorem dX1_findKept_19 : decode cX1_findKept 19 = .ok (.istore_n 2, 1) := by decide +kernel
theorem dX1_findKept_20 : decode cX1_findKept 20 = .ok (.iload_n 2, 1) := by decide +kernel
theorem dX1_findKept_21 : decode cX1_findKept 21 = .ok (.aload_n 0, 1) := by decide +kernel
theorem dX1_findKept_22 : decode cX1_findKept 22 = .ok (.getfield 25, 3) := by decide +kernel
theorem dX1_findKept_25 : decode cX1_findKept 25 = .ok (.getfield 91, 3) := by decide +kernel
theorem dX1_findKept_28 : decode cX1_findKept 28 = .ok (.if_icmp .ge 49, 3) := by decide +kernel
theorem dX1_findKept_31 : decode cX1_findKept 31 = .ok (.aload_n 0, 1) := by decide +kernel
theorem dX1_findKept_32 : decode cX1_findKept 32 = .ok (.getfield 25, 3) := by decide +kernel
theorem dX1_findKept_35 : decode cX1_findKept 35 = .ok (.getfield 134, 3) := by decide +kernel
theorem dX1_findKept_38 : decode cX1_findKept 38 = .ok (.iload_n 2, 1) := by decide +kernel
theorem dX1_findKept_39 : decode cX1_findKept 39 = .ok (.iaload, 1) := by decide +kernel
theorem dX1_findKept_40 : decode cX1_findKept 40 = .ok (.istore_n 3, 1) := by decide +kernel
theorem dX1_findKept_41 : decode cX1_findKept 41 = .ok (.aload_n 0, 1) := by decide +kernel
theorem dX1_findKept_42 : decode cX1_findKept 42 = .ok (.getfield 12, 3) := by decide +kernel
theorem dX1_findKept_45 : decode cX1_findKept 45 = .ok (.iload_n 3, 1) := by decide +kernel
theorem dX1_findKept_46 : decode cX1_findKept 46 = .ok (.invokevirtual 150, 3) := by decide +kernel
theorem dX1_findKept_49 : decode cX1_findKept 49 = .ok (.ifCond .ne 22, 3) := by decide +kernel
theorem dX1_findKept_52 : decode cX1_findKept 52 = .ok (.aload_n 0, 1) := by decide +kernel
theorem dX1_findKept_53 : decode cX1_findKept 53 = .ok (.getfield 25, 3) := by decide +kernel
theorem dX1_findKept_56 : decode cX1_findKept 56 = .ok (.iload_n 3, 1) := by decide +kernel
theorem dX1_findKept_57 : decode cX1_findKept 57 = .ok (.invokevirtual 153, 3) := by decide +kernel
theorem dX1_findKept_60 : decode cX1_findKept 60 = .ok (.ifCond .eq 11, 3) := by decide +kernel
theorem dX1_findKept_63 : decode cX1_findKept 63 = .ok (.aload_n 0, 1) := by decide +kernel
theorem dX1_findKept_64 : decode cX1_findKept 64 = .ok (.getfield 18, 3) := by decide +kernel
theorem dX1_findKept_67 : decode cX1_findKept 67 = .ok (.iload_n 3, 1) := by decide +kernel
theorem dX1_findKept_68 : decode cX1_findKept 68 = .ok (.invokevirtual 138, 3) := by decide +kernel
theorem dX1_findKept_71 : decode cX1_findKept 71 = .ok (.iinc 2 1, 3) := by decide +kernel
theorem dX1_findKept_74 : decode cX1_findKept 74 = .ok (.goto (-54), 3) := by decide +kernel
theorem dX1_findKept_77 : decode cX1_findKept 77 = .ok (.aload_n 0, 1) := by decide +kernel
theorem dX1_findKept_78 : decode cX1_findKept 78 = .ok (.getfield 33, 3) := by decide +kernel
theorem dX1_findKept_81 : decode cX1_findKept 81 = .ok (.aload_n 0, 1) := by decide +kernel
theorem dX1_findKept_82 : decode cX1_findKept 82 = .ok (.getfield 18, 3) := by decide +kernel
theorem dX1_findKept_85 : decode cX1_findKept 85 = .ok (.aload_n 0, 1) := by decide +kernel
theorem dX1_findKept_86 : decode cX1_findKept 86 = .ok (.getfield 25, 3) := by decide +kernel
theorem dX1_findKept_89 : decode cX1_findKept 89 = .ok (.getfield 141, 3) := by decide +kernel
theorem dX1_findKept_92 : decode cX1_findKept 92 = .ok (.iload_n 1, 1) := by decide +kernel
theorem dX1_findKept_93 : decode cX1_findKept 93 = .ok (.invokevirtual 144, 3) := by decide +kernel
theorem dX1_findKept_96 : decode cX1_findKept 96 = .ok (.return_, 1) := by decide +kernel
theorem dX1_sendToLastRow_0 : decode cX1_sendToLastRow 0 = .ok (.iconst 0, 1) := by decide +kernel
theorem dX1_sendToLastRow_1 : decode cX1_sendToLastRow 1 = .ok (.istore_n 1, 1) := by decide +kernel
theorem dX1_sendToLastRow_2 : decode cX1_sendToLastRow 2 = .ok (.iload_n 1, 1) := by decide +kernel
theorem dX1_sendToLastRow_3 : decode cX1_sendToLastRow 3 = .ok (.aload_n 0, 1) := by decide +kernel
theorem dX1_sendToLastRow_4 : decode cX1_sendToLastRow 4 = .ok (.getfield 25, 3) := by decide +kernel
theorem dX1_sendToLastRow_7 : decode cX1_sendToLastRow 7 = .ok (.getfield 91, 3) := by decide +kernel
theorem dX1_sendToLastRow_10 : decode cX1_sendToLastRow 10 = .ok (.if_icmp .ge 62, 3) := by decide +kernel
theorem dX1_sendToLastRow_13 : decode cX1_sendToLastRow 13 = .ok (.aload_n 0, 1) := by decide +kernel
theorem dX1_sendToLastRow_14 : decode cX1_sendToLastRow 14 = .ok (.getfield 25, 3) := by decide +kernel
theorem dX1_sendToLastRow_17 : decode cX1_sendToLastRow 17 = .ok (.getfield 134, 3) := by decide +kernel
theorem dX1_sendToLastRow_20 : decode cX1_sendToLastRow 20 = .ok (.iload_n 1, 1) := by decide +kernel
theorem dX1_sendToLastRow_21 : decode cX1_sendToLastRow 21 = .ok (.iaload, 1) := by decide +kernel
theorem dX1_sendToLastRow_22 : decode cX1_sendToLastRow 22 = .ok (.istore_n 2, 1) := by decide +kernel
theorem dX1_sendToLastRow_23 : decode cX1_sendToLastRow 23 = .ok (.aload_n 0, 1) := by decide +kernel
theorem dX1_sendToLastRow_24 : decode cX1_sendToLastRow 24 = .ok (.getfield 12, 3) := by decide +kernel
theorem dX1_sendToLastRow_27 : decode cX1_sendToLastRow 27 = .ok (.iload_n 2, 1) := by decide +kernel
theorem dX1_sendToLastRow_28 : decode cX1_sendToLastRow 28 = .ok (.invokevirtual 150, 3) := by decide +kernel
theorem dX1_sendToLastRow_31 : decode cX1_sendToLastRow 31 = .ok (.ifCond .ne 35, 3) := by decide +kernel
theorem dX1_sendToLastRow_34 : decode cX1_sendToLastRow 34 = .ok (.aload_n 0, 1) := by decide +kernel
theorem dX1_sendToLastRow_35 : decode cX1_sendToLastRow 35 = .ok (.getfield 25, 3) := by decide +kernel
theorem dX1_sendToLastRow_38 : decode cX1_sendToLastRow 38 = .ok (.iload_n 2, 1) := by decide +kernel
theorem dX1_sendToLastRow_39 : decode cX1_sendToLastRow 39 = .ok (.invokevirtual 153, 3) := by decide +kernel
theorem dX1_sendToLastRow_42 : decode cX1_sendToLastRow 42 = .ok (.ifCond .eq 24, 3) := by decide +kernel
theorem dX1_sendToLastRow_45 : decode cX1_sendToLastRow 45 = .ok (.aload_n 0, 1) := by decide +kernel
theorem dX1_sendToLastRow_46 : decode cX1_sendToLastRow 46 = .ok (.getfield 25, 3) := by decide +kernel
theorem dX1_sendToLastRow_49 : decode cX1_sendToLastRow 49 = .ok (.getfield 156, 3) := by decide +kernel
theorem dX1_sendToLastRow_52 : decode cX1_sendToLastRow 52 = .ok (.iload_n 2, 1) := by decide +kernel
theorem dX1_sendToLastRow_53 : decode cX1_sendToLastRow 53 = .ok (.iconst 1, 1) := by decide +kernel
theorem dX1_sendToLastRow_54 : decode cX1_sendToLastRow 54 = .ok (.bastore, 1) := by decide +kernel
theorem dX1_sendToLastRow_55 : decode cX1_sendToLastRow 55 = .ok (.aload_n 0, 1) := by decide +kernel
theorem dX1_sendToLastRow_56 : decode cX1_sendToLastRow 56 = .ok (.getfield 29, 3) := by decide +kernel
theorem dX1_sendToLastRow_59 : decode cX1_sendToLastRow 59 = .ok (.getfield 159, 3) := by decide +kernel
theorem dX1_sendToLastRow_62 : decode cX1_sendToLastRow 62 = .ok (.iload_n 2, 1) := by decide +kernel
theorem dX1_sendToLastRow_63 : decode cX1_sendToLastRow 63 = .ok (.invokevirtual 163, 3) := by decide +kernel
theorem dX1_sendToLastRow_66 : decode cX1_sendToLastRow 66 = .ok (.iinc 1 1, 3) := by decide +kernel
theorem dX1_sendToLastRow_69 : decode cX1_sendToLastRow 69 = .ok (.goto (-67), 3) := by decide +kernel
theorem dX1_sendToLastRow_72 : decode cX1_sendToLastRow 72 = .ok (.return_, 1) := by decide +kernel
theorem dX1_clearReferences_0 : decode cX1_clearReferences 0 = .ok (.iconst 0, 1) := by decide +kernel
theorem dX1_clearReferences_1 : decode cX1_clearReferences 1 = .ok (.istore_n 1, 1) := by decide +kernel
theorem dX1_clearReferences_2 : decode cX1_clearReferences 2 = .ok (.iload_n 1, 1) := by decide +kernel
theorem dX1_clearReferences_3 : decode cX1_clearReferences 3 = .ok (.aload_n 0, 1) := by decide +kernel
theorem dX1_clearReferences_4 : decode cX1_clearReferences 4 = .ok (.getfield 25, 3) := by decide +kernel
theorem dX1_clearReferences_7 : decode cX1_clearReferences 7 = .ok (.getfield 91, 3) := by decide +kernel
theorem dX1_clearReferences_10 : decode cX1_clearReferences 10 = .ok (.if_icmp .ge 81, 3) := by decide +kernel
theorem dX1_clearReferences_13 : decode cX1_clearReferences 13 = .ok (.aload_n 0, 1) := by decide +kernel
theorem dX1_clearReferences_14 : decode cX1_clearReferences 14 = .ok (.getfield 25, 3) := by decide +kernel
theorem dX1_clearReferences_17 : decode cX1_clearReferences 17 = .ok (.getfield 134, 3) := by decide +kernel
theorem dX1_clearReferences_20 : decode cX1_clearReferences 20 = .ok (.iload_n 1, 1) := by decide +kernel
theorem dX1_clearReferences_21 : decode cX1_clearReferences 21 = .ok (.iaload, 1) := by decide +kernel
theorem dX1_clearReferences_22 : decode cX1_clearReferences 22 = .ok (.istore_n 2, 1) := by decide +kernel
theorem dX1_clearReferences_23 : decode cX1_clearReferences 23 = .ok (.aload_n 0, 1) := by decide +kernel
theorem dX1_clearReferences_24 : decode cX1_clearReferences 24 = .ok (.getfield 18, 3) := by decide +kernel
theorem dX1_clearReferences_27 : decode cX1_clearReferences 27 = .ok (.iload_n 2, 1) := by decide +kernel
theorem dX1_clearReferences_28 : decode cX1_clearReferences 28 = .ok (.invokevirtual 150, 3) := by decide +kernel
theorem dX1_clearReferences_31 : decode cX1_clearReferences 31 = .ok (.ifCond .eq 54, 3) := by decide +kernel
theorem dX1_clearReferences_34 : decode cX1_clearReferences 34 = .ok (.aload_n 0, 1) := by decide +kernel
theorem dX1_clearReferences_35 : decode cX1_clearReferences 35 = .ok (.getfield 25, 3) := by decide +kernel
theorem dX1_clearReferences_38 : decode cX1_clearReferences 38 = .ok (.iload_n 2, 1) := by decide +kernel
theorem dX1_clearReferences_39 : decode cX1_clearReferences 39 = .ok (.invokevirtual 168, 3) := by decide +kernel
theorem dX1_clearReferences_42 : decode cX1_clearReferences 42 = .ok (.ifCond .eq 43, 3) := by decide +kernel
theorem dX1_clearReferences_45 : decode cX1_clearReferences 45 = .ok (.aload_n 0, 1) := by decide +kernel
theorem dX1_clearReferences_46 : decode cX1_clearReferences 46 = .ok (.iload_n 2, 1) := by decide +kernel
theorem dX1_clearReferences_47 : decode cX1_clearReferences 47 = .ok (.invokevirtual 171, 3) := by decide +kernel
theorem dX1_clearReferences_50 : decode cX1_clearReferences 50 = .ok (.ifCond .eq 35, 3) := by decide +kernel
theorem dX1_clearReferences_53 : decode cX1_clearReferences 53 = .ok (.aload_n 0, 1) := by decide +kernel
theorem dX1_clearReferences_54 : decode cX1_clearReferences 54 = .ok (.getfield 25, 3) := by decide +kernel
theorem dX1_clearReferences_57 : decode cX1_clearReferences 57 = .ok (.iload_n 2, 1) := by decide +kernel
theorem dX1_clearReferences_58 : decode cX1_clearReferences 58 = .ok (.iconst (-1), 1) := by decide +kernel
theorem dX1_clearReferences_59 : decode cX1_clearReferences 59 = .ok (.invokevirtual 174, 3) := by decide +kernel
theorem dX1_clearReferences_62 : decode cX1_clearReferences 62 = .ok (.aload_n 0, 1) := by decide +kernel
theorem dX1_clearReferences_63 : decode cX1_clearReferences 63 = .ok (.getfield 25, 3) := by decide +kernel
theorem dX1_clearReferences_66 : decode cX1_clearReferences 66 = .ok (.getfield 178, 3) := by decide +kernel
theorem dX1_clearReferences_69 : decode cX1_clearReferences 69 = .ok (.iload_n 2, 1) := by decide +kernel
theorem dX1_clearReferences_70 : decode cX1_clearReferences 70 = .ok (.baload, 1) := by decide +kernel
theorem dX1_clearReferences_71 : decode cX1_clearReferences 71 = .ok (.ifCond .eq 14, 3) := by decide +kernel
theorem dX1_clearReferences_74 : decode cX1_clearReferences 74 = .ok (.aload_n 0, 1) := by decide +kernel
theorem dX1_clearReferences_75 : decode cX1_clearReferences 75 = .ok (.getfield 29, 3) := by decide +kernel
theorem dX1_clearReferences_78 : decode cX1_clearReferences 78 = .ok (.getfield 181, 3) := by decide +kernel
theorem dX1_clearReferences_81 : decode cX1_clearReferences 81 = .ok (.iload_n 2, 1) := by decide +kernel
theorem dX1_clearReferences_82 : decode cX1_clearReferences 82 = .ok (.invokevirtual 163, 3) := by decide +kernel
theorem dX1_clearReferences_85 : decode cX1_clearReferences 85 = .ok (.iinc 1 1, 3) := by decide +kernel
theorem dX1_clearReferences_88 : decode cX1_clearReferences 88 = .ok (.goto (-86), 3) := by decide +kernel
theorem dX1_clearReferences_91 : decode cX1_clearReferences 91 = .ok (.return_, 1) := by decide +kernel
theorem dX1_losesReferent_0 : decode cX1_losesReferent 0 = .ok (.aload_n 0, 1) := by decide +kernel
theorem dX1_losesReferent_1 : decode cX1_losesReferent 1 = .ok (.getfield 25, 3) := by decide +kernel
theorem dX1_losesReferent_4 : decode cX1_losesReferent 4 = .ok (.iload_n 1, 1) := by decide +kernel
theorem dX1_losesReferent_5 : decode cX1_losesReferent 5 = .ok (.invokevirtual 184, 3) := by decide +kernel
theorem dX1_losesReferent_8 : decode cX1_losesReferent 8 = .ok (.istore_n 2, 1) := by decide +kernel
theorem dX1_losesReferent_9 : decode cX1_losesReferent 9 = .ok (.aload_n 0, 1) := by decide +kernel
theorem dX1_losesReferent_10 : decode cX1_losesReferent 10 = .ok (.getfield 25, 3) := by decide +kernel
theorem dX1_losesReferent_13 : decode cX1_losesReferent 13 = .ok (.getfield 187, 3) := by decide +kernel
theorem dX1_losesReferent_16 : decode cX1_losesReferent 16 = .ok (.iload_n 1, 1) := by decide +kernel
theorem dX1_losesReferent_17 : decode cX1_losesReferent 17 = .ok (.iaload, 1) := by decide +kernel
theorem dX1_losesReferent_18 : decode cX1_losesReferent 18 = .ok (.iconst 5, 1) := by decide +kernel
theorem dX1_losesReferent_19 : decode cX1_losesReferent 19 = .ok (.if_icmp .ne 10, 3) := by decide +kernel
theorem dX1_losesReferent_22 : decode cX1_losesReferent 22 = .ok (.aload_n 0, 1) := by decide +kernel
theorem dX1_losesReferent_23 : decode cX1_losesReferent 23 = .ok (.getfield 18, 3) := by decide +kernel
theorem dX1_losesReferent_26 : decode cX1_losesReferent 26 = .ok (.goto 7, 3) := by decide +kernel
theorem dX1_losesReferent_29 : decode cX1_losesReferent 29 = .ok (.aload_n 0, 1) := by decide +kernel
theorem dX1_losesReferent_30 : decode cX1_losesReferent 30 = .ok (.getfield 12, 3) := by decide +kernel
theorem dX1_losesReferent_33 : decode cX1_losesReferent 33 = .ok (.astore_n 3, 1) := by decide +kernel
theorem dX1_losesReferent_34 : decode cX1_losesReferent 34 = .ok (.iload_n 2, 1) := by decide +kernel
theorem dX1_losesReferent_35 : decode cX1_losesReferent 35 = .ok (.iconst (-1), 1) := by decide +kernel
theorem dX1_losesReferent_36 : decode cX1_losesReferent 36 = .ok (.if_icmp .eq 15, 3) := by decide +kernel
theorem dX1_losesReferent_39 : decode cX1_losesReferent 39 = .ok (.aload_n 3, 1) := by decide +kernel
theorem dX1_losesReferent_40 : decode cX1_losesReferent 40 = .ok (.iload_n 2, 1) := by decide +kernel
theorem dX1_losesReferent_41 : decode cX1_losesReferent 41 = .ok (.invokevirtual 150, 3) := by decide +kernel
theorem dX1_losesReferent_44 : decode cX1_losesReferent 44 = .ok (.ifCond .ne 7, 3) := by decide +kernel
theorem dX1_losesReferent_47 : decode cX1_losesReferent 47 = .ok (.iconst 1, 1) := by decide +kernel
theorem dX1_losesReferent_48 : decode cX1_losesReferent 48 = .ok (.goto 4, 3) := by decide +kernel
theorem dX1_losesReferent_51 : decode cX1_losesReferent 51 = .ok (.iconst 0, 1) := by decide +kernel
theorem dX1_losesReferent_52 : decode cX1_losesReferent 52 = .ok (.ireturn, 1) := by decide +kernel
theorem dX1_dropEntries_0 : decode cX1_dropEntries 0 = .ok (.iconst 0, 1) := by decide +kernel
theorem dX1_dropEntries_1 : decode cX1_dropEntries 1 = .ok (.istore_n 1, 1) := by decide +kernel
theorem dX1_dropEntries_2 : decode cX1_dropEntries 2 = .ok (.iload_n 1, 1) := by decide +kernel
theorem dX1_dropEntries_3 : decode cX1_dropEntries 3 = .ok (.aload_n 0, 1) := by decide +kernel
theorem dX1_dropEntries_4 : decode cX1_dropEntries 4 = .ok (.getfield 25, 3) := by decide +kernel
theorem dX1_dropEntries_7 : decode cX1_dropEntries 7 = .ok (.getfield 91, 3) := by decide +kernel
theorem dX1_dropEntries_10 : decode cX1_dropEntries 10 = .ok (.if_icmp .ge 111, 3) := by decide +kernel
theorem dX1_dropEntries_13 : decode cX1_dropEntries 13 = .ok (.aload_n 0, 1) := by decide +kernel
theorem dX1_dropEntries_14 : decode cX1_dropEntries 14 = .ok (.getfield 25, 3) := by decide +kernel
theorem dX1_dropEntries_17 : decode cX1_dropEntries 17 = .ok (.getfield 134, 3) := by decide +kernel
theorem dX1_dropEntries_20 : decode cX1_dropEntries 20 = .ok (.iload_n 1, 1) := by decide +kernel
theorem dX1_dropEntries_21 : decode cX1_dropEntries 21 = .ok (.iaload, 1) := by decide +kernel
theorem dX1_dropEntries_22 : decode cX1_dropEntries 22 = .ok (.istore_n 2, 1) := by decide +kernel
theorem dX1_dropEntries_23 : decode cX1_dropEntries 23 = .ok (.aload_n 0, 1) := by decide +kernel
theorem dX1_dropEntries_24 : decode cX1_dropEntries 24 = .ok (.getfield 25, 3) := by decide +kernel
theorem dX1_dropEntries_27 : decode cX1_dropEntries 27 = .ok (.getfield 187, 3) := by decide +kernel
theorem dX1_dropEntries_30 : decode cX1_dropEntries 30 = .ok (.iload_n 2, 1) := by decide +kernel
theorem dX1_dropEntries_31 : decode cX1_dropEntries 31 = .ok (.iaload, 1) := by decide +kernel
theorem dX1_dropEntries_32 : decode cX1_dropEntries 32 = .ok (.bipush 6, 2) := by decide +kernel
theorem dX1_dropEntries_34 : decode cX1_dropEntries 34 = .ok (.if_icmp .ne 81, 3) := by decide +kernel
theorem dX1_dropEntries_37 : decode cX1_dropEntries 37 = .ok (.aload_n 0, 1) := by decide +kernel
theorem dX1_dropEntries_38 : decode cX1_dropEntries 38 = .ok (.getfield 18, 3) := by decide +kernel
theorem dX1_dropEntries_41 : decode cX1_dropEntries 41 = .ok (.iload_n 2, 1) := by decide +kernel
theorem dX1_dropEntries_42 : decode cX1_dropEntries 42 = .ok (.invokevirtual 150, 3) := by decide +kernel
theorem dX1_dropEntries_45 : decode cX1_dropEntries 45 = .ok (.ifCond .eq 70, 3) := by decide +kernel
theorem dX1_dropEntries_48 : decode cX1_dropEntries 48 = .ok (.iconst 0, 1) := by decide +kernel
theorem dX1_dropEntries_49 : decode cX1_dropEntries 49 = .ok (.istore_n 3, 1) := by decide +kernel
theorem dX1_dropEntries_50 : decode cX1_dropEntries 50 = .ok (.iload_n 3, 1) := by decide +kernel
theorem dX1_dropEntries_51 : decode cX1_dropEntries 51 = .ok (.aload_n 0, 1) := by decide +kernel
theorem dX1_dropEntries_52 : decode cX1_dropEntries 52 = .ok (.getfield 25, 3) := by decide +kernel
theorem dX1_dropEntries_55 : decode cX1_dropEntries 55 = .ok (.getfield 190, 3) := by decide +kernel
theorem dX1_dropEntries_58 : decode cX1_dropEntries 58 = .ok (.iload_n 2, 1) := by decide +kernel
theorem dX1_dropEntries_59 : decode cX1_dropEntries 59 = .ok (.iaload, 1) := by decide +kernel
theorem dX1_dropEntries_60 : decode cX1_dropEntries 60 = .ok (.if_icmp .ge 55, 3) := by decide +kernel
theorem dX1_dropEntries_63 : decode cX1_dropEntries 63 = .ok (.aload_n 0, 1) := by decide +kernel
theorem dX1_dropEntries_64 : decode cX1_dropEntries 64 = .ok (.getfield 25, 3) := by decide +kernel
theorem dX1_dropEntries_67 : decode cX1_dropEntries 67 = .ok (.getfield 193, 3) := by decide +kernel
theorem dX1_dropEntries_70 : decode cX1_dropEntries 70 = .ok (.iload_n 2, 1) := by decide +kernel
theorem dX1_dropEntries_71 : decode cX1_dropEntries 71 = .ok (.iaload, 1) := by decide +kernel
theorem dX1_dropEntries_72 : decode cX1_dropEntries 72 = .ok (.iconst 2, 1) := by decide +kernel
theorem dX1_dropEntries_73 : decode cX1_dropEntries 73 = .ok (.iload_n 3, 1) := by decide +kernel
theorem dX1_dropEntries_74 : decode cX1_dropEntries 74 = .ok (.imul, 1) := by decide +kernel
theorem dX1_dropEntries_75 : decode cX1_dropEntries 75 = .ok (.iadd, 1) := by decide +kernel
theorem dX1_dropEntries_76 : decode cX1_dropEntries 76 = .ok (.istore 4, 2) := by decide +kernel
theorem dX1_dropEntries_78 : decode cX1_dropEntries 78 = .ok (.aload_n 0, 1) := by decide +kernel
theorem dX1_dropEntries_79 : decode cX1_dropEntries 79 = .ok (.getfield 18, 3) := by decide +kernel
theorem dX1_dropEntries_82 : decode cX1_dropEntries 82 = .ok (.aload_n 0, 1) := by decide +kernel
theorem dX1_dropEntries_83 : decode cX1_dropEntries 83 = .ok (.getfield 25, 3) := by decide +kernel
theorem dX1_dropEntries_86 : decode cX1_dropEntries 86 = .ok (.getfield 141, 3) := by decide +kernel
theorem dX1_dropEntries_89 : decode cX1_dropEntries 89 = .ok (.iload 4, 2) := by decide +kernel
theorem dX1_dropEntries_91 : decode cX1_dropEntries 91 = .ok (.iaload, 1) := by decide +kernel
theorem dX1_dropEntries_92 : decode cX1_dropEntries 92 = .ok (.invokevirtual 150, 3) := by decide +kernel
theorem dX1_dropEntries_95 : decode cX1_dropEntries 95 = .ok (.ifCond .ne 14, 3) := by decide +kernel
theorem dX1_dropEntries_98 : decode cX1_dropEntries 98 = .ok (.aload_n 0, 1) := by decide +kernel
theorem dX1_dropEntries_99 : decode cX1_dropEntries 99 = .ok (.getfield 25, 3) := by decide +kernel
theorem dX1_dropEntries_102 : decode cX1_dropEntries 102 = .ok (.iload 4, 2) := by decide +kernel
theorem dX1_dropEntries_104 : decode cX1_dropEntries 104 = .ok (.iconst (-1), 1) := by decide +kernel
theorem dX1_dropEntries_105 : decode cX1_dropEntries 105 = .ok (.iconst (-1), 1) := by decide +kernel
theorem dX1_dropEntries_106 : decode cX1_dropEntries 106 = .ok (.invokevirtual 196, 3) := by decide +kernel
theorem dX1_dropEntries_109 : decode cX1_dropEntries 109 = .ok (.iinc 3 1, 3) := by decide +kernel
theorem dX1_dropEntries_112 : decode cX1_dropEntries 112 = .ok (.goto (-62), 3) := by decide +kernel
theorem dX1_dropEntries_115 : decode cX1_dropEntries 115 = .ok (.iinc 1 1, 3) := by decide +kernel
theorem dX1_dropEntries_118 : decode cX1_dropEntries 118 = .ok (.goto (-116), 3) := by decide +kernel
theorem dX1_dropEntries_121 : decode cX1_dropEntries 121 = .ok (.return_, 1) := by decide +kernel
theorem dX2_init_0 : decode cX2_init 0 = .ok (.aload_n 0, 1) := by decide +kernel
theorem dX2_init_1 : decode cX2_init 1 = .ok (.invokespecial 3, 3) := by decide +kernel
theorem dX2_init_4 : decode cX2_init 4 = .ok (.aload_n 0, 1) := by decide +kernel
theorem dX2_init_5 : decode cX2_init 5 = .ok (.new 9, 3) := by decide +kernel
theorem dX2_init_8 : decode cX2_init 8 = .ok (.dup, 1) := by decide +kernel
theorem dX2_init_9 : decode cX2_init 9 = .ok (.invokespecial 11, 3) := by decide +kernel
theorem dX2_init_12 : decode cX2_init 12 = .ok (.putfield 12, 3) := by decide +kernel
theorem dX2_init_15 : decode cX2_init 15 = .ok (.aload_n 0, 1) := by decide +kernel
theorem dX2_init_16 : decode cX2_init 16 = .ok (.sipush 208, 3) := by decide +kernel
theorem dX2_init_19 : decode cX2_init 19 = .ok (.newarray .int, 2) := by decide +kernel
theorem dX2_init_21 : decode cX2_init 21 = .ok (.putfield 18, 3) := by decide +kernel
theorem dX2_init_24 : decode cX2_init 24 = .ok (.aload_n 0, 1) := by decide +kernel
theorem dX2_init_25 : decode cX2_init 25 = .ok (.aload_n 1, 1) := by decide +kernel
theorem dX2_init_26 : decode cX2_init 26 = .ok (.putfield 22, 3) := by decide +kernel
theorem dX2_init_29 : decode cX2_init 29 = .ok (.aload_n 0, 1) := by decide +kernel
theorem dX2_init_30 : decode cX2_init 30 = .ok (.aload_n 2, 1) := by decide +kernel
theorem dX2_init_31 : decode cX2_init 31 = .ok (.putfield 26, 3) := by decide +kernel
theorem dX2_init_34 : decode cX2_init 34 = .ok (.aload_n 0, 1) := by decide +kernel
theorem dX2_init_35 : decode cX2_init 35 = .ok (.aload_n 3, 1) := by decide +kernel
theorem dX2_init_36 : decode cX2_init 36 = .ok (.putfield 30, 3) := by decide +kernel
theorem dX2_init_39 : decode cX2_init 39 = .ok (.return_, 1) := by decide +kernel
theorem dX2_copyNet_0 : decode cX2_copyNet 0 = .ok (.aload_n 0, 1) := by decide +kernel
theorem dX2_copyNet_1 : decode cX2_copyNet 1 = .ok (.getfield 26, 3) := by decide +kernel
theorem dX2_copyNet_4 : decode cX2_copyNet 4 = .ok (.aload_n 0, 1) := by decide +kernel
theorem dX2_copyNet_5 : decode cX2_copyNet 5 = .ok (.getfield 12, 3) := by decide +kernel
theorem dX2_copyNet_8 : decode cX2_copyNet 8 = .ok (.iload_n 1, 1) := by decide +kernel
theorem dX2_copyNet_9 : decode cX2_copyNet 9 = .ok (.invokevirtual 34, 3) := by decide +kernel
theorem dX2_copyNet_12 : decode cX2_copyNet 12 = .ok (.iconst 0, 1) := by decide +kernel
theorem dX2_copyNet_13 : decode cX2_copyNet 13 = .ok (.istore_n 2, 1) := by decide +kernel
theorem dX2_copyNet_14 : decode cX2_copyNet 14 = .ok (.iconst 0, 1) := by decide +kernel
theorem dX2_copyNet_15 : decode cX2_copyNet 15 = .ok (.istore_n 3, 1) := by decide +kernel
theorem dX2_copyNet_16 : decode cX2_copyNet 16 = .ok (.iload_n 3, 1) := by decide +kernel
theorem dX2_copyNet_17 : decode cX2_copyNet 17 = .ok (.aload_n 0, 1) := by decide +kernel
theorem dX2_copyNet_18 : decode cX2_copyNet 18 = .ok (.getfield 12, 3) := by decide +kernel
theorem dX2_copyNet_21 : decode cX2_copyNet 21 = .ok (.getfield 40, 3) := by decide +kernel
theorem dX2_copyNet_24 : decode cX2_copyNet 24 = .ok (.if_icmp .ge 49, 3) := by decide +kernel
theorem dX2_copyNet_27 : decode cX2_copyNet 27 = .ok (.iload_n 2, 1) := by decide +kernel
theorem dX2_copyNet_28 : decode cX2_copyNet 28 = .ok (.aload_n 0, 1) := by decide +kernel
theorem dX2_copyNet_29 : decode cX2_copyNet 29 = .ok (.aload_n 0, 1) := by decide +kernel
theorem dX2_copyNet_30 : decode cX2_copyNet 30 = .ok (.getfield 12, 3) := by decide +kernel
theorem dX2_copyNet_33 : decode cX2_copyNet 33 = .ok (.getfield 44, 3) := by decide +kernel
theorem dX2_copyNet_36 : decode cX2_copyNet 36 = .ok (.iload_n 3, 1) := by decide +kernel
theorem dX2_copyNet_37 : decode cX2_copyNet 37 = .ok (.iaload, 1) := by decide +kernel
theorem dX2_copyNet_38 : decode cX2_copyNet 38 = .ok (.invokevirtual 47, 3) := by decide +kernel
theorem dX2_copyNet_41 : decode cX2_copyNet 41 = .ok (.ifCond .eq 23, 3) := by decide +kernel
theorem dX2_copyNet_44 : decode cX2_copyNet 44 = .ok (.aload_n 0, 1) := by decide +kernel
theorem dX2_copyNet_45 : decode cX2_copyNet 45 = .ok (.getfield 22, 3) := by decide +kernel
theorem dX2_copyNet_48 : decode cX2_copyNet 48 = .ok (.getfield 51, 3) := by decide +kernel
theorem dX2_copyNet_51 : decode cX2_copyNet 51 = .ok (.aload_n 0, 1) := by decide +kernel
theorem dX2_copyNet_52 : decode cX2_copyNet 52 = .ok (.getfield 12, 3) := by decide +kernel
theorem dX2_copyNet_55 : decode cX2_copyNet 55 = .ok (.getfield 44, 3) := by decide +kernel
theorem dX2_copyNet_58 : decode cX2_copyNet 58 = .ok (.iload_n 3, 1) := by decide +kernel
theorem dX2_copyNet_59 : decode cX2_copyNet 59 = .ok (.iaload, 1) := by decide +kernel
theorem dX2_copyNet_60 : decode cX2_copyNet 60 = .ok (.iaload, 1) := by decide +kernel
theorem dX2_copyNet_61 : decode cX2_copyNet 61 = .ok (.goto 4, 3) := by decide +kernel
theorem dX2_copyNet_64 : decode cX2_copyNet 64 = .ok (.iconst 0, 1) := by decide +kernel
theorem dX2_copyNet_65 : decode cX2_copyNet 65 = .ok (.iadd, 1) := by decide +kernel
theorem dX2_copyNet_66 : decode cX2_copyNet 66 = .ok (.istore_n 2, 1) := by decide +kernel
theorem dX2_copyNet_67 : decode cX2_copyNet 67 = .ok (.iinc 3 1, 3) := by decide +kernel
theorem dX2_copyNet_70 : decode cX2_copyNet 70 = .ok (.goto (-54), 3) := by decide +kernel
theorem dX2_copyNet_73 : decode cX2_copyNet 73 = .ok (.aload_n 0, 1) := by decide +kernel
theorem dX2_copyNet_74 : decode cX2_copyNet 74 = .ok (.getfield 30, 3) := by decide +kernel
theorem dX2_copyNet_77 : decode cX2_copyNet 77 = .ok (.iload_n 2, 1) := by decide +kernel
theorem dX2_copyNet_78 : decode cX2_copyNet 78 = .ok (.invokevirtual 56, 3) := by decide +kernel
theorem dX2_copyNet_81 : decode cX2_copyNet 81 = .ok (.ifCond .ne 5, 3) := by decide +kernel
theorem dX2_copyNet_84 : decode cX2_copyNet 84 = .ok (.iconst (-1), 1) := by decide +kernel
theorem dX2_copyNet_85 : decode cX2_copyNet 85 = .ok (.ireturn, 1) := by decide +kernel
theorem dX2_copyNet_86 : decode cX2_copyNet 86 = .ok (.aload_n 0, 1) := by decide +kernel
theorem dX2_copyNet_87 : decode cX2_copyNet 87 = .ok (.iload_n 2, 1) := by decide +kernel
theorem dX2_copyNet_88 : decode cX2_copyNet 88 = .ok (.bipush 32, 2) := by decide +kernel
theorem dX2_copyNet_90 : decode cX2_copyNet 90 = .ok (.if_icmp .le 7, 3) := by decide +kernel
theorem dX2_copyNet_93 : decode cX2_copyNet 93 = .ok (.iconst 1, 1) := by decide +kernel
theorem dX2_copyNet_94 : decode cX2_copyNet 94 = .ok (.goto 4, 3) := by decide +kernel
theorem dX2_copyNet_97 : decode cX2_copyNet 97 = .ok (.iconst 0, 1) := by decide +kernel
theorem dX2_copyNet_98 : decode cX2_copyNet 98 = .ok (.invokevirtual 61, 3) := by decide +kernel
theorem dX2_copyNet_101 : decode cX2_copyNet 101 = .ok (.iconst 0, 1) := by decide +kernel
theorem dX2_copyNet_102 : decode cX2_copyNet 102 = .ok (.istore_n 3, 1) := by decide +kernel
theorem dX2_copyNet_103 : decode cX2_copyNet 103 = .ok (.iload_n 3, 1) := by decide +kernel
theorem dX2_copyNet_104 : decode cX2_copyNet 104 = .ok (.aload_n 0, 1) := by decide +kernel
theorem dX2_copyNet_105 : decode cX2_copyNet 105 = .ok (.getfield 12, 3) := by decide +kernel
theorem dX2_copyNet_108 : decode cX2_copyNet 108 = .ok (.getfield 40, 3) := by decide +kernel
theorem dX2_copyNet_111 : decode cX2_copyNet 111 = .ok (.if_icmp .ge 38, 3) := by decide +kernel
theorem dX2_copyNet_114 : decode cX2_copyNet 114 = .ok (.aload_n 0, 1) := by decide +kernel
theorem dX2_copyNet_115 : decode cX2_copyNet 115 = .ok (.aload_n 0, 1) := by decide +kernel
theorem dX2_copyNet_116 : decode cX2_copyNet 116 = .ok (.getfield 12, 3) := by decide +kernel
theorem dX2_copyNet_119 : decode cX2_copyNet 119 = .ok (.getfield 44, 3) := by decide +kernel
theorem dX2_copyNet_122 : decode cX2_copyNet 122 = .ok (.iload_n 3, 1) := by decide +kernel
theorem dX2_copyNet_123 : decode cX2_copyNet 123 = .ok (.iaload, 1) := by decide +kernel
theorem dX2_copyNet_124 : decode cX2_copyNet 124 = .ok (.invokevirtual 47, 3) := by decide +kernel
theorem dX2_copyNet_127 : decode cX2_copyNet 127 = .ok (.ifCond .eq 16, 3) := by decide +kernel
theorem dX2_copyNet_130 : decode cX2_copyNet 130 = .ok (.aload_n 0, 1) := by decide +kernel
theorem dX2_copyNet_131 : decode cX2_copyNet 131 = .ok (.aload_n 0, 1) := by decide +kernel
theorem dX2_copyNet_132 : decode cX2_copyNet 132 = .ok (.getfield 12, 3) := by decide +kernel
theorem dX2_copyNet_135 : decode cX2_copyNet 135 = .ok (.getfield 44, 3) := by decide +kernel
theorem dX2_copyNet_138 : decode cX2_copyNet 138 = .ok (.iload_n 3, 1) := by decide +kernel
theorem dX2_copyNet_139 : decode cX2_copyNet 139 = .ok (.iaload, 1) := by decide +kernel
theorem dX2_copyNet_140 : decode cX2_copyNet 140 = .ok (.invokevirtual 65, 3) := by decide +kernel
theorem dX2_copyNet_143 : decode cX2_copyNet 143 = .ok (.iinc 3 1, 3) := by decide +kernel
theorem dX2_copyNet_146 : decode cX2_copyNet 146 = .ok (.goto (-43), 3) := by decide +kernel
theorem dX2_copyNet_149 : decode cX2_copyNet 149 = .ok (.aload_n 0, 1) := by decide +kernel
theorem dX2_copyNet_150 : decode cX2_copyNet 150 = .ok (.getfield 18, 3) := by decide +kernel
theorem dX2_copyNet_153 : decode cX2_copyNet 153 = .ok (.iload_n 1, 1) := by decide +kernel
theorem dX2_copyNet_154 : decode cX2_copyNet 154 = .ok (.iaload, 1) := by decide +kernel
theorem dX2_copyNet_155 : decode cX2_copyNet 155 = .ok (.ireturn, 1) := by decide +kernel
theorem dX2_isCopied_0 : decode cX2_isCopied 0 = .ok (.aload_n 0, 1) := by decide +kernel
theorem dX2_isCopied_1 : decode cX2_isCopied 1 = .ok (.getfield 12, 3) := by decide +kernel
theorem dX2_isCopied_4 : decode cX2_isCopied 4 = .ok (.iload_n 1, 1) := by decide +kernel
theorem dX2_isCopied_5 : decode cX2_isCopied 5 = .ok (.invokevirtual 69, 3) := by decide +kernel
theorem dX2_isCopied_8 : decode cX2_isCopied 8 = .ok (.ifCond .eq 19, 3) := by decide +kernel
theorem dX2_isCopied_11 : decode cX2_isCopied 11 = .ok (.aload_n 0, 1) := by decide +kernel
theorem dX2_isCopied_12 : decode cX2_isCopied 12 = .ok (.getfield 22, 3) := by decide +kernel
theorem dX2_isCopied_15 : decode cX2_isCopied 15 = .ok (.getfield 72, 3) := by decide +kernel
theorem dX2_isCopied_18 : decode cX2_isCopied 18 = .ok (.iload_n 1, 1) := by decide +kernel
theorem dX2_isCopied_19 : decode cX2_isCopied 19 = .ok (.baload, 1) := by decide +kernel
theorem dX2_isCopied_20 : decode cX2_isCopied 20 = .ok (.ifCond .ne 7, 3) := by decide +kernel
theorem dX2_isCopied_23 : decode cX2_isCopied 23 = .ok (.iconst 1, 1) := by decide +kernel
theorem dX2_isCopied_24 : decode cX2_isCopied 24 = .ok (.goto 4, 3) := by decide +kernel
theorem dX2_isCopied_27 : decode cX2_isCopied 27 = .ok (.iconst 0, 1) := by decide +kernel
theorem dX2_isCopied_28 : decode cX2_isCopied 28 = .ok (.ireturn, 1) := by decide +kernel
theorem dX2_makeCopies_0 : decode cX2_makeCopies 0 = .ok (.aload_n 0, 1) := by decide +kernel
theorem dX2_makeCopies_1 : decode cX2_makeCopies 1 = .ok (.getfield 22, 3) := by decide +kernel
theorem dX2_makeCopies_4 : decode cX2_makeCopies 4 = .ok (.getfield 76, 3) := by decide +kernel
theorem dX2_makeCopies_7 : decode cX2_makeCopies 7 = .ok (.istore_n 2, 1) := by decide +kernel
theorem dX2_makeCopies_8 : decode cX2_makeCopies 8 = .ok (.iconst 0, 1) := by decide +kernel
theorem dX2_makeCopies_9 : decode cX2_makeCopies 9 = .ok (.istore_n 3, 1) := by decide +kernel
theorem dX2_makeCopies_10 : decode cX2_makeCopies 10 = .ok (.iload_n 3, 1) := by decide +kernel
theorem dX2_makeCopies_11 : decode cX2_makeCopies 11 = .ok (.iload_n 2, 1) := by decide +kernel
theorem dX2_makeCopies_12 : decode cX2_makeCopies 12 = .ok (.if_icmp .ge 74, 3) := by decide +kernel
theorem dX2_makeCopies_15 : decode cX2_makeCopies 15 = .ok (.aload_n 0, 1) := by decide +kernel
theorem dX2_makeCopies_16 : decode cX2_makeCopies 16 = .ok (.getfield 22, 3) := by decide +kernel
theorem dX2_makeCopies_19 : decode cX2_makeCopies 19 = .ok (.getfield 79, 3) := by decide +kernel
theorem dX2_makeCopies_22 : decode cX2_makeCopies 22 = .ok (.iload_n 3, 1) := by decide +kernel
theorem dX2_makeCopies_23 : decode cX2_makeCopies 23 = .ok (.iaload, 1) := by decide +kernel
theorem dX2_makeCopies_24 : decode cX2_makeCopies 24 = .ok (.istore 4, 2) := by decide +kernel
theorem dX2_makeCopies_26 : decode cX2_makeCopies 26 = .ok (.aload_n 0, 1) := by decide +kernel
theorem dX2_makeCopies_27 : decode cX2_makeCopies 27 = .ok (.iload 4, 2) := by decide +kernel
theorem dX2_makeCopies_29 : decode cX2_makeCopies 29 = .ok (.invokevirtual 47, 3) := by decide +kernel
theorem dX2_makeCopies_32 : decode cX2_makeCopies 32 = .ok (.ifCond .eq 48, 3) := by decide +kernel
theorem dX2_makeCopies_35 : decode cX2_makeCopies 35 = .ok (.aload_n 0, 1) := by decide +kernel
theorem dX2_makeCopies_36 : decode cX2_makeCopies 36 = .ok (.getfield 18, 3) := by decide +kernel
theorem dX2_makeCopies_39 : decode cX2_makeCopies 39 = .ok (.iload 4, 2) := by decide +kernel
theorem dX2_makeCopies_41 : decode cX2_makeCopies 41 = .ok (.aload_n 0, 1) := by decide +kernel
theorem dX2_makeCopies_42 : decode cX2_makeCopies 42 = .ok (.getfield 30, 3) := by decide +kernel
theorem dX2_makeCopies_45 : decode cX2_makeCopies 45 = .ok (.aload_n 0, 1) := by decide +kernel
theorem dX2_makeCopies_46 : decode cX2_makeCopies 46 = .ok (.getfield 22, 3) := by decide +kernel
theorem dX2_makeCopies_49 : decode cX2_makeCopies 49 = .ok (.getfield 82, 3) := by decide +kernel
theorem dX2_makeCopies_52 : decode cX2_makeCopies 52 = .ok (.iload 4, 2) := by decide +kernel
theorem dX2_makeCopies_54 : decode cX2_makeCopies 54 = .ok (.iaload, 1) := by decide +kernel
theorem dX2_makeCopies_55 : decode cX2_makeCopies 55 = .ok (.aload_n 0, 1) := by decide +kernel
theorem dX2_makeCopies_56 : decode cX2_makeCopies 56 = .ok (.getfield 22, 3) := by decide +kernel
theorem dX2_makeCopies_59 : decode cX2_makeCopies 59 = .ok (.getfield 85, 3) := by decide +kernel
theorem dX2_makeCopies_62 : decode cX2_makeCopies 62 = .ok (.iload 4, 2) := by decide +kernel
theorem dX2_makeCopies_64 : decode cX2_makeCopies 64 = .ok (.iaload, 1) := by decide +kernel
theorem dX2_makeCopies_65 : decode cX2_makeCopies 65 = .ok (.aload_n 0, 1) := by decide +kernel
theorem dX2_makeCopies_66 : decode cX2_makeCopies 66 = .ok (.getfield 22, 3) := by decide +kernel
theorem dX2_makeCopies_69 : decode cX2_makeCopies 69 = .ok (.getfield 88, 3) := by decide +kernel
theorem dX2_makeCopies_72 : decode cX2_makeCopies 72 = .ok (.iload 4, 2) := by decide +kernel
theorem dX2_makeCopies_74 : decode cX2_makeCopies 74 = .ok (.iaload, 1) := by decide +kernel
theorem dX2_makeCopies_75 : decode cX2_makeCopies 75 = .ok (.iload_n 1, 1) := by decide +kernel
theorem dX2_makeCopies_76 : decode cX2_makeCopies 76 = .ok (.invokevirtual 91, 3) := by decide +kernel
theorem dX2_makeCopies_79 : decode cX2_makeCopies 79 = .ok (.iastore, 1) := by decide +kernel
theorem dX2_makeCopies_80 : decode cX2_makeCopies 80 = .ok (.iinc 3 1, 3) := by decide +kernel
theorem dX2_makeCopies_83 : decode cX2_makeCopies 83 = .ok (.goto (-73), 3) := by decide +kernel
theorem dX2_makeCopies_86 : decode cX2_makeCopies 86 = .ok (.return_, 1) := by decide +kernel
theorem dX2_fillCopy_0 : decode cX2_fillCopy 0 = .ok (.aload_n 0, 1) := by decide +kernel
theorem dX2_fillCopy_1 : decode cX2_fillCopy 1 = .ok (.getfield 18, 3) := by decide +kernel
theorem dX2_fillCopy_4 : decode cX2_fillCopy 4 = .ok (.iload_n 1, 1) := by decide +kernel
theorem dX2_fillCopy_5 : decode cX2_fillCopy 5 = .ok (.iaload, 1) := by decide +kernel
theorem dX2_fillCopy_6 : decode cX2_fillCopy 6 = .ok (.iconst (-1), 1) := by decide +kernel
theorem dX2_fillCopy_7 : decode cX2_fillCopy 7 = .ok (.if_icmp .ne 4, 3) := by decide +kernel
theorem dX2_fillCopy_10 : decode cX2_fillCopy 10 = .ok (.return_, 1) := by decide +kernel
theorem dX2_fillCopy_11 : decode cX2_fillCopy 11 = .ok (.aload_n 0, 1) := by decide +kernel
theorem dX2_fillCopy_12 : decode cX2_fillCopy 12 = .ok (.getfield 22, 3) := by decide +kernel
theorem dX2_fillCopy_15 : decode cX2_fillCopy 15 = .ok (.getfield 95, 3) := by decide +kernel
theorem dX2_fillCopy_18 : decode cX2_fillCopy 18 = .ok (.iload_n 1, 1) := by decide +kernel
theorem dX2_fillCopy_19 : decode cX2_fillCopy 19 = .ok (.iaload, 1) := by decide +kernel
theorem dX2_fillCopy_20 : decode cX2_fillCopy 20 = .ok (.istore_n 2, 1) := by decide +kernel
theorem dX2_fillCopy_21 : decode cX2_fillCopy 21 = .ok (.aload_n 0, 1) := by decide +kernel
theorem dX2_fillCopy_22 : decode cX2_fillCopy 22 = .ok (.getfield 22, 3) := by decide +kernel
theorem dX2_fillCopy_25 : decode cX2_fillCopy 25 = .ok (.getfield 95, 3) := by decide +kernel
theorem dX2_fillCopy_28 : decode cX2_fillCopy 28 = .ok (.aload_n 0, 1) := by decide +kernel
theorem dX2_fillCopy_29 : decode cX2_fillCopy 29 = .ok (.getfield 18, 3) := by decide +kernel
theorem dX2_fillCopy_32 : decode cX2_fillCopy 32 = .ok (.iload_n 1, 1) := by decide +kernel
theorem dX2_fillCopy_33 : decode cX2_fillCopy 33 = .ok (.iaload, 1) := by decide +kernel
theorem dX2_fillCopy_34 : decode cX2_fillCopy 34 = .ok (.iaload, 1) := by decide +kernel
theorem dX2_fillCopy_35 : decode cX2_fillCopy 35 = .ok (.istore_n 3, 1) := by decide +kernel
theorem dX2_fillCopy_36 : decode cX2_fillCopy 36 = .ok (.iconst 0, 1) := by decide +kernel
theorem dX2_fillCopy_37 : decode cX2_fillCopy 37 = .ok (.istore 4, 2) := by decide +kernel
theorem dX2_fillCopy_39 : decode cX2_fillCopy 39 = .ok (.iload 4, 2) := by decide +kernel
theorem dX2_fillCopy_41 : decode cX2_fillCopy 41 = .ok (.aload_n 0, 1) := by decide +kernel
theorem dX2_fillCopy_42 : decode cX2_fillCopy 42 = .ok (.getfield 22, 3) := by decide +kernel
theorem dX2_fillCopy_45 : decode cX2_fillCopy 45 = .ok (.iload_n 1, 1) := by decide +kernel
theorem dX2_fillCopy_46 : decode cX2_fillCopy 46 = .ok (.invokevirtual 98, 3) := by decide +kernel
theorem dX2_fillCopy_49 : decode cX2_fillCopy 49 = .ok (.if_icmp .ge 81, 3) := by decide +kernel
theorem dX2_fillCopy_52 : decode cX2_fillCopy 52 = .ok (.aload_n 0, 1) := by decide +kernel
theorem dX2_fillCopy_53 : decode cX2_fillCopy 53 = .ok (.getfield 22, 3) := by decide +kernel
theorem dX2_fillCopy_56 : decode cX2_fillCopy 56 = .ok (.getfield 102, 3) := by decide +kernel
theorem dX2_fillCopy_59 : decode cX2_fillCopy 59 = .ok (.iload_n 2, 1) := by decide +kernel
theorem dX2_fillCopy_60 : decode cX2_fillCopy 60 = .ok (.iload 4, 2) := by decide +kernel
theorem dX2_fillCopy_62 : decode cX2_fillCopy 62 = .ok (.iadd, 1) := by decide +kernel
theorem dX2_fillCopy_63 : decode cX2_fillCopy 63 = .ok (.iaload, 1) := by decide +kernel
theorem dX2_fillCopy_64 : decode cX2_fillCopy 64 = .ok (.istore 5, 2) := by decide +kernel
theorem dX2_fillCopy_66 : decode cX2_fillCopy 66 = .ok (.iload 4, 2) := by decide +kernel
theorem dX2_fillCopy_68 : decode cX2_fillCopy 68 = .ok (.aload_n 0, 1) := by decide +kernel
theorem dX2_fillCopy_69 : decode cX2_fillCopy 69 = .ok (.getfield 22, 3) := by decide +kernel
theorem dX2_fillCopy_72 : decode cX2_fillCopy 72 = .ok (.iload_n 1, 1) := by decide +kernel
theorem dX2_fillCopy_73 : decode cX2_fillCopy 73 = .ok (.invokevirtual 105, 3) := by decide +kernel
theorem dX2_fillCopy_76 : decode cX2_fillCopy 76 = .ok (.if_icmp .ge 16, 3) := by decide +kernel
theorem dX2_fillCopy_79 : decode cX2_fillCopy 79 = .ok (.aload_n 0, 1) := by decide +kernel
theorem dX2_fillCopy_80 : decode cX2_fillCopy 80 = .ok (.iload 5, 2) := by decide +kernel
theorem dX2_fillCopy_82 : decode cX2_fillCopy 82 = .ok (.invokevirtual 47, 3) := by decide +kernel
theorem dX2_fillCopy_85 : decode cX2_fillCopy 85 = .ok (.ifCond .eq 7, 3) := by decide +kernel
theorem dX2_fillCopy_88 : decode cX2_fillCopy 88 = .ok (.iconst 1, 1) := by decide +kernel
theorem dX2_fillCopy_89 : decode cX2_fillCopy 89 = .ok (.goto 4, 3) := by decide +kernel
theorem dX2_fillCopy_92 : decode cX2_fillCopy 92 = .ok (.iconst 0, 1) := by decide +kernel
theorem dX2_fillCopy_93 : decode cX2_fillCopy 93 = .ok (.istore 6, 2) := by decide +kernel
theorem dX2_fillCopy_95 : decode cX2_fillCopy 95 = .ok (.aload_n 0, 1) := by decide +kernel
theorem dX2_fillCopy_96 : decode cX2_fillCopy 96 = .ok (.getfield 22, 3) := by decide +kernel
theorem dX2_fillCopy_99 : decode cX2_fillCopy 99 = .ok (.getfield 102, 3) := by decide +kernel
theorem dX2_fillCopy_102 : decode cX2_fillCopy 102 = .ok (.iload_n 3, 1) := by decide +kernel
theorem dX2_fillCopy_103 : decode cX2_fillCopy 103 = .ok (.iload 4, 2) := by decide +kernel
theorem dX2_fillCopy_105 : decode cX2_fillCopy 105 = .ok (.iadd, 1) := by decide +kernel
theorem dX2_fillCopy_106 : decode cX2_fillCopy 106 = .ok (.iload 6, 2) := by decide +kernel
theorem dX2_fillCopy_108 : decode cX2_fillCopy 108 = .ok (.ifCond .eq 13, 3) := by decide +kernel
theorem dX2_fillCopy_111 : decode cX2_fillCopy 111 = .ok (.aload_n 0, 1) := by decide +kernel
theorem dX2_fillCopy_112 : decode cX2_fillCopy 112 = .ok (.getfield 18, 3) := by decide +kernel
theorem dX2_fillCopy_115 : decode cX2_fillCopy 115 = .ok (.iload 5, 2) := by decide +kernel
theorem dX2_fillCopy_117 : decode cX2_fillCopy 117 = .ok (.iaload, 1) := by decide +kernel
theorem dX2_fillCopy_118 : decode cX2_fillCopy 118 = .ok (.goto 5, 3) := by decide +kernel
theorem dX2_fillCopy_121 : decode cX2_fillCopy 121 = .ok (.iload 5, 2) := by decide +kernel
theorem dX2_fillCopy_123 : decode cX2_fillCopy 123 = .ok (.iastore, 1) := by decide +kernel
theorem dX2_fillCopy_124 : decode cX2_fillCopy 124 = .ok (.iinc 4 1, 3) := by decide +kernel
theorem dX2_fillCopy_127 : decode cX2_fillCopy 127 = .ok (.goto (-88), 3) := by decide +kernel
theorem dX2_fillCopy_130 : decode cX2_fillCopy 130 = .ok (.return_, 1) := by decide +kernel
theorem dX3_init_0 : decode cX3_init 0 = .ok (.aload_n 0, 1) := by decide +kernel
theorem dX3_init_1 : decode cX3_init 1 = .ok (.invokespecial 3, 3) := by decide +kernel
theorem dX3_init_4 : decode cX3_init 4 = .ok (.aload_n 0, 1) := by decide +kernel
theorem dX3_init_5 : decode cX3_init 5 = .ok (.sipush 400, 3) := by decide +kernel
theorem dX3_init_8 : decode cX3_init 8 = .ok (.newarray .int, 2) := by decide +kernel
theorem dX3_init_10 : decode cX3_init 10 = .ok (.putfield 9, 3) := by decide +kernel
theorem dX3_init_13 : decode cX3_init 13 = .ok (.aload_n 0, 1) := by decide +kernel
theorem dX3_init_14 : decode cX3_init 14 = .ok (.new 15, 3) := by decide +kernel
theorem dX3_init_17 : decode cX3_init 17 = .ok (.dup, 1) := by decide +kernel
theorem dX3_init_18 : decode cX3_init 18 = .ok (.invokespecial 17, 3) := by decide +kernel
theorem dX3_init_21 : decode cX3_init 21 = .ok (.putfield 18, 3) := by decide +kernel
theorem dX3_init_24 : decode cX3_init 24 = .ok (.aload_n 0, 1) := by decide +kernel
theorem dX3_init_25 : decode cX3_init 25 = .ok (.sipush 208, 3) := by decide +kernel
theorem dX3_init_28 : decode cX3_init 28 = .ok (.newarray .int, 2) := by decide +kernel
theorem dX3_init_30 : decode cX3_init 30 = .ok (.putfield 22, 3) := by decide +kernel
theorem dX3_init_33 : decode cX3_init 33 = .ok (.aload_n 0, 1) := by decide +kernel
theorem dX3_init_34 : decode cX3_init 34 = .ok (.sipush 400, 3) := by decide +kernel
theorem dX3_init_37 : decode cX3_init 37 = .ok (.newarray .int, 2) := by decide +kernel
theorem dX3_init_39 : decode cX3_init 39 = .ok (.putfield 25, 3) := by decide +kernel
theorem dX3_init_42 : decode cX3_init 42 = .ok (.aload_n 0, 1) := by decide +kernel
theorem dX3_init_43 : decode cX3_init 43 = .ok (.aload_n 1, 1) := by decide +kernel
theorem dX3_init_44 : decode cX3_init 44 = .ok (.putfield 28, 3) := by decide +kernel
theorem dX3_init_47 : decode cX3_init 47 = .ok (.aload_n 0, 1) := by decide +kernel
theorem dX3_init_48 : decode cX3_init 48 = .ok (.aload_n 2, 1) := by decide +kernel
theorem dX3_init_49 : decode cX3_init 49 = .ok (.putfield 32, 3) := by decide +kernel
theorem dX3_init_52 : decode cX3_init 52 = .ok (.aload_n 0, 1) := by decide +kernel
theorem dX3_init_53 : decode cX3_init 53 = .ok (.aload_n 3, 1) := by decide +kernel
theorem dX3_init_54 : decode cX3_init 54 = .ok (.putfield 36, 3) := by decide +kernel
theorem dX3_init_57 : decode cX3_init 57 = .ok (.aload_n 0, 1) := by decide +kernel
theorem dX3_init_58 : decode cX3_init 58 = .ok (.aload 4, 2) := by decide +kernel
theorem dX3_init_60 : decode cX3_init 60 = .ok (.putfield 40, 3) := by decide +kernel
theorem dX3_init_63 : decode cX3_init 63 = .ok (.return_, 1) := by decide +kernel
theorem dX3_write_0 : decode cX3_write 0 = .ok (.aload_n 0, 1) := by decide +kernel
theorem dX3_write_1 : decode cX3_write 1 = .ok (.getfield 32, 3) := by decide +kernel
theorem dX3_write_4 : decode cX3_write 4 = .ok (.aload_n 0, 1) := by decide +kernel
theorem dX3_write_5 : decode cX3_write 5 = .ok (.getfield 18, 3) := by decide +kernel
theorem dX3_write_8 : decode cX3_write 8 = .ok (.iload_n 1, 1) := by decide +kernel
theorem dX3_write_9 : decode cX3_write 9 = .ok (.invokevirtual 44, 3) := by decide +kernel
theorem dX3_write_12 : decode cX3_write 12 = .ok (.iconst 1, 1) := by decide +kernel
theorem dX3_write_13 : decode cX3_write 13 = .ok (.istore_n 2, 1) := by decide +kernel
theorem dX3_write_14 : decode cX3_write 14 = .ok (.iconst 0, 1) := by decide +kernel
theorem dX3_write_15 : decode cX3_write 15 = .ok (.istore_n 3, 1) := by decide +kernel
theorem dX3_write_16 : decode cX3_write 16 = .ok (.iload_n 3, 1) := by decide +kernel
theorem dX3_write_17 : decode cX3_write 17 = .ok (.aload_n 0, 1) := by decide +kernel
theorem dX3_write_18 : decode cX3_write 18 = .ok (.getfield 18, 3) := by decide +kernel
theorem dX3_write_21 : decode cX3_write 21 = .ok (.getfield 50, 3) := by decide +kernel
theorem dX3_write_24 : decode cX3_write 24 = .ok (.if_icmp .ge 45, 3) := by decide +kernel
theorem dX3_write_27 : decode cX3_write 27 = .ok (.iload_n 2, 1) := by decide +kernel
theorem dX3_write_28 : decode cX3_write 28 = .ok (.iconst 2, 1) := by decide +kernel
theorem dX3_write_29 : decode cX3_write 29 = .ok (.aload_n 0, 1) := by decide +kernel
theorem dX3_write_30 : decode cX3_write 30 = .ok (.getfield 28, 3) := by decide +kernel
theorem dX3_write_33 : decode cX3_write 33 = .ok (.aload_n 0, 1) := by decide +kernel
theorem dX3_write_34 : decode cX3_write 34 = .ok (.getfield 18, 3) := by decide +kernel
theorem dX3_write_37 : decode cX3_write 37 = .ok (.getfield 54, 3) := by decide +kernel
theorem dX3_write_40 : decode cX3_write 40 = .ok (.iload_n 3, 1) := by decide +kernel
theorem dX3_write_41 : decode cX3_write 41 = .ok (.iaload, 1) := by decide +kernel
theorem dX3_write_42 : decode cX3_write 42 = .ok (.invokevirtual 55, 3) := by decide +kernel
theorem dX3_write_45 : decode cX3_write 45 = .ok (.iadd, 1) := by decide +kernel
theorem dX3_write_46 : decode cX3_write 46 = .ok (.iadd, 1) := by decide +kernel
theorem dX3_write_47 : decode cX3_write 47 = .ok (.istore_n 2, 1) := by decide +kernel
theorem dX3_write_48 : decode cX3_write 48 = .ok (.aload_n 0, 1) := by decide +kernel
theorem dX3_write_49 : decode cX3_write 49 = .ok (.getfield 22, 3) := by decide +kernel
theorem dX3_write_52 : decode cX3_write 52 = .ok (.aload_n 0, 1) := by decide +kernel
theorem dX3_write_53 : decode cX3_write 53 = .ok (.getfield 18, 3) := by decide +kernel
theorem dX3_write_56 : decode cX3_write 56 = .ok (.getfield 54, 3) := by decide +kernel
theorem dX3_write_59 : decode cX3_write 59 = .ok (.iload_n 3, 1) := by decide +kernel
theorem dX3_write_60 : decode cX3_write 60 = .ok (.iaload, 1) := by decide +kernel
theorem dX3_write_61 : decode cX3_write 61 = .ok (.iload_n 3, 1) := by decide +kernel
theorem dX3_write_62 : decode cX3_write 62 = .ok (.iastore, 1) := by decide +kernel
theorem dX3_write_63 : decode cX3_write 63 = .ok (.iinc 3 1, 3) := by decide +kernel
theorem dX3_write_66 : decode cX3_write 66 = .ok (.goto (-50), 3) := by decide +kernel
theorem dX3_write_69 : decode cX3_write 69 = .ok (.iload_n 2, 1) := by decide +kernel
theorem dX3_write_70 : decode cX3_write 70 = .ok (.sipush 400, 3) := by decide +kernel
theorem dX3_write_73 : decode cX3_write 73 = .ok (.if_icmp .le 5, 3) := by decide +kernel
theorem dX3_write_76 : decode cX3_write 76 = .ok (.iconst (-1), 1) := by decide +kernel
theorem dX3_write_77 : decode cX3_write 77 = .ok (.ireturn, 1) := by decide +kernel
theorem dX3_write_78 : decode cX3_write 78 = .ok (.aload_n 0, 1) := by decide +kernel
theorem dX3_write_79 : decode cX3_write 79 = .ok (.iconst 0, 1) := by decide +kernel
theorem dX3_write_80 : decode cX3_write 80 = .ok (.putfield 61, 3) := by decide +kernel
theorem dX3_write_83 : decode cX3_write 83 = .ok (.aload_n 0, 1) := by decide +kernel
theorem dX3_write_84 : decode cX3_write 84 = .ok (.aload_n 0, 1) := by decide +kernel
theorem dX3_write_85 : decode cX3_write 85 = .ok (.getfield 18, 3) := by decide +kernel
theorem dX3_write_88 : decode cX3_write 88 = .ok (.getfield 50, 3) := by decide +kernel
theorem dX3_write_91 : decode cX3_write 91 = .ok (.invokevirtual 64, 3) := by decide +kernel
theorem dX3_write_94 : decode cX3_write 94 = .ok (.iconst 0, 1) := by decide +kernel
theorem dX3_write_95 : decode cX3_write 95 = .ok (.istore_n 3, 1) := by decide +kernel
theorem dX3_write_96 : decode cX3_write 96 = .ok (.iload_n 3, 1) := by decide +kernel
theorem dX3_write_97 : decode cX3_write 97 = .ok (.aload_n 0, 1) := by decide +kernel
theorem dX3_write_98 : decode cX3_write 98 = .ok (.getfield 18, 3) := by decide +kernel
theorem dX3_write_101 : decode cX3_write 101 = .ok (.getfield 50, 3) := by decide +kernel
theorem dX3_write_104 : decode cX3_write 104 = .ok (.if_icmp .ge 22, 3) := by decide +kernel
theorem dX3_write_107 : decode cX3_write 107 = .ok (.aload_n 0, 1) := by decide +kernel
theorem dX3_write_108 : decode cX3_write 108 = .ok (.aload_n 0, 1) := by decide +kernel
theorem dX3_write_109 : decode cX3_write 109 = .ok (.getfield 18, 3) := by decide +kernel
theorem dX3_write_112 : decode cX3_write 112 = .ok (.getfield 54, 3) := by decide +kernel
theorem dX3_write_115 : decode cX3_write 115 = .ok (.iload_n 3, 1) := by decide +kernel
theorem dX3_write_116 : decode cX3_write 116 = .ok (.iaload, 1) := by decide +kernel
theorem dX3_write_117 : decode cX3_write 117 = .ok (.invokevirtual 68, 3) := by decide +kernel
theorem dX3_write_120 : decode cX3_write 120 = .ok (.iinc 3 1, 3) := by decide +kernel
theorem dX3_write_123 : decode cX3_write 123 = .ok (.goto (-27), 3) := by decide +kernel
theorem dX3_write_126 : decode cX3_write 126 = .ok (.aload_n 0, 1) := by decide +kernel
theorem dX3_write_127 : decode cX3_write 127 = .ok (.getfield 61, 3) := by decide +kernel
theorem dX3_write_130 : decode cX3_write 130 = .ok (.ireturn, 1) := by decide +kernel
theorem dX3_append_0 : decode cX3_append 0 = .ok (.aload_n 0, 1) := by decide +kernel
theorem dX3_append_1 : decode cX3_append 1 = .ok (.getfield 61, 3) := by decide +kernel
theorem dX3_append_4 : decode cX3_append 4 = .ok (.sipush 400, 3) := by decide +kernel
theorem dX3_append_7 : decode cX3_append 7 = .ok (.if_icmp .ge 23, 3) := by decide +kernel
theorem dX3_append_10 : decode cX3_append 10 = .ok (.aload_n 0, 1) := by decide +kernel
theorem dX3_append_11 : decode cX3_append 11 = .ok (.getfield 9, 3) := by decide +kernel
theorem dX3_append_14 : decode cX3_append 14 = .ok (.aload_n 0, 1) := by decide +kernel
theorem dX3_append_15 : decode cX3_append 15 = .ok (.getfield 61, 3) := by decide +kernel
theorem dX3_append_18 : decode cX3_append 18 = .ok (.iload_n 1, 1) := by decide +kernel
theorem dX3_append_19 : decode cX3_append 19 = .ok (.iastore, 1) := by decide +kernel
theorem dX3_append_20 : decode cX3_append 20 = .ok (.aload_n 0, 1) := by decide +kernel
theorem dX3_append_21 : decode cX3_append 21 = .ok (.dup, 1) := by decide +kernel
theorem dX3_append_22 : decode cX3_append 22 = .ok (.getfield 61, 3) := by decide +kernel
theorem dX3_append_25 : decode cX3_append 25 = .ok (.iconst 1, 1) := by decide +kernel
theorem dX3_append_26 : decode cX3_append 26 = .ok (.iadd, 1) := by decide +kernel
theorem dX3_append_27 : decode cX3_append 27 = .ok (.putfield 61, 3) := by decide +kernel
theorem dX3_append_30 : decode cX3_append 30 = .ok (.return_, 1) := by decide +kernel
theorem dX3_writeThing_0 : decode cX3_writeThing 0 = .ok (.aload_n 0, 1) := by decide +kernel
theorem dX3_writeThing_1 : decode cX3_writeThing 1 = .ok (.aload_n 0, 1) := by decide +kernel
theorem dX3_writeThing_2 : decode cX3_writeThing 2 = .ok (.getfield 28, 3) := by decide +kernel
theorem dX3_writeThing_5 : decode cX3_writeThing 5 = .ok (.getfield 71, 3) := by decide +kernel
theorem dX3_writeThing_8 : decode cX3_writeThing 8 = .ok (.iload_n 1, 1) := by decide +kernel
theorem dX3_writeThing_9 : decode cX3_writeThing 9 = .ok (.baload, 1) := by decide +kernel
theorem dX3_writeThing_10 : decode cX3_writeThing 10 = .ok (.ifCond .eq 7, 3) := by decide +kernel
theorem dX3_writeThing_13 : decode cX3_writeThing 13 = .ok (.iconst 3, 1) := by decide +kernel
theorem dX3_writeThing_14 : decode cX3_writeThing 14 = .ok (.goto 12, 3) := by decide +kernel
theorem dX3_writeThing_17 : decode cX3_writeThing 17 = .ok (.aload_n 0, 1) := by decide +kernel
theorem dX3_writeThing_18 : decode cX3_writeThing 18 = .ok (.getfield 28, 3) := by decide +kernel
theorem dX3_writeThing_21 : decode cX3_writeThing 21 = .ok (.getfield 75, 3) := by decide +kernel
theorem dX3_writeThing_24 : decode cX3_writeThing 24 = .ok (.iload_n 1, 1) := by decide +kernel
theorem dX3_writeThing_25 : decode cX3_writeThing 25 = .ok (.iaload, 1) := by decide +kernel
theorem dX3_writeThing_26 : decode cX3_writeThing 26 = .ok (.invokevirtual 64, 3) := by decide +kernel
theorem dX3_writeThing_29 : decode cX3_writeThing 29 = .ok (.aload_n 0, 1) := by decide +kernel
theorem dX3_writeThing_30 : decode cX3_writeThing 30 = .ok (.aload_n 0, 1) := by decide +kernel
theorem dX3_writeThing_31 : decode cX3_writeThing 31 = .ok (.getfield 28, 3) := by decide +kernel
theorem dX3_writeThing_34 : decode cX3_writeThing 34 = .ok (.getfield 75, 3) := by decide +kernel
theorem dX3_writeThing_37 : decode cX3_writeThing 37 = .ok (.iload_n 1, 1) := by decide +kernel
theorem dX3_writeThing_38 : decode cX3_writeThing 38 = .ok (.iaload, 1) := by decide +kernel
theorem dX3_writeThing_39 : decode cX3_writeThing 39 = .ok (.ifCond .ne 15, 3) := by decide +kernel
theorem dX3_writeThing_42 : decode cX3_writeThing 42 = .ok (.aload_n 0, 1) := by decide +kernel
theorem dX3_writeThing_43 : decode cX3_writeThing 43 = .ok (.getfield 28, 3) := by decide +kernel
theorem dX3_writeThing_46 : decode cX3_writeThing 46 = .ok (.getfield 78, 3) := by decide +kernel
theorem dX3_writeThing_49 : decode cX3_writeThing 49 = .ok (.iload_n 1, 1) := by decide +kernel
theorem dX3_writeThing_50 : decode cX3_writeThing 50 = .ok (.iaload, 1) := by decide +kernel
theorem dX3_writeThing_51 : decode cX3_writeThing 51 = .ok (.goto 12, 3) := by decide +kernel
theorem dX3_writeThing_54 : decode cX3_writeThing 54 = .ok (.aload_n 0, 1) := by decide +kernel
theorem dX3_writeThing_55 : decode cX3_writeThing 55 = .ok (.getfield 28, 3) := by decide +kernel
theorem dX3_writeThing_58 : decode cX3_writeThing 58 = .ok (.getfield 81, 3) := by decide +kernel
theorem dX3_writeThing_61 : decode cX3_writeThing 61 = .ok (.iload_n 1, 1) := by decide +kernel
theorem dX3_writeThing_62 : decode cX3_writeThing 62 = .ok (.iaload, 1) := by decide +kernel
theorem dX3_writeThing_63 : decode cX3_writeThing 63 = .ok (.invokevirtual 64, 3) := by decide +kernel
theorem dX3_writeThing_66 : decode cX3_writeThing 66 = .ok (.iconst 0, 1) := by decide +kernel
theorem dX3_writeThing_67 : decode cX3_writeThing 67 = .ok (.istore_n 2, 1) := by decide +kernel
theorem dX3_writeThing_68 : decode cX3_writeThing 68 = .ok (.iload_n 2, 1) := by decide +kernel
theorem dX3_writeThing_69 : decode cX3_writeThing 69 = .ok (.aload_n 0, 1) := by decide +kernel
theorem dX3_writeThing_70 : decode cX3_writeThing 70 = .ok (.getfield 28, 3) := by decide +kernel
theorem dX3_writeThing_73 : decode cX3_writeThing 73 = .ok (.iload_n 1, 1) := by decide +kernel
theorem dX3_writeThing_74 : decode cX3_writeThing 74 = .ok (.invokevirtual 55, 3) := by decide +kernel
theorem dX3_writeThing_77 : decode cX3_writeThing 77 = .ok (.if_icmp .ge 76, 3) := by decide +kernel
theorem dX3_writeThing_80 : decode cX3_writeThing 80 = .ok (.aload_n 0, 1) := by decide +kernel
theorem dX3_writeThing_81 : decode cX3_writeThing 81 = .ok (.getfield 28, 3) := by decide +kernel
theorem dX3_writeThing_84 : decode cX3_writeThing 84 = .ok (.getfield 84, 3) := by decide +kernel
theorem dX3_writeThing_87 : decode cX3_writeThing 87 = .ok (.aload_n 0, 1) := by decide +kernel
theorem dX3_writeThing_88 : decode cX3_writeThing 88 = .ok (.getfield 28, 3) := by decide +kernel
theorem dX3_writeThing_91 : decode cX3_writeThing 91 = .ok (.getfield 87, 3) := by decide +kernel
theorem dX3_writeThing_94 : decode cX3_writeThing 94 = .ok (.iload_n 1, 1) := by decide +kernel
theorem dX3_writeThing_95 : decode cX3_writeThing 95 = .ok (.iaload, 1) := by decide +kernel
theorem dX3_writeThing_96 : decode cX3_writeThing 96 = .ok (.iload_n 2, 1) := by decide +kernel
theorem dX3_writeThing_97 : decode cX3_writeThing 97 = .ok (.iadd, 1) := by decide +kernel
theorem dX3_writeThing_98 : decode cX3_writeThing 98 = .ok (.iaload, 1) := by decide +kernel
theorem dX3_writeThing_99 : decode cX3_writeThing 99 = .ok (.istore_n 3, 1) := by decide +kernel
theorem dX3_writeThing_100 : decode cX3_writeThing 100 = .ok (.iload_n 2, 1) := by decide +kernel
theorem dX3_writeThing_101 : decode cX3_writeThing 101 = .ok (.aload_n 0, 1) := by decide +kernel
theorem dX3_writeThing_102 : decode cX3_writeThing 102 = .ok (.getfield 28, 3) := by decide +kernel
theorem dX3_writeThing_105 : decode cX3_writeThing 105 = .ok (.iload_n 1, 1) := by decide +kernel
theorem dX3_writeThing_106 : decode cX3_writeThing 106 = .ok (.invokevirtual 90, 3) := by decide +kernel
theorem dX3_writeThing_109 : decode cX3_writeThing 109 = .ok (.if_icmp .ge 33, 3) := by decide +kernel
theorem dX3_writeThing_112 : decode cX3_writeThing 112 = .ok (.aload_n 0, 1) := by decide +kernel
theorem dX3_writeThing_113 : decode cX3_writeThing 113 = .ok (.aload_n 0, 1) := by decide +kernel
theorem dX3_writeThing_114 : decode cX3_writeThing 114 = .ok (.getfield 18, 3) := by decide +kernel
theorem dX3_writeThing_117 : decode cX3_writeThing 117 = .ok (.iload_n 3, 1) := by decide +kernel
theorem dX3_writeThing_118 : decode cX3_writeThing 118 = .ok (.invokevirtual 93, 3) := by decide +kernel
theorem dX3_writeThing_121 : decode cX3_writeThing 121 = .ok (.ifCond .eq 14, 3) := by decide +kernel
theorem dX3_writeThing_124 : decode cX3_writeThing 124 = .ok (.aload_n 0, 1) := by decide +kernel
theorem dX3_writeThing_125 : decode cX3_writeThing 125 = .ok (.getfield 22, 3) := by decide +kernel
theorem dX3_writeThing_128 : decode cX3_writeThing 128 = .ok (.iload_n 3, 1) := by decide +kernel
theorem dX3_writeThing_129 : decode cX3_writeThing 129 = .ok (.iaload, 1) := by decide +kernel
theorem dX3_writeThing_130 : decode cX3_writeThing 130 = .ok (.iconst 1, 1) := by decide +kernel
theorem dX3_writeThing_131 : decode cX3_writeThing 131 = .ok (.iadd, 1) := by decide +kernel
theorem dX3_writeThing_132 : decode cX3_writeThing 132 = .ok (.goto 4, 3) := by decide +kernel
theorem dX3_writeThing_135 : decode cX3_writeThing 135 = .ok (.iconst 0, 1) := by decide +kernel
theorem dX3_writeThing_136 : decode cX3_writeThing 136 = .ok (.invokevirtual 64, 3) := by decide +kernel
theorem dX3_writeThing_139 : decode cX3_writeThing 139 = .ok (.goto 8, 3) := by decide +kernel
theorem dX3_writeThing_142 : decode cX3_writeThing 142 = .ok (.aload_n 0, 1) := by decide +kernel
theorem dX3_writeThing_143 : decode cX3_writeThing 143 = .ok (.iload_n 3, 1) := by decide +kernel
theorem dX3_writeThing_144 : decode cX3_writeThing 144 = .ok (.invokevirtual 64, 3) := by decide +kernel
theorem dX3_writeThing_147 : decode cX3_writeThing 147 = .ok (.iinc 2 1, 3) := by decide +kernel
theorem dX3_writeThing_150 : decode cX3_writeThing 150 = .ok (.goto (-82), 3) := by decide +kernel
theorem dX3_writeThing_153 : decode cX3_writeThing 153 = .ok (.return_, 1) := by decide +kernel
theorem dX3_wordsWanted_0 : decode cX3_wordsWanted 0 = .ok (.aload_n 0, 1) := by decide +kernel
theorem dX3_wordsWanted_1 : decode cX3_wordsWanted 1 = .ok (.getfield 61, 3) := by decide +kernel
theorem dX3_wordsWanted_4 : decode cX3_wordsWanted 4 = .ok (.ifCond .eq 25, 3) := by decide +kernel
theorem dX3_wordsWanted_7 : decode cX3_wordsWanted 7 = .ok (.aload_n 0, 1) := by decide +kernel
theorem dX3_wordsWanted_8 : decode cX3_wordsWanted 8 = .ok (.getfield 9, 3) := by decide +kernel
theorem dX3_wordsWanted_11 : decode cX3_wordsWanted 11 = .ok (.iconst 0, 1) := by decide +kernel
theorem dX3_wordsWanted_12 : decode cX3_wordsWanted 12 = .ok (.iaload, 1) := by decide +kernel
theorem dX3_wordsWanted_13 : decode cX3_wordsWanted 13 = .ok (.iconst 1, 1) := by decide +kernel
theorem dX3_wordsWanted_14 : decode cX3_wordsWanted 14 = .ok (.if_icmp .lt 15, 3) := by decide +kernel
theorem dX3_wordsWanted_17 : decode cX3_wordsWanted 17 = .ok (.aload_n 0, 1) := by decide +kernel
theorem dX3_wordsWanted_18 : decode cX3_wordsWanted 18 = .ok (.getfield 9, 3) := by decide +kernel
theorem dX3_wordsWanted_21 : decode cX3_wordsWanted 21 = .ok (.iconst 0, 1) := by decide +kernel
theorem dX3_wordsWanted_22 : decode cX3_wordsWanted 22 = .ok (.iaload, 1) := by decide +kernel
theorem dX3_wordsWanted_23 : decode cX3_wordsWanted 23 = .ok (.sipush 400, 3) := by decide +kernel
theorem dX3_wordsWanted_26 : decode cX3_wordsWanted 26 = .ok (.if_icmp .le 5, 3) := by decide +kernel
theorem dX3_wordsWanted_29 : decode cX3_wordsWanted 29 = .ok (.iconst (-1), 1) := by decide +kernel
theorem dX3_wordsWanted_30 : decode cX3_wordsWanted 30 = .ok (.ireturn, 1) := by decide +kernel
theorem dX3_wordsWanted_31 : decode cX3_wordsWanted 31 = .ok (.iconst 0, 1) := by decide +kernel
theorem dX3_wordsWanted_32 : decode cX3_wordsWanted 32 = .ok (.istore_n 1, 1) := by decide +kernel
theorem dX3_wordsWanted_33 : decode cX3_wordsWanted 33 = .ok (.iconst 1, 1) := by decide +kernel
theorem dX3_wordsWanted_34 : decode cX3_wordsWanted 34 = .ok (.istore_n 2, 1) := by decide +kernel
theorem dX3_wordsWanted_35 : decode cX3_wordsWanted 35 = .ok (.iconst 0, 1) := by decide +kernel
theorem dX3_wordsWanted_36 : decode cX3_wordsWanted 36 = .ok (.istore_n 3, 1) := by decide +kernel
theorem dX3_wordsWanted_37 : decode cX3_wordsWanted 37 = .ok (.iload_n 3, 1) := by decide +kernel
theorem dX3_wordsWanted_38 : decode cX3_wordsWanted 38 = .ok (.aload_n 0, 1) := by decide +kernel
theorem dX3_wordsWanted_39 : decode cX3_wordsWanted 39 = .ok (.getfield 9, 3) := by decide +kernel
theorem dX3_wordsWanted_42 : decode cX3_wordsWanted 42 = .ok (.iconst 0, 1) := by decide +kernel
theorem dX3_wordsWanted_43 : decode cX3_wordsWanted 43 = .ok (.iaload, 1) := by decide +kernel
theorem dX3_wordsWanted_44 : decode cX3_wordsWanted 44 = .ok (.if_icmp .ge 45, 3) := by decide +kernel
theorem dX3_wordsWanted_47 : decode cX3_wordsWanted 47 = .ok (.aload_n 0, 1) := by decide +kernel
theorem dX3_wordsWanted_48 : decode cX3_wordsWanted 48 = .ok (.iload_n 2, 1) := by decide +kernel
theorem dX3_wordsWanted_49 : decode cX3_wordsWanted 49 = .ok (.invokevirtual 97, 3) := by decide +kernel
theorem dX3_wordsWanted_52 : decode cX3_wordsWanted 52 = .ok (.ifCond .ne 5, 3) := by decide +kernel
theorem dX3_wordsWanted_55 : decode cX3_wordsWanted 55 = .ok (.iconst (-1), 1) := by decide +kernel
theorem dX3_wordsWanted_56 : decode cX3_wordsWanted 56 = .ok (.ireturn, 1) := by decide +kernel
theorem dX3_wordsWanted_57 : decode cX3_wordsWanted 57 = .ok (.iload_n 1, 1) := by decide +kernel
theorem dX3_wordsWanted_58 : decode cX3_wordsWanted 58 = .ok (.aload_n 0, 1) := by decide +kernel
theorem dX3_wordsWanted_59 : decode cX3_wordsWanted 59 = .ok (.iload_n 2, 1) := by decide +kernel
theorem dX3_wordsWanted_60 : decode cX3_wordsWanted 60 = .ok (.invokevirtual 100, 3) := by decide +kernel
theorem dX3_wordsWanted_63 : decode cX3_wordsWanted 63 = .ok (.aload_n 0, 1) := by decide +kernel
theorem dX3_wordsWanted_64 : decode cX3_wordsWanted 64 = .ok (.iload_n 2, 1) := by decide +kernel
theorem dX3_wordsWanted_65 : decode cX3_wordsWanted 65 = .ok (.invokevirtual 103, 3) := by decide +kernel
theorem dX3_wordsWanted_68 : decode cX3_wordsWanted 68 = .ok (.invokestatic 106, 3) := by decide +kernel
theorem dX3_wordsWanted_71 : decode cX3_wordsWanted 71 = .ok (.iadd, 1) := by decide +kernel
theorem dX3_wordsWanted_72 : decode cX3_wordsWanted 72 = .ok (.istore_n 1, 1) := by decide +kernel
theorem dX3_wordsWanted_73 : decode cX3_wordsWanted 73 = .ok (.iload_n 2, 1) := by decide +kernel
theorem dX3_wordsWanted_74 : decode cX3_wordsWanted 74 = .ok (.iconst 2, 1) := by decide +kernel
theorem dX3_wordsWanted_75 : decode cX3_wordsWanted 75 = .ok (.aload_n 0, 1) := by decide +kernel
theorem dX3_wordsWanted_76 : decode cX3_wordsWanted 76 = .ok (.iload_n 2, 1) := by decide +kernel
theorem dX3_wordsWanted_77 : decode cX3_wordsWanted 77 = .ok (.invokevirtual 103, 3) := by decide +kernel
theorem dX3_wordsWanted_80 : decode cX3_wordsWanted 80 = .ok (.iadd, 1) := by decide +kernel
theorem dX3_wordsWanted_81 : decode cX3_wordsWanted 81 = .ok (.iadd, 1) := by decide +kernel
theorem dX3_wordsWanted_82 : decode cX3_wordsWanted 82 = .ok (.istore_n 2, 1) := by decide +kernel
theorem dX3_wordsWanted_83 : decode cX3_wordsWanted 83 = .ok (.iinc 3 1, 3) := by decide +kernel
theorem dX3_wordsWanted_86 : decode cX3_wordsWanted 86 = .ok (.goto (-49), 3) := by decide +kernel
theorem dX3_wordsWanted_89 : decode cX3_wordsWanted 89 = .ok (.iload_n 2, 1) := by decide +kernel
theorem dX3_wordsWanted_90 : decode cX3_wordsWanted 90 = .ok (.aload_n 0, 1) := by decide +kernel
theorem dX3_wordsWanted_91 : decode cX3_wordsWanted 91 = .ok (.getfield 61, 3) := by decide +kernel
theorem dX3_wordsWanted_94 : decode cX3_wordsWanted 94 = .ok (.if_icmp .ne 7, 3) := by decide +kernel
theorem dX3_wordsWanted_97 : decode cX3_wordsWanted 97 = .ok (.iload_n 1, 1) := by decide +kernel
theorem dX3_wordsWanted_98 : decode cX3_wordsWanted 98 = .ok (.goto 4, 3) := by decide +kernel
theorem dX3_wordsWanted_101 : decode cX3_wordsWanted 101 = .ok (.iconst (-1), 1) := by decide +kernel
theorem dX3_wordsWanted_102 : decode cX3_wordsWanted 102 = .ok (.ireturn, 1) := by decide +kernel
theorem dX3_formAt_0 : decode cX3_formAt 0 = .ok (.aload_n 0, 1) := by decide +kernel
theorem dX3_formAt_1 : decode cX3_formAt 1 = .ok (.getfield 9, 3) := by decide +kernel
theorem dX3_formAt_4 : decode cX3_formAt 4 = .ok (.iload_n 1, 1) := by decide +kernel
theorem dX3_formAt_5 : decode cX3_formAt 5 = .ok (.iaload, 1) := by decide +kernel
theorem dX3_formAt_6 : decode cX3_formAt 6 = .ok (.iconst 3, 1) := by decide +kernel
theorem dX3_formAt_7 : decode cX3_formAt 7 = .ok (.if_icmp .ne 7, 3) := by decide +kernel
theorem dX3_formAt_10 : decode cX3_formAt 10 = .ok (.iconst 2, 1) := by decide +kernel
theorem dX3_formAt_11 : decode cX3_formAt 11 = .ok (.goto 9, 3) := by decide +kernel
theorem dX3_formAt_14 : decode cX3_formAt 14 = .ok (.aload_n 0, 1) := by decide +kernel
theorem dX3_formAt_15 : decode cX3_formAt 15 = .ok (.getfield 9, 3) := by decide +kernel
theorem dX3_formAt_18 : decode cX3_formAt 18 = .ok (.iload_n 1, 1) := by decide +kernel
theorem dX3_formAt_19 : decode cX3_formAt 19 = .ok (.iaload, 1) := by decide +kernel
theorem dX3_formAt_20 : decode cX3_formAt 20 = .ok (.ireturn, 1) := by decide +kernel
theorem dX3_kindAt_0 : decode cX3_kindAt 0 = .ok (.aload_n 0, 1) := by decide +kernel
theorem dX3_kindAt_1 : decode cX3_kindAt 1 = .ok (.iload_n 1, 1) := by decide +kernel
theorem dX3_kindAt_2 : decode cX3_kindAt 2 = .ok (.invokevirtual 100, 3) := by decide +kernel
theorem dX3_kindAt_5 : decode cX3_kindAt 5 = .ok (.ifCond .ne 14, 3) := by decide +kernel
theorem dX3_kindAt_8 : decode cX3_kindAt 8 = .ok (.aload_n 0, 1) := by decide +kernel
theorem dX3_kindAt_9 : decode cX3_kindAt 9 = .ok (.getfield 9, 3) := by decide +kernel
theorem dX3_kindAt_12 : decode cX3_kindAt 12 = .ok (.iload_n 1, 1) := by decide +kernel
theorem dX3_kindAt_13 : decode cX3_kindAt 13 = .ok (.iconst 1, 1) := by decide +kernel
theorem dX3_kindAt_14 : decode cX3_kindAt 14 = .ok (.iadd, 1) := by decide +kernel
theorem dX3_kindAt_15 : decode cX3_kindAt 15 = .ok (.iaload, 1) := by decide +kernel
theorem dX3_kindAt_16 : decode cX3_kindAt 16 = .ok (.goto 4, 3) := by decide +kernel
theorem dX3_kindAt_19 : decode cX3_kindAt 19 = .ok (.iconst (-1), 1) := by decide +kernel
theorem dX3_kindAt_20 : decode cX3_kindAt 20 = .ok (.ireturn, 1) := by decide +kernel
theorem dX3_lengthAt_0 : decode cX3_lengthAt 0 = .ok (.aload_n 0, 1) := by decide +kernel
theorem dX3_lengthAt_1 : decode cX3_lengthAt 1 = .ok (.iload_n 1, 1) := by decide +kernel
theorem dX3_lengthAt_2 : decode cX3_lengthAt 2 = .ok (.invokevirtual 100, 3) := by decide +kernel
theorem dX3_lengthAt_5 : decode cX3_lengthAt 5 = .ok (.ifCond .ne 25, 3) := by decide +kernel
theorem dX3_lengthAt_8 : decode cX3_lengthAt 8 = .ok (.aload_n 0, 1) := by decide +kernel
theorem dX3_lengthAt_9 : decode cX3_lengthAt 9 = .ok (.getfield 28, 3) := by decide +kernel
theorem dX3_lengthAt_12 : decode cX3_lengthAt 12 = .ok (.getfield 110, 3) := by decide +kernel
theorem dX3_lengthAt_15 : decode cX3_lengthAt 15 = .ok (.aload_n 0, 1) := by decide +kernel
theorem dX3_lengthAt_16 : decode cX3_lengthAt 16 = .ok (.getfield 9, 3) := by decide +kernel
theorem dX3_lengthAt_19 : decode cX3_lengthAt 19 = .ok (.iload_n 1, 1) := by decide +kernel
theorem dX3_lengthAt_20 : decode cX3_lengthAt 20 = .ok (.iconst 1, 1) := by decide +kernel
theorem dX3_lengthAt_21 : decode cX3_lengthAt 21 = .ok (.iadd, 1) := by decide +kernel
theorem dX3_lengthAt_22 : decode cX3_lengthAt 22 = .ok (.iaload, 1) := by decide +kernel
theorem dX3_lengthAt_23 : decode cX3_lengthAt 23 = .ok (.iconst 0, 1) := by decide +kernel
theorem dX3_lengthAt_24 : decode cX3_lengthAt 24 = .ok (.invokevirtual 114, 3) := by decide +kernel
theorem dX3_lengthAt_27 : decode cX3_lengthAt 27 = .ok (.goto 11, 3) := by decide +kernel
theorem dX3_lengthAt_30 : decode cX3_lengthAt 30 = .ok (.aload_n 0, 1) := by decide +kernel
theorem dX3_lengthAt_31 : decode cX3_lengthAt 31 = .ok (.getfield 9, 3) := by decide +kernel
theorem dX3_lengthAt_34 : decode cX3_lengthAt 34 = .ok (.iload_n 1, 1) := by decide +kernel
theorem dX3_lengthAt_35 : decode cX3_lengthAt 35 = .ok (.iconst 1, 1) := by decide +kernel
theorem dX3_lengthAt_36 : decode cX3_lengthAt 36 = .ok (.iadd, 1) := by decide +kernel
theorem dX3_lengthAt_37 : decode cX3_lengthAt 37 = .ok (.iaload, 1) := by decide +kernel
theorem dX3_lengthAt_38 : decode cX3_lengthAt 38 = .ok (.ireturn, 1) := by decide +kernel
theorem dX3_sizeAt_0 : decode cX3_sizeAt 0 = .ok (.aload_n 0, 1) := by decide +kernel
theorem dX3_sizeAt_1 : decode cX3_sizeAt 1 = .ok (.getfield 28, 3) := by decide +kernel
theorem dX3_sizeAt_4 : decode cX3_sizeAt 4 = .ok (.aload_n 0, 1) := by decide +kernel
theorem dX3_sizeAt_5 : decode cX3_sizeAt 5 = .ok (.iload_n 1, 1) := by decide +kernel
theorem dX3_sizeAt_6 : decode cX3_sizeAt 6 = .ok (.invokevirtual 100, 3) := by decide +kernel
theorem dX3_sizeAt_9 : decode cX3_sizeAt 9 = .ok (.aload_n 0, 1) := by decide +kernel
theorem dX3_sizeAt_10 : decode cX3_sizeAt 10 = .ok (.iload_n 1, 1) := by decide +kernel
theorem dX3_sizeAt_11 : decode cX3_sizeAt 11 = .ok (.invokevirtual 119, 3) := by decide +kernel
theorem dX3_sizeAt_14 : decode cX3_sizeAt 14 = .ok (.aload_n 0, 1) := by decide +kernel
theorem dX3_sizeAt_15 : decode cX3_sizeAt 15 = .ok (.iload_n 1, 1) := by decide +kernel
theorem dX3_sizeAt_16 : decode cX3_sizeAt 16 = .ok (.invokevirtual 122, 3) := by decide +kernel
theorem dX3_sizeAt_19 : decode cX3_sizeAt 19 = .ok (.invokevirtual 125, 3) := by decide +kernel
theorem dX3_sizeAt_22 : decode cX3_sizeAt 22 = .ok (.ireturn, 1) := by decide +kernel
theorem dX3_isThingAt_0 : decode cX3_isThingAt 0 = .ok (.iload_n 1, 1) := by decide +kernel
theorem dX3_isThingAt_1 : decode cX3_isThingAt 1 = .ok (.iconst 1, 1) := by decide +kernel
theorem dX3_isThingAt_2 : decode cX3_isThingAt 2 = .ok (.iadd, 1) := by decide +kernel
theorem dX3_isThingAt_3 : decode cX3_isThingAt 3 = .ok (.aload_n 0, 1) := by decide +kernel
theorem dX3_isThingAt_4 : decode cX3_isThingAt 4 = .ok (.getfield 61, 3) := by decide +kernel
theorem dX3_isThingAt_7 : decode cX3_isThingAt 7 = .ok (.if_icmp .ge 27, 3) := by decide +kernel
theorem dX3_isThingAt_10 : decode cX3_isThingAt 10 = .ok (.aload_n 0, 1) := by decide +kernel
theorem dX3_isThingAt_11 : decode cX3_isThingAt 11 = .ok (.iload_n 1, 1) := by decide +kernel
theorem dX3_isThingAt_12 : decode cX3_isThingAt 12 = .ok (.invokevirtual 129, 3) := by decide +kernel
theorem dX3_isThingAt_15 : decode cX3_isThingAt 15 = .ok (.ifCond .eq 19, 3) := by decide +kernel
theorem dX3_isThingAt_18 : decode cX3_isThingAt 18 = .ok (.iload_n 1, 1) := by decide +kernel
theorem dX3_isThingAt_19 : decode cX3_isThingAt 19 = .ok (.iconst 2, 1) := by decide +kernel
theorem dX3_isThingAt_20 : decode cX3_isThingAt 20 = .ok (.iadd, 1) := by decide +kernel
theorem dX3_isThingAt_21 : decode cX3_isThingAt 21 = .ok (.aload_n 0, 1) := by decide +kernel
theorem dX3_isThingAt_22 : decode cX3_isThingAt 22 = .ok (.iload_n 1, 1) := by decide +kernel
theorem dX3_isThingAt_23 : decode cX3_isThingAt 23 = .ok (.invokevirtual 103, 3) := by decide +kernel
theorem dX3_isThingAt_26 : decode cX3_isThingAt 26 = .ok (.iadd, 1) := by decide +kernel
theorem dX3_isThingAt_27 : decode cX3_isThingAt 27 = .ok (.aload_n 0, 1) := by decide +kernel
theorem dX3_isThingAt_28 : decode cX3_isThingAt 28 = .ok (.getfield 61, 3) := by decide +kernel
theorem dX3_isThingAt_31 : decode cX3_isThingAt 31 = .ok (.if_icmp .le 5, 3) := by decide +kernel
theorem dX3_isThingAt_34 : decode cX3_isThingAt 34 = .ok (.iconst 0, 1) := by decide +kernel
theorem dX3_isThingAt_35 : decode cX3_isThingAt 35 = .ok (.ireturn, 1) := by decide +kernel
theorem dX3_isThingAt_36 : decode cX3_isThingAt 36 = .ok (.aload_n 0, 1) := by decide +kernel
theorem dX3_isThingAt_37 : decode cX3_isThingAt 37 = .ok (.iload_n 1, 1) := by decide +kernel
theorem dX3_isThingAt_38 : decode cX3_isThingAt 38 = .ok (.invokevirtual 100, 3) := by decide +kernel
theorem dX3_isThingAt_41 : decode cX3_isThingAt 41 = .ok (.istore_n 2, 1) := by decide +kernel
theorem dX3_isThingAt_42 : decode cX3_isThingAt 42 = .ok (.iconst 0, 1) := by decide +kernel
theorem dX3_isThingAt_43 : decode cX3_isThingAt 43 = .ok (.istore_n 3, 1) := by decide +kernel
theorem dX3_isThingAt_44 : decode cX3_isThingAt 44 = .ok (.iload_n 3, 1) := by decide +kernel
theorem dX3_isThingAt_45 : decode cX3_isThingAt 45 = .ok (.aload_n 0, 1) := by decide +kernel
theorem dX3_isThingAt_46 : decode cX3_isThingAt 46 = .ok (.iload_n 1, 1) := by decide +kernel
theorem dX3_isThingAt_47 : decode cX3_isThingAt 47 = .ok (.invokevirtual 103, 3) := by decide +kernel
theorem dX3_isThingAt_50 : decode cX3_isThingAt 50 = .ok (.if_icmp .ge 79, 3) := by decide +kernel
theorem dX3_isThingAt_53 : decode cX3_isThingAt 53 = .ok (.aload_n 0, 1) := by decide +kernel
theorem dX3_isThingAt_54 : decode cX3_isThingAt 54 = .ok (.getfield 9, 3) := by decide +kernel
theorem dX3_isThingAt_57 : decode cX3_isThingAt 57 = .ok (.iload_n 1, 1) := by decide +kernel
theorem dX3_isThingAt_58 : decode cX3_isThingAt 58 = .ok (.iconst 2, 1) := by decide +kernel
theorem dX3_isThingAt_59 : decode cX3_isThingAt 59 = .ok (.iadd, 1) := by decide +kernel
theorem dX3_isThingAt_60 : decode cX3_isThingAt 60 = .ok (.iload_n 3, 1) := by decide +kernel
theorem dX3_isThingAt_61 : decode cX3_isThingAt 61 = .ok (.iadd, 1) := by decide +kernel
theorem dX3_isThingAt_62 : decode cX3_isThingAt 62 = .ok (.iaload, 1) := by decide +kernel
theorem dX3_isThingAt_63 : decode cX3_isThingAt 63 = .ok (.istore 4, 2) := by decide +kernel
theorem dX3_isThingAt_65 : decode cX3_isThingAt 65 = .ok (.iload_n 2, 1) := by decide +kernel
theorem dX3_isThingAt_66 : decode cX3_isThingAt 66 = .ok (.iconst 2, 1) := by decide +kernel
theorem dX3_isThingAt_67 : decode cX3_isThingAt 67 = .ok (.if_icmp .ne 9, 3) := by decide +kernel
theorem dX3_isThingAt_70 : decode cX3_isThingAt 70 = .ok (.sipush 255, 3) := by decide +kernel
theorem dX3_isThingAt_73 : decode cX3_isThingAt 73 = .ok (.goto 9, 3) := by decide +kernel
theorem dX3_isThingAt_76 : decode cX3_isThingAt 76 = .ok (.aload_n 0, 1) := by decide +kernel
theorem dX3_isThingAt_77 : decode cX3_isThingAt 77 = .ok (.getfield 9, 3) := by decide +kernel
theorem dX3_isThingAt_80 : decode cX3_isThingAt 80 = .ok (.iconst 0, 1) := by decide +kernel
theorem dX3_isThingAt_81 : decode cX3_isThingAt 81 = .ok (.iaload, 1) := by decide +kernel
theorem dX3_isThingAt_82 : decode cX3_isThingAt 82 = .ok (.istore 5, 2) := by decide +kernel
theorem dX3_isThingAt_84 : decode cX3_isThingAt 84 = .ok (.iload_n 2, 1) := by decide +kernel
theorem dX3_isThingAt_85 : decode cX3_isThingAt 85 = .ok (.ifCond .ne 16, 3) := by decide +kernel
theorem dX3_isThingAt_88 : decode cX3_isThingAt 88 = .ok (.iload_n 3, 1) := by decide +kernel
theorem dX3_isThingAt_89 : decode cX3_isThingAt 89 = .ok (.aload_n 0, 1) := by decide +kernel
theorem dX3_isThingAt_90 : decode cX3_isThingAt 90 = .ok (.iload_n 1, 1) := by decide +kernel
theorem dX3_isThingAt_91 : decode cX3_isThingAt 91 = .ok (.invokevirtual 122, 3) := by decide +kernel
theorem dX3_isThingAt_94 : decode cX3_isThingAt 94 = .ok (.if_icmp .lt 7, 3) := by decide +kernel
theorem dX3_isThingAt_97 : decode cX3_isThingAt 97 = .ok (.iconst 1, 1) := by decide +kernel
theorem dX3_isThingAt_98 : decode cX3_isThingAt 98 = .ok (.goto 4, 3) := by decide +kernel
theorem dX3_isThingAt_101 : decode cX3_isThingAt 101 = .ok (.iconst 0, 1) := by decide +kernel
theorem dX3_isThingAt_102 : decode cX3_isThingAt 102 = .ok (.istore 6, 2) := by decide +kernel
theorem dX3_isThingAt_104 : decode cX3_isThingAt 104 = .ok (.iload 6, 2) := by decide +kernel
theorem dX3_isThingAt_106 : decode cX3_isThingAt 106 = .ok (.ifCond .ne 17, 3) := by decide +kernel
theorem dX3_isThingAt_109 : decode cX3_isThingAt 109 = .ok (.iload 4, 2) := by decide +kernel
theorem dX3_isThingAt_111 : decode cX3_isThingAt 111 = .ok (.ifCond .lt 10, 3) := by decide +kernel
theorem dX3_isThingAt_114 : decode cX3_isThingAt 114 = .ok (.iload 4, 2) := by decide +kernel
theorem dX3_isThingAt_116 : decode cX3_isThingAt 116 = .ok (.iload 5, 2) := by decide +kernel
theorem dX3_isThingAt_118 : decode cX3_isThingAt 118 = .ok (.if_icmp .le 5, 3) := by decide +kernel
theorem dX3_isThingAt_121 : decode cX3_isThingAt 121 = .ok (.iconst 0, 1) := by decide +kernel
theorem dX3_isThingAt_122 : decode cX3_isThingAt 122 = .ok (.ireturn, 1) := by decide +kernel
theorem dX3_isThingAt_123 : decode cX3_isThingAt 123 = .ok (.iinc 3 1, 3) := by decide +kernel
theorem dX3_isThingAt_126 : decode cX3_isThingAt 126 = .ok (.goto (-82), 3) := by decide +kernel
theorem dX3_isThingAt_129 : decode cX3_isThingAt 129 = .ok (.iconst 1, 1) := by decide +kernel
theorem dX3_isThingAt_130 : decode cX3_isThingAt 130 = .ok (.ireturn, 1) := by decide +kernel
theorem dX3_isHeadAt_0 : decode cX3_isHeadAt 0 = .ok (.aload_n 0, 1) := by decide +kernel
theorem dX3_isHeadAt_1 : decode cX3_isHeadAt 1 = .ok (.getfield 9, 3) := by decide +kernel
theorem dX3_isHeadAt_4 : decode cX3_isHeadAt 4 = .ok (.iload_n 1, 1) := by decide +kernel
theorem dX3_isHeadAt_5 : decode cX3_isHeadAt 5 = .ok (.iaload, 1) := by decide +kernel
theorem dX3_isHeadAt_6 : decode cX3_isHeadAt 6 = .ok (.istore_n 2, 1) := by decide +kernel
theorem dX3_isHeadAt_7 : decode cX3_isHeadAt 7 = .ok (.aload_n 0, 1) := by decide +kernel
theorem dX3_isHeadAt_8 : decode cX3_isHeadAt 8 = .ok (.getfield 9, 3) := by decide +kernel
theorem dX3_isHeadAt_11 : decode cX3_isHeadAt 11 = .ok (.iload_n 1, 1) := by decide +kernel
theorem dX3_isHeadAt_12 : decode cX3_isHeadAt 12 = .ok (.iconst 1, 1) := by decide +kernel
theorem dX3_isHeadAt_13 : decode cX3_isHeadAt 13 = .ok (.iadd, 1) := by decide +kernel
theorem dX3_isHeadAt_14 : decode cX3_isHeadAt 14 = .ok (.iaload, 1) := by decide +kernel
theorem dX3_isHeadAt_15 : decode cX3_isHeadAt 15 = .ok (.istore_n 3, 1) := by decide +kernel
theorem dX3_isHeadAt_16 : decode cX3_isHeadAt 16 = .ok (.iload_n 2, 1) := by decide +kernel
theorem dX3_isHeadAt_17 : decode cX3_isHeadAt 17 = .ok (.ifCond .ne 15, 3) := by decide +kernel
theorem dX3_isHeadAt_20 : decode cX3_isHeadAt 20 = .ok (.aload_n 0, 1) := by decide +kernel
theorem dX3_isHeadAt_21 : decode cX3_isHeadAt 21 = .ok (.getfield 28, 3) := by decide +kernel
theorem dX3_isHeadAt_24 : decode cX3_isHeadAt 24 = .ok (.getfield 110, 3) := by decide +kernel
theorem dX3_isHeadAt_27 : decode cX3_isHeadAt 27 = .ok (.iload_n 3, 1) := by decide +kernel
theorem dX3_isHeadAt_28 : decode cX3_isHeadAt 28 = .ok (.invokevirtual 132, 3) := by decide +kernel
theorem dX3_isHeadAt_31 : decode cX3_isHeadAt 31 = .ok (.ireturn, 1) := by decide +kernel
theorem dX3_isHeadAt_32 : decode cX3_isHeadAt 32 = .ok (.iload_n 2, 1) := by decide +kernel
theorem dX3_isHeadAt_33 : decode cX3_isHeadAt 33 = .ok (.iconst 1, 1) := by decide +kernel
theorem dX3_isHeadAt_34 : decode cX3_isHeadAt 34 = .ok (.if_icmp .ne 19, 3) := by decide +kernel
theorem dX3_isHeadAt_37 : decode cX3_isHeadAt 37 = .ok (.iload_n 3, 1) := by decide +kernel
theorem dX3_isHeadAt_38 : decode cX3_isHeadAt 38 = .ok (.ifCond .lt 13, 3) := by decide +kernel
theorem dX3_isHeadAt_41 : decode cX3_isHeadAt 41 = .ok (.iload_n 3, 1) := by decide +kernel
theorem dX3_isHeadAt_42 : decode cX3_isHeadAt 42 = .ok (.bipush 40, 2) := by decide +kernel
theorem dX3_isHeadAt_44 : decode cX3_isHeadAt 44 = .ok (.if_icmp .gt 7, 3) := by decide +kernel
theorem dX3_isHeadAt_47 : decode cX3_isHeadAt 47 = .ok (.iconst 1, 1) := by decide +kernel
theorem dX3_isHeadAt_48 : decode cX3_isHeadAt 48 = .ok (.goto 4, 3) := by decide +kernel
theorem dX3_isHeadAt_51 : decode cX3_isHeadAt 51 = .ok (.iconst 0, 1) := by decide +kernel
theorem dX3_isHeadAt_52 : decode cX3_isHeadAt 52 = .ok (.ireturn, 1) := by decide +kernel
theorem dX3_isHeadAt_53 : decode cX3_isHeadAt 53 = .ok (.iload_n 2, 1) := by decide +kernel
theorem dX3_isHeadAt_54 : decode cX3_isHeadAt 54 = .ok (.iconst 2, 1) := by decide +kernel
theorem dX3_isHeadAt_55 : decode cX3_isHeadAt 55 = .ok (.if_icmp .eq 8, 3) := by decide +kernel
theorem dX3_isHeadAt_58 : decode cX3_isHeadAt 58 = .ok (.iload_n 2, 1) := by decide +kernel
theorem dX3_isHeadAt_59 : decode cX3_isHeadAt 59 = .ok (.iconst 3, 1) := by decide +kernel
theorem dX3_isHeadAt_60 : decode cX3_isHeadAt 60 = .ok (.if_icmp .ne 17, 3) := by decide +kernel
theorem dX3_isHeadAt_63 : decode cX3_isHeadAt 63 = .ok (.iload_n 3, 1) := by decide +kernel
theorem dX3_isHeadAt_64 : decode cX3_isHeadAt 64 = .ok (.ifCond .lt 13, 3) := by decide +kernel
theorem dX3_isHeadAt_67 : decode cX3_isHeadAt 67 = .ok (.iload_n 3, 1) := by decide +kernel
theorem dX3_isHeadAt_68 : decode cX3_isHeadAt 68 = .ok (.bipush 120, 2) := by decide +kernel
theorem dX3_isHeadAt_70 : decode cX3_isHeadAt 70 = .ok (.if_icmp .gt 7, 3) := by decide +kernel
theorem dX3_isHeadAt_73 : decode cX3_isHeadAt 73 = .ok (.iconst 1, 1) := by decide +kernel
theorem dX3_isHeadAt_74 : decode cX3_isHeadAt 74 = .ok (.goto 4, 3) := by decide +kernel
theorem dX3_isHeadAt_77 : decode cX3_isHeadAt 77 = .ok (.iconst 0, 1) := by decide +kernel
theorem dX3_isHeadAt_78 : decode cX3_isHeadAt 78 = .ok (.ireturn, 1) := by decide +kernel
theorem dX3_makeAll_0 : decode cX3_makeAll 0 = .ok (.iconst 1, 1) := by decide +kernel
theorem dX3_makeAll_1 : decode cX3_makeAll 1 = .ok (.istore_n 2, 1) := by decide +kernel
theorem dX3_makeAll_2 : decode cX3_makeAll 2 = .ok (.iconst 0, 1) := by decide +kernel
theorem dX3_makeAll_3 : decode cX3_makeAll 3 = .ok (.istore_n 3, 1) := by decide +kernel
theorem dX3_makeAll_4 : decode cX3_makeAll 4 = .ok (.iload_n 3, 1) := by decide +kernel
theorem dX3_makeAll_5 : decode cX3_makeAll 5 = .ok (.aload_n 0, 1) := by decide +kernel
theorem dX3_makeAll_6 : decode cX3_makeAll 6 = .ok (.getfield 9, 3) := by decide +kernel
theorem dX3_makeAll_9 : decode cX3_makeAll 9 = .ok (.iconst 0, 1) := by decide +kernel
theorem dX3_makeAll_10 : decode cX3_makeAll 10 = .ok (.iaload, 1) := by decide +kernel
theorem dX3_makeAll_11 : decode cX3_makeAll 11 = .ok (.if_icmp .ge 38, 3) := by decide +kernel
theorem dX3_makeAll_14 : decode cX3_makeAll 14 = .ok (.iload_n 3, 1) := by decide +kernel
theorem dX3_makeAll_15 : decode cX3_makeAll 15 = .ok (.sipush 400, 3) := by decide +kernel
theorem dX3_makeAll_18 : decode cX3_makeAll 18 = .ok (.if_icmp .ge 31, 3) := by decide +kernel
theorem dX3_makeAll_21 : decode cX3_makeAll 21 = .ok (.aload_n 0, 1) := by decide +kernel
theorem dX3_makeAll_22 : decode cX3_makeAll 22 = .ok (.getfield 25, 3) := by decide +kernel
theorem dX3_makeAll_25 : decode cX3_makeAll 25 = .ok (.iload_n 3, 1) := by decide +kernel
theorem dX3_makeAll_26 : decode cX3_makeAll 26 = .ok (.aload_n 0, 1) := by decide +kernel
theorem dX3_makeAll_27 : decode cX3_makeAll 27 = .ok (.iload_n 2, 1) := by decide +kernel
theorem dX3_makeAll_28 : decode cX3_makeAll 28 = .ok (.iload_n 1, 1) := by decide +kernel
theorem dX3_makeAll_29 : decode cX3_makeAll 29 = .ok (.invokevirtual 135, 3) := by decide +kernel
theorem dX3_makeAll_32 : decode cX3_makeAll 32 = .ok (.iastore, 1) := by decide +kernel
theorem dX3_makeAll_33 : decode cX3_makeAll 33 = .ok (.iload_n 2, 1) := by decide +kernel
theorem dX3_makeAll_34 : decode cX3_makeAll 34 = .ok (.iconst 2, 1) := by decide +kernel
theorem dX3_makeAll_35 : decode cX3_makeAll 35 = .ok (.aload_n 0, 1) := by decide +kernel
theorem dX3_makeAll_36 : decode cX3_makeAll 36 = .ok (.iload_n 2, 1) := by decide +kernel
theorem dX3_makeAll_37 : decode cX3_makeAll 37 = .ok (.invokevirtual 103, 3) := by decide +kernel
theorem dX3_makeAll_40 : decode cX3_makeAll 40 = .ok (.iadd, 1) := by decide +kernel
theorem dX3_makeAll_41 : decode cX3_makeAll 41 = .ok (.iadd, 1) := by decide +kernel
theorem dX3_makeAll_42 : decode cX3_makeAll 42 = .ok (.istore_n 2, 1) := by decide +kernel
theorem dX3_makeAll_43 : decode cX3_makeAll 43 = .ok (.iinc 3 1, 3) := by decide +kernel
theorem dX3_makeAll_46 : decode cX3_makeAll 46 = .ok (.goto (-42), 3) := by decide +kernel
theorem dX3_makeAll_49 : decode cX3_makeAll 49 = .ok (.iconst 1, 1) := by decide +kernel
theorem dX3_makeAll_50 : decode cX3_makeAll 50 = .ok (.istore_n 2, 1) := by decide +kernel
theorem dX3_makeAll_51 : decode cX3_makeAll 51 = .ok (.iconst 0, 1) := by decide +kernel
theorem dX3_makeAll_52 : decode cX3_makeAll 52 = .ok (.istore_n 3, 1) := by decide +kernel
theorem dX3_makeAll_53 : decode cX3_makeAll 53 = .ok (.iload_n 3, 1) := by decide +kernel
theorem dX3_makeAll_54 : decode cX3_makeAll 54 = .ok (.aload_n 0, 1) := by decide +kernel
theorem dX3_makeAll_55 : decode cX3_makeAll 55 = .ok (.getfield 9, 3) := by decide +kernel
theorem dX3_makeAll_58 : decode cX3_makeAll 58 = .ok (.iconst 0, 1) := by decide +kernel
theorem dX3_makeAll_59 : decode cX3_makeAll 59 = .ok (.iaload, 1) := by decide +kernel
theorem dX3_makeAll_60 : decode cX3_makeAll 60 = .ok (.if_icmp .ge 37, 3) := by decide +kernel
theorem dX3_makeAll_63 : decode cX3_makeAll 63 = .ok (.iload_n 3, 1) := by decide +kernel
theorem dX3_makeAll_64 : decode cX3_makeAll 64 = .ok (.sipush 400, 3) := by decide +kernel
theorem dX3_makeAll_67 : decode cX3_makeAll 67 = .ok (.if_icmp .ge 30, 3) := by decide +kernel
theorem dX3_makeAll_70 : decode cX3_makeAll 70 = .ok (.aload_n 0, 1) := by decide +kernel
theorem dX3_makeAll_71 : decode cX3_makeAll 71 = .ok (.aload_n 0, 1) := by decide +kernel
theorem dX3_makeAll_72 : decode cX3_makeAll 72 = .ok (.getfield 25, 3) := by decide +kernel
theorem dX3_makeAll_75 : decode cX3_makeAll 75 = .ok (.iload_n 3, 1) := by decide +kernel
theorem dX3_makeAll_76 : decode cX3_makeAll 76 = .ok (.iaload, 1) := by decide +kernel
theorem dX3_makeAll_77 : decode cX3_makeAll 77 = .ok (.iload_n 2, 1) := by decide +kernel
theorem dX3_makeAll_78 : decode cX3_makeAll 78 = .ok (.invokevirtual 139, 3) := by decide +kernel
theorem dX3_makeAll_81 : decode cX3_makeAll 81 = .ok (.iload_n 2, 1) := by decide +kernel
theorem dX3_makeAll_82 : decode cX3_makeAll 82 = .ok (.iconst 2, 1) := by decide +kernel
theorem dX3_makeAll_83 : decode cX3_makeAll 83 = .ok (.aload_n 0, 1) := by decide +kernel
theorem dX3_makeAll_84 : decode cX3_makeAll 84 = .ok (.iload_n 2, 1) := by decide +kernel
theorem dX3_makeAll_85 : decode cX3_makeAll 85 = .ok (.invokevirtual 103, 3) := by decide +kernel
theorem dX3_makeAll_88 : decode cX3_makeAll 88 = .ok (.iadd, 1) := by decide +kernel
theorem dX3_makeAll_89 : decode cX3_makeAll 89 = .ok (.iadd, 1) := by decide +kernel
theorem dX3_makeAll_90 : decode cX3_makeAll 90 = .ok (.istore_n 2, 1) := by decide +kernel
theorem dX3_makeAll_91 : decode cX3_makeAll 91 = .ok (.iinc 3 1, 3) := by decide +kernel
theorem dX3_makeAll_94 : decode cX3_makeAll 94 = .ok (.goto (-41), 3) := by decide +kernel
theorem dX3_makeAll_97 : decode cX3_makeAll 97 = .ok (.aload_n 0, 1) := by decide +kernel
theorem dX3_makeAll_98 : decode cX3_makeAll 98 = .ok (.getfield 25, 3) := by decide +kernel
theorem dX3_makeAll_101 : decode cX3_makeAll 101 = .ok (.iconst 0, 1) := by decide +kernel
theorem dX3_makeAll_102 : decode cX3_makeAll 102 = .ok (.iaload, 1) := by decide +kernel
theorem dX3_makeAll_103 : decode cX3_makeAll 103 = .ok (.ireturn, 1) := by decide +kernel
theorem dX3_makeThing_0 : decode cX3_makeThing 0 = .ok (.aload_n 0, 1) := by decide +kernel
theorem dX3_makeThing_1 : decode cX3_makeThing 1 = .ok (.getfield 9, 3) := by decide +kernel
theorem dX3_makeThing_4 : decode cX3_makeThing 4 = .ok (.iload_n 1, 1) := by decide +kernel
theorem dX3_makeThing_5 : decode cX3_makeThing 5 = .ok (.iaload, 1) := by decide +kernel
theorem dX3_makeThing_6 : decode cX3_makeThing 6 = .ok (.iconst 3, 1) := by decide +kernel
theorem dX3_makeThing_7 : decode cX3_makeThing 7 = .ok (.if_icmp .ne 7, 3) := by decide +kernel
theorem dX3_makeThing_10 : decode cX3_makeThing 10 = .ok (.iconst 1, 1) := by decide +kernel
theorem dX3_makeThing_11 : decode cX3_makeThing 11 = .ok (.goto 4, 3) := by decide +kernel
theorem dX3_makeThing_14 : decode cX3_makeThing 14 = .ok (.iconst 0, 1) := by decide +kernel
theorem dX3_makeThing_15 : decode cX3_makeThing 15 = .ok (.istore_n 3, 1) := by decide +kernel
theorem dX3_makeThing_16 : decode cX3_makeThing 16 = .ok (.iload_n 3, 1) := by decide +kernel
theorem dX3_makeThing_17 : decode cX3_makeThing 17 = .ok (.ifCond .eq 45, 3) := by decide +kernel
theorem dX3_makeThing_20 : decode cX3_makeThing 20 = .ok (.aload_n 0, 1) := by decide +kernel
theorem dX3_makeThing_21 : decode cX3_makeThing 21 = .ok (.getfield 28, 3) := by decide +kernel
theorem dX3_makeThing_24 : decode cX3_makeThing 24 = .ok (.aload_n 0, 1) := by decide +kernel
theorem dX3_makeThing_25 : decode cX3_makeThing 25 = .ok (.getfield 9, 3) := by decide +kernel
theorem dX3_makeThing_28 : decode cX3_makeThing 28 = .ok (.iload_n 1, 1) := by decide +kernel
theorem dX3_makeThing_29 : decode cX3_makeThing 29 = .ok (.iconst 2, 1) := by decide +kernel
theorem dX3_makeThing_30 : decode cX3_makeThing 30 = .ok (.iadd, 1) := by decide +kernel
theorem dX3_makeThing_31 : decode cX3_makeThing 31 = .ok (.aload_n 0, 1) := by decide +kernel
theorem dX3_makeThing_32 : decode cX3_makeThing 32 = .ok (.getfield 9, 3) := by decide +kernel
theorem dX3_makeThing_35 : decode cX3_makeThing 35 = .ok (.iload_n 1, 1) := by decide +kernel
theorem dX3_makeThing_36 : decode cX3_makeThing 36 = .ok (.iconst 1, 1) := by decide +kernel
theorem dX3_makeThing_37 : decode cX3_makeThing 37 = .ok (.iadd, 1) := by decide +kernel
theorem dX3_makeThing_38 : decode cX3_makeThing 38 = .ok (.iaload, 1) := by decide +kernel
theorem dX3_makeThing_39 : decode cX3_makeThing 39 = .ok (.invokevirtual 143, 3) := by decide +kernel
theorem dX3_makeThing_42 : decode cX3_makeThing 42 = .ok (.istore 4, 2) := by decide +kernel
theorem dX3_makeThing_44 : decode cX3_makeThing 44 = .ok (.iload 4, 2) := by decide +kernel
theorem dX3_makeThing_46 : decode cX3_makeThing 46 = .ok (.iconst (-1), 1) := by decide +kernel
theorem dX3_makeThing_47 : decode cX3_makeThing 47 = .ok (.if_icmp .eq 15, 3) := by decide +kernel
theorem dX3_makeThing_50 : decode cX3_makeThing 50 = .ok (.aload_n 0, 1) := by decide +kernel
theorem dX3_makeThing_51 : decode cX3_makeThing 51 = .ok (.getfield 40, 3) := by decide +kernel
theorem dX3_makeThing_54 : decode cX3_makeThing 54 = .ok (.iload 4, 2) := by decide +kernel
theorem dX3_makeThing_56 : decode cX3_makeThing 56 = .ok (.invokevirtual 147, 3) := by decide +kernel
theorem dX3_makeThing_59 : decode cX3_makeThing 59 = .ok (.iload 4, 2) := by decide +kernel
theorem dX3_makeThing_61 : decode cX3_makeThing 61 = .ok (.ireturn, 1) := by decide +kernel
theorem dX3_makeThing_62 : decode cX3_makeThing 62 = .ok (.aload_n 0, 1) := by decide +kernel
theorem dX3_makeThing_63 : decode cX3_makeThing 63 = .ok (.getfield 36, 3) := by decide +kernel
theorem dX3_makeThing_66 : decode cX3_makeThing 66 = .ok (.aload_n 0, 1) := by decide +kernel
theorem dX3_makeThing_67 : decode cX3_makeThing 67 = .ok (.iload_n 1, 1) := by decide +kernel
theorem dX3_makeThing_68 : decode cX3_makeThing 68 = .ok (.invokevirtual 100, 3) := by decide +kernel
theorem dX3_makeThing_71 : decode cX3_makeThing 71 = .ok (.aload_n 0, 1) := by decide +kernel
theorem dX3_makeThing_72 : decode cX3_makeThing 72 = .ok (.iload_n 1, 1) := by decide +kernel
theorem dX3_makeThing_73 : decode cX3_makeThing 73 = .ok (.invokevirtual 119, 3) := by decide +kernel
theorem dX3_makeThing_76 : decode cX3_makeThing 76 = .ok (.aload_n 0, 1) := by decide +kernel
theorem dX3_makeThing_77 : decode cX3_makeThing 77 = .ok (.iload_n 1, 1) := by decide +kernel
theorem dX3_makeThing_78 : decode cX3_makeThing 78 = .ok (.invokevirtual 122, 3) := by decide +kernel
theorem dX3_makeThing_81 : decode cX3_makeThing 81 = .ok (.iload_n 2, 1) := by decide +kernel
theorem dX3_makeThing_82 : decode cX3_makeThing 82 = .ok (.invokevirtual 152, 3) := by decide +kernel
theorem dX3_makeThing_85 : decode cX3_makeThing 85 = .ok (.istore 4, 2) := by decide +kernel
theorem dX3_makeThing_87 : decode cX3_makeThing 87 = .ok (.iload 4, 2) := by decide +kernel
theorem dX3_makeThing_89 : decode cX3_makeThing 89 = .ok (.iconst (-1), 1) := by decide +kernel
theorem dX3_makeThing_90 : decode cX3_makeThing 90 = .ok (.if_icmp .eq 50, 3) := by decide +kernel
theorem dX3_makeThing_93 : decode cX3_makeThing 93 = .ok (.aload_n 0, 1) := by decide +kernel
theorem dX3_makeThing_94 : decode cX3_makeThing 94 = .ok (.getfield 9, 3) := by decide +kernel
theorem dX3_makeThing_97 : decode cX3_makeThing 97 = .ok (.iload_n 1, 1) := by decide +kernel
theorem dX3_makeThing_98 : decode cX3_makeThing 98 = .ok (.iconst 2, 1) := by decide +kernel
theorem dX3_makeThing_99 : decode cX3_makeThing 99 = .ok (.iadd, 1) := by decide +kernel
theorem dX3_makeThing_100 : decode cX3_makeThing 100 = .ok (.aload_n 0, 1) := by decide +kernel
theorem dX3_makeThing_101 : decode cX3_makeThing 101 = .ok (.getfield 28, 3) := by decide +kernel
theorem dX3_makeThing_104 : decode cX3_makeThing 104 = .ok (.getfield 84, 3) := by decide +kernel
theorem dX3_makeThing_107 : decode cX3_makeThing 107 = .ok (.aload_n 0, 1) := by decide +kernel
theorem dX3_makeThing_108 : decode cX3_makeThing 108 = .ok (.getfield 28, 3) := by decide +kernel
theorem dX3_makeThing_111 : decode cX3_makeThing 111 = .ok (.getfield 87, 3) := by decide +kernel
theorem dX3_makeThing_114 : decode cX3_makeThing 114 = .ok (.iload 4, 2) := by decide +kernel
theorem dX3_makeThing_116 : decode cX3_makeThing 116 = .ok (.iaload, 1) := by decide +kernel
theorem dX3_makeThing_117 : decode cX3_makeThing 117 = .ok (.aload_n 0, 1) := by decide +kernel
theorem dX3_makeThing_118 : decode cX3_makeThing 118 = .ok (.getfield 28, 3) := by decide +kernel
theorem dX3_makeThing_121 : decode cX3_makeThing 121 = .ok (.iload 4, 2) := by decide +kernel
theorem dX3_makeThing_123 : decode cX3_makeThing 123 = .ok (.invokevirtual 55, 3) := by decide +kernel
theorem dX3_makeThing_126 : decode cX3_makeThing 126 = .ok (.invokestatic 158, 3) := by decide +kernel
theorem dX3_makeThing_129 : decode cX3_makeThing 129 = .ok (.aload_n 0, 1) := by decide +kernel
theorem dX3_makeThing_130 : decode cX3_makeThing 130 = .ok (.getfield 28, 3) := by decide +kernel
theorem dX3_makeThing_133 : decode cX3_makeThing 133 = .ok (.getfield 71, 3) := by decide +kernel
theorem dX3_makeThing_136 : decode cX3_makeThing 136 = .ok (.iload 4, 2) := by decide +kernel
theorem dX3_makeThing_138 : decode cX3_makeThing 138 = .ok (.iload_n 3, 1) := by decide +kernel
theorem dX3_makeThing_139 : decode cX3_makeThing 139 = .ok (.bastore, 1) := by decide +kernel
theorem dX3_makeThing_140 : decode cX3_makeThing 140 = .ok (.iload 4, 2) := by decide +kernel
theorem dX3_makeThing_142 : decode cX3_makeThing 142 = .ok (.ireturn, 1) := by decide +kernel
theorem dX3_fillFields_0 : decode cX3_fillFields 0 = .ok (.iload_n 1, 1) := by decide +kernel
theorem dX3_fillFields_1 : decode cX3_fillFields 1 = .ok (.iconst (-1), 1) := by decide +kernel
theorem dX3_fillFields_2 : decode cX3_fillFields 2 = .ok (.if_icmp .ne 4, 3) := by decide +kernel
theorem dX3_fillFields_5 : decode cX3_fillFields 5 = .ok (.return_, 1) := by decide +kernel
theorem dX3_fillFields_6 : decode cX3_fillFields 6 = .ok (.iconst 0, 1) := by decide +kernel
theorem dX3_fillFields_7 : decode cX3_fillFields 7 = .ok (.istore_n 3, 1) := by decide +kernel
theorem dX3_fillFields_8 : decode cX3_fillFields 8 = .ok (.iload_n 3, 1) := by decide +kernel
theorem dX3_fillFields_9 : decode cX3_fillFields 9 = .ok (.aload_n 0, 1) := by decide +kernel
theorem dX3_fillFields_10 : decode cX3_fillFields 10 = .ok (.getfield 28, 3) := by decide +kernel
theorem dX3_fillFields_13 : decode cX3_fillFields 13 = .ok (.iload_n 1, 1) := by decide +kernel
theorem dX3_fillFields_14 : decode cX3_fillFields 14 = .ok (.invokevirtual 90, 3) := by decide +kernel
theorem dX3_fillFields_17 : decode cX3_fillFields 17 = .ok (.if_icmp .ge 58, 3) := by decide +kernel
theorem dX3_fillFields_20 : decode cX3_fillFields 20 = .ok (.aload_n 0, 1) := by decide +kernel
theorem dX3_fillFields_21 : decode cX3_fillFields 21 = .ok (.getfield 9, 3) := by decide +kernel
theorem dX3_fillFields_24 : decode cX3_fillFields 24 = .ok (.iload_n 2, 1) := by decide +kernel
theorem dX3_fillFields_25 : decode cX3_fillFields 25 = .ok (.iconst 2, 1) := by decide +kernel
theorem dX3_fillFields_26 : decode cX3_fillFields 26 = .ok (.iadd, 1) := by decide +kernel
theorem dX3_fillFields_27 : decode cX3_fillFields 27 = .ok (.iload_n 3, 1) := by decide +kernel
theorem dX3_fillFields_28 : decode cX3_fillFields 28 = .ok (.iadd, 1) := by decide +kernel
theorem dX3_fillFields_29 : decode cX3_fillFields 29 = .ok (.iaload, 1) := by decide +kernel
theorem dX3_fillFields_30 : decode cX3_fillFields 30 = .ok (.istore 4, 2) := by decide +kernel
theorem dX3_fillFields_32 : decode cX3_fillFields 32 = .ok (.aload_n 0, 1) := by decide +kernel
theorem dX3_fillFields_33 : decode cX3_fillFields 33 = .ok (.getfield 28, 3) := by decide +kernel
theorem dX3_fillFields_36 : decode cX3_fillFields 36 = .ok (.getfield 84, 3) := by decide +kernel
theorem dX3_fillFields_39 : decode cX3_fillFields 39 = .ok (.aload_n 0, 1) := by decide +kernel
theorem dX3_fillFields_40 : decode cX3_fillFields 40 = .ok (.getfield 28, 3) := by decide +kernel
theorem dX3_fillFields_43 : decode cX3_fillFields 43 = .ok (.getfield 87, 3) := by decide +kernel
theorem dX3_fillFields_46 : decode cX3_fillFields 46 = .ok (.iload_n 1, 1) := by decide +kernel
theorem dX3_fillFields_47 : decode cX3_fillFields 47 = .ok (.iaload, 1) := by decide +kernel
theorem dX3_fillFields_48 : decode cX3_fillFields 48 = .ok (.iload_n 3, 1) := by decide +kernel
theorem dX3_fillFields_49 : decode cX3_fillFields 49 = .ok (.iadd, 1) := by decide +kernel
theorem dX3_fillFields_50 : decode cX3_fillFields 50 = .ok (.iload 4, 2) := by decide +kernel
theorem dX3_fillFields_52 : decode cX3_fillFields 52 = .ok (.ifCond .ne 7, 3) := by decide +kernel
theorem dX3_fillFields_55 : decode cX3_fillFields 55 = .ok (.iconst (-1), 1) := by decide +kernel
theorem dX3_fillFields_56 : decode cX3_fillFields 56 = .ok (.goto 12, 3) := by decide +kernel
theorem dX3_fillFields_59 : decode cX3_fillFields 59 = .ok (.aload_n 0, 1) := by decide +kernel
theorem dX3_fillFields_60 : decode cX3_fillFields 60 = .ok (.getfield 25, 3) := by decide +kernel
theorem dX3_fillFields_63 : decode cX3_fillFields 63 = .ok (.iload 4, 2) := by decide +kernel
theorem dX3_fillFields_65 : decode cX3_fillFields 65 = .ok (.iconst 1, 1) := by decide +kernel
theorem dX3_fillFields_66 : decode cX3_fillFields 66 = .ok (.isub, 1) := by decide +kernel
theorem dX3_fillFields_67 : decode cX3_fillFields 67 = .ok (.iaload, 1) := by decide +kernel
theorem dX3_fillFields_68 : decode cX3_fillFields 68 = .ok (.iastore, 1) := by decide +kernel
theorem dX3_fillFields_69 : decode cX3_fillFields 69 = .ok (.iinc 3 1, 3) := by decide +kernel
theorem dX3_fillFields_72 : decode cX3_fillFields 72 = .ok (.goto (-64), 3) := by decide +kernel
theorem dX3_fillFields_75 : decode cX3_fillFields 75 = .ok (.return_, 1) := by decide +kernel
theorem dX4_init_0 : decode cX4_init 0 = .ok (.aload_n 0, 1) := by decide +kernel
theorem dX4_init_1 : decode cX4_init 1 = .ok (.invokespecial 3, 3) := by decide +kernel
theorem dX4_init_4 : decode cX4_init 4 = .ok (.aload_n 0, 1) := by decide +kernel
theorem dX4_init_5 : decode cX4_init 5 = .ok (.bipush 12, 2) := by decide +kernel
theorem dX4_init_7 : decode cX4_init 7 = .ok (.newarray .int, 2) := by decide +kernel
theorem dX4_init_9 : decode cX4_init 9 = .ok (.putfield 9, 3) := by decide +kernel
theorem dX4_init_12 : decode cX4_init 12 = .ok (.aload_n 0, 1) := by decide +kernel
theorem dX4_init_13 : decode cX4_init 13 = .ok (.bipush 12, 2) := by decide +kernel
theorem dX4_init_15 : decode cX4_init 15 = .ok (.newarray .int, 2) := by decide +kernel
theorem dX4_init_17 : decode cX4_init 17 = .ok (.putfield 15, 3) := by decide +kernel
theorem dX4_init_20 : decode cX4_init 20 = .ok (.aload_n 0, 1) := by decide +kernel
theorem dX4_init_21 : decode cX4_init 21 = .ok (.bipush 12, 2) := by decide +kernel
theorem dX4_init_23 : decode cX4_init 23 = .ok (.newarray .int, 2) := by decide +kernel
theorem dX4_init_25 : decode cX4_init 25 = .ok (.putfield 18, 3) := by decide +kernel
theorem dX4_init_28 : decode cX4_init 28 = .ok (.aload_n 0, 1) := by decide +kernel
theorem dX4_init_29 : decode cX4_init 29 = .ok (.bipush 12, 2) := by decide +kernel
theorem dX4_init_31 : decode cX4_init 31 = .ok (.newarray .boolean, 2) := by decide +kernel
theorem dX4_init_33 : decode cX4_init 33 = .ok (.putfield 21, 3) := by decide +kernel
theorem dX4_init_36 : decode cX4_init 36 = .ok (.return_, 1) := by decide +kernel
theorem dX4_has_0 : decode cX4_has 0 = .ok (.iload_n 1, 1) := by decide +kernel
theorem dX4_has_1 : decode cX4_has 1 = .ok (.ifCond .lt 15, 3) := by decide +kernel
theorem dX4_has_4 : decode cX4_has 4 = .ok (.iload_n 1, 1) := by decide +kernel
theorem dX4_has_5 : decode cX4_has 5 = .ok (.aload_n 0, 1) := by decide +kernel
theorem dX4_has_6 : decode cX4_has 6 = .ok (.getfield 25, 3) := by decide +kernel
theorem dX4_has_9 : decode cX4_has 9 = .ok (.if_icmp .ge 7, 3) := by decide +kernel
theorem dX4_has_12 : decode cX4_has 12 = .ok (.iconst 1, 1) := by decide +kernel
theorem dX4_has_13 : decode cX4_has 13 = .ok (.goto 4, 3) := by decide +kernel
theorem dX4_has_16 : decode cX4_has 16 = .ok (.iconst 0, 1) := by decide +kernel
theorem dX4_has_17 : decode cX4_has 17 = .ok (.ireturn, 1) := by decide +kernel
theorem dX4_referencesWith_0 : decode cX4_referencesWith 0 = .ok (.aload_n 0, 1) := by decide +kernel
theorem dX4_referencesWith_1 : decode cX4_referencesWith 1 = .ok (.iload_n 1, 1) := by decide +kernel
theorem dX4_referencesWith_2 : decode cX4_referencesWith 2 = .ok (.invokevirtual 29, 3) := by decide +kernel
theorem dX4_referencesWith_5 : decode cX4_referencesWith 5 = .ok (.ifCond .eq 14, 3) := by decide +kernel
theorem dX4_referencesWith_8 : decode cX4_referencesWith 8 = .ok (.aload_n 0, 1) := by decide +kernel
theorem dX4_referencesWith_9 : decode cX4_referencesWith 9 = .ok (.getfield 15, 3) := by decide +kernel
theorem dX4_referencesWith_12 : decode cX4_referencesWith 12 = .ok (.iload_n 1, 1) := by decide +kernel
theorem dX4_referencesWith_13 : decode cX4_referencesWith 13 = .ok (.iaload, 1) := by decide +kernel
theorem dX4_referencesWith_14 : decode cX4_referencesWith 14 = .ok (.iload_n 2, 1) := by decide +kernel
theorem dX4_referencesWith_15 : decode cX4_referencesWith 15 = .ok (.iadd, 1) := by decide +kernel
theorem dX4_referencesWith_16 : decode cX4_referencesWith 16 = .ok (.goto 4, 3) := by decide +kernel
theorem dX4_referencesWith_19 : decode cX4_referencesWith 19 = .ok (.iload_n 2, 1) := by decide +kernel
theorem dX4_referencesWith_20 : decode cX4_referencesWith 20 = .ok (.ireturn, 1) := by decide +kernel
theorem dX4_numbersWith_0 : decode cX4_numbersWith 0 = .ok (.aload_n 0, 1) := by decide +kernel
theorem dX4_numbersWith_1 : decode cX4_numbersWith 1 = .ok (.iload_n 1, 1) := by decide +kernel
theorem dX4_numbersWith_2 : decode cX4_numbersWith 2 = .ok (.invokevirtual 29, 3) := by decide +kernel
theorem dX4_numbersWith_5 : decode cX4_numbersWith 5 = .ok (.ifCond .eq 14, 3) := by decide +kernel
theorem dX4_numbersWith_8 : decode cX4_numbersWith 8 = .ok (.aload_n 0, 1) := by decide +kernel
theorem dX4_numbersWith_9 : decode cX4_numbersWith 9 = .ok (.getfield 18, 3) := by decide +kernel
theorem dX4_numbersWith_12 : decode cX4_numbersWith 12 = .ok (.iload_n 1, 1) := by decide +kernel
theorem dX4_numbersWith_13 : decode cX4_numbersWith 13 = .ok (.iaload, 1) := by decide +kernel
theorem dX4_numbersWith_14 : decode cX4_numbersWith 14 = .ok (.iload_n 2, 1) := by decide +kernel
theorem dX4_numbersWith_15 : decode cX4_numbersWith 15 = .ok (.iadd, 1) := by decide +kernel
theorem dX4_numbersWith_16 : decode cX4_numbersWith 16 = .ok (.goto 4, 3) := by decide +kernel
theorem dX4_numbersWith_19 : decode cX4_numbersWith 19 = .ok (.iload_n 2, 1) := by decide +kernel
theorem dX4_numbersWith_20 : decode cX4_numbersWith 20 = .ok (.ireturn, 1) := by decide +kernel
theorem dX4_add_0 : decode cX4_add 0 = .ok (.aload_n 0, 1) := by decide +kernel
theorem dX4_add_1 : decode cX4_add 1 = .ok (.getfield 25, 3) := by decide +kernel
theorem dX4_add_4 : decode cX4_add 4 = .ok (.istore 5, 2) := by decide +kernel
theorem dX4_add_6 : decode cX4_add 6 = .ok (.iload 5, 2) := by decide +kernel
theorem dX4_add_8 : decode cX4_add 8 = .ok (.bipush 12, 2) := by decide +kernel
theorem dX4_add_10 : decode cX4_add 10 = .ok (.if_icmp .lt 5, 3) := by decide +kernel
theorem dX4_add_13 : decode cX4_add 13 = .ok (.iconst (-1), 1) := by decide +kernel
theorem dX4_add_14 : decode cX4_add 14 = .ok (.ireturn, 1) := by decide +kernel
theorem dX4_add_15 : decode cX4_add 15 = .ok (.aload_n 0, 1) := by decide +kernel
theorem dX4_add_16 : decode cX4_add 16 = .ok (.getfield 9, 3) := by decide +kernel
theorem dX4_add_19 : decode cX4_add 19 = .ok (.iload 5, 2) := by decide +kernel
theorem dX4_add_21 : decode cX4_add 21 = .ok (.iload_n 1, 1) := by decide +kernel
theorem dX4_add_22 : decode cX4_add 22 = .ok (.iastore, 1) := by decide +kernel
theorem dX4_add_23 : decode cX4_add 23 = .ok (.aload_n 0, 1) := by decide +kernel
theorem dX4_add_24 : decode cX4_add 24 = .ok (.getfield 15, 3) := by decide +kernel
theorem dX4_add_27 : decode cX4_add 27 = .ok (.iload 5, 2) := by decide +kernel
theorem dX4_add_29 : decode cX4_add 29 = .ok (.aload_n 0, 1) := by decide +kernel
theorem dX4_add_30 : decode cX4_add 30 = .ok (.iload_n 1, 1) := by decide +kernel
theorem dX4_add_31 : decode cX4_add 31 = .ok (.iload_n 2, 1) := by decide +kernel
theorem dX4_add_32 : decode cX4_add 32 = .ok (.invokevirtual 33, 3) := by decide +kernel
theorem dX4_add_35 : decode cX4_add 35 = .ok (.iastore, 1) := by decide +kernel
theorem dX4_add_36 : decode cX4_add 36 = .ok (.aload_n 0, 1) := by decide +kernel
theorem dX4_add_37 : decode cX4_add 37 = .ok (.getfield 18, 3) := by decide +kernel
theorem dX4_add_40 : decode cX4_add 40 = .ok (.iload 5, 2) := by decide +kernel
theorem dX4_add_42 : decode cX4_add 42 = .ok (.aload_n 0, 1) := by decide +kernel
theorem dX4_add_43 : decode cX4_add 43 = .ok (.iload_n 1, 1) := by decide +kernel
theorem dX4_add_44 : decode cX4_add 44 = .ok (.iload_n 3, 1) := by decide +kernel
theorem dX4_add_45 : decode cX4_add 45 = .ok (.invokevirtual 37, 3) := by decide +kernel
theorem dX4_add_48 : decode cX4_add 48 = .ok (.iastore, 1) := by decide +kernel
theorem dX4_add_49 : decode cX4_add 49 = .ok (.aload_n 0, 1) := by decide +kernel
theorem dX4_add_50 : decode cX4_add 50 = .ok (.getfield 21, 3) := by decide +kernel
theorem dX4_add_53 : decode cX4_add 53 = .ok (.iload 5, 2) := by decide +kernel
theorem dX4_add_55 : decode cX4_add 55 = .ok (.iload 4, 2) := by decide +kernel
theorem dX4_add_57 : decode cX4_add 57 = .ok (.ifCond .ne 20, 3) := by decide +kernel
theorem dX4_add_60 : decode cX4_add 60 = .ok (.aload_n 0, 1) := by decide +kernel
theorem dX4_add_61 : decode cX4_add 61 = .ok (.iload_n 1, 1) := by decide +kernel
theorem dX4_add_62 : decode cX4_add 62 = .ok (.invokevirtual 29, 3) := by decide +kernel
theorem dX4_add_65 : decode cX4_add 65 = .ok (.ifCond .eq 16, 3) := by decide +kernel
theorem dX4_add_68 : decode cX4_add 68 = .ok (.aload_n 0, 1) := by decide +kernel
theorem dX4_add_69 : decode cX4_add 69 = .ok (.getfield 21, 3) := by decide +kernel
theorem dX4_add_72 : decode cX4_add 72 = .ok (.iload_n 1, 1) := by decide +kernel
theorem dX4_add_73 : decode cX4_add 73 = .ok (.baload, 1) := by decide +kernel
theorem dX4_add_74 : decode cX4_add 74 = .ok (.ifCond .eq 7, 3) := by decide +kernel
theorem dX4_add_77 : decode cX4_add 77 = .ok (.iconst 1, 1) := by decide +kernel
theorem dX4_add_78 : decode cX4_add 78 = .ok (.goto 4, 3) := by decide +kernel
theorem dX4_add_81 : decode cX4_add 81 = .ok (.iconst 0, 1) := by decide +kernel
theorem dX4_add_82 : decode cX4_add 82 = .ok (.bastore, 1) := by decide +kernel
theorem dX4_add_83 : decode cX4_add 83 = .ok (.aload_n 0, 1) := by decide +kernel
theorem dX4_add_84 : decode cX4_add 84 = .ok (.dup, 1) := by decide +kernel
theorem dX4_add_85 : decode cX4_add 85 = .ok (.getfield 25, 3) := by decide +kernel
theorem dX4_add_88 : decode cX4_add 88 = .ok (.iconst 1, 1) := by decide +kernel
theorem dX4_add_89 : decode cX4_add 89 = .ok (.iadd, 1) := by decide +kernel
theorem dX4_add_90 : decode cX4_add 90 = .ok (.putfield 25, 3) := by decide +kernel
theorem dX4_add_93 : decode cX4_add 93 = .ok (.iload 5, 2) := by decide +kernel
theorem dX4_add_95 : decode cX4_add 95 = .ok (.ireturn, 1) := by decide +kernel
theorem dX5_init_0 : decode cX5_init 0 = .ok (.aload_n 0, 1) := by decide +kernel
theorem dX5_init_1 : decode cX5_init 1 = .ok (.invokespecial 3, 3) := by decide +kernel
theorem dX5_init_4 : decode cX5_init 4 = .ok (.aload_n 0, 1) := by decide +kernel
theorem dX5_init_5 : decode cX5_init 5 = .ok (.sipush 208, 3) := by decide +kernel
theorem dX5_init_8 : decode cX5_init 8 = .ok (.newarray .int, 2) := by decide +kernel
theorem dX5_init_10 : decode cX5_init 10 = .ok (.putfield 9, 3) := by decide +kernel
theorem dX5_init_13 : decode cX5_init 13 = .ok (.return_, 1) := by decide +kernel
theorem dX5_append_0 : decode cX5_append 0 = .ok (.aload_n 0, 1) := by decide +kernel
theorem dX5_append_1 : decode cX5_append 1 = .ok (.getfield 15, 3) := by decide +kernel
theorem dX5_append_4 : decode cX5_append 4 = .ok (.sipush 208, 3) := by decide +kernel
theorem dX5_append_7 : decode cX5_append 7 = .ok (.if_icmp .ge 23, 3) := by decide +kernel
theorem dX5_append_10 : decode cX5_append 10 = .ok (.aload_n 0, 1) := by decide +kernel
theorem dX5_append_11 : decode cX5_append 11 = .ok (.getfield 9, 3) := by decide +kernel
theorem dX5_append_14 : decode cX5_append 14 = .ok (.aload_n 0, 1) := by decide +kernel
theorem dX5_append_15 : decode cX5_append 15 = .ok (.getfield 15, 3) := by decide +kernel
theorem dX5_append_18 : decode cX5_append 18 = .ok (.iload_n 1, 1) := by decide +kernel
theorem dX5_append_19 : decode cX5_append 19 = .ok (.iastore, 1) := by decide +kernel
theorem dX5_append_20 : decode cX5_append 20 = .ok (.aload_n 0, 1) := by decide +kernel
theorem dX5_append_21 : decode cX5_append 21 = .ok (.dup, 1) := by decide +kernel
theorem dX5_append_22 : decode cX5_append 22 = .ok (.getfield 15, 3) := by decide +kernel
theorem dX5_append_25 : decode cX5_append 25 = .ok (.iconst 1, 1) := by decide +kernel
theorem dX5_append_26 : decode cX5_append 26 = .ok (.iadd, 1) := by decide +kernel
theorem dX5_append_27 : decode cX5_append 27 = .ok (.putfield 15, 3) := by decide +kernel
theorem dX5_append_30 : decode cX5_append 30 = .ok (.return_, 1) := by decide +kernel
theorem dX5_takeFirst_0 : decode cX5_takeFirst 0 = .ok (.aload_n 0, 1) := by decide +kernel
theorem dX5_takeFirst_1 : decode cX5_takeFirst 1 = .ok (.getfield 15, 3) := by decide +kernel
theorem dX5_takeFirst_4 : decode cX5_takeFirst 4 = .ok (.ifCond .ne 5, 3) := by decide +kernel
theorem dX5_takeFirst_7 : decode cX5_takeFirst 7 = .ok (.iconst (-1), 1) := by decide +kernel
theorem dX5_takeFirst_8 : decode cX5_takeFirst 8 = .ok (.ireturn, 1) := by decide +kernel
theorem dX5_takeFirst_9 : decode cX5_takeFirst 9 = .ok (.aload_n 0, 1) := by decide +kernel
theorem dX5_takeFirst_10 : decode cX5_takeFirst 10 = .ok (.getfield 9, 3) := by decide +kernel
theorem dX5_takeFirst_13 : decode cX5_takeFirst 13 = .ok (.iconst 0, 1) := by decide +kernel
theorem dX5_takeFirst_14 : decode cX5_takeFirst 14 = .ok (.iaload, 1) := by decide +kernel
theorem dX5_takeFirst_15 : decode cX5_takeFirst 15 = .ok (.istore_n 1, 1) := by decide +kernel
theorem dX5_takeFirst_16 : decode cX5_takeFirst 16 = .ok (.aload_n 0, 1) := by decide +kernel
theorem dX5_takeFirst_17 : decode cX5_takeFirst 17 = .ok (.dup, 1) := by decide +kernel
theorem dX5_takeFirst_18 : decode cX5_takeFirst 18 = .ok (.getfield 15, 3) := by decide +kernel
theorem dX5_takeFirst_21 : decode cX5_takeFirst 21 = .ok (.iconst 1, 1) := by decide +kernel
theorem dX5_takeFirst_22 : decode cX5_takeFirst 22 = .ok (.isub, 1) := by decide +kernel
theorem dX5_takeFirst_23 : decode cX5_takeFirst 23 = .ok (.putfield 15, 3) := by decide +kernel
theorem dX5_takeFirst_26 : decode cX5_takeFirst 26 = .ok (.aload_n 0, 1) := by decide +kernel
theorem dX5_takeFirst_27 : decode cX5_takeFirst 27 = .ok (.getfield 9, 3) := by decide +kernel
theorem dX5_takeFirst_30 : decode cX5_takeFirst 30 = .ok (.iconst 1, 1) := by decide +kernel
theorem dX5_takeFirst_31 : decode cX5_takeFirst 31 = .ok (.aload_n 0, 1) := by decide +kernel
theorem dX5_takeFirst_32 : decode cX5_takeFirst 32 = .ok (.getfield 9, 3) := by decide +kernel
theorem dX5_takeFirst_35 : decode cX5_takeFirst 35 = .ok (.iconst 0, 1) := by decide +kernel
theorem dX5_takeFirst_36 : decode cX5_takeFirst 36 = .ok (.aload_n 0, 1) := by decide +kernel
theorem dX5_takeFirst_37 : decode cX5_takeFirst 37 = .ok (.getfield 15, 3) := by decide +kernel
theorem dX5_takeFirst_40 : decode cX5_takeFirst 40 = .ok (.invokestatic 19, 3) := by decide +kernel
theorem dX5_takeFirst_43 : decode cX5_takeFirst 43 = .ok (.iload_n 1, 1) := by decide +kernel
theorem dX5_takeFirst_44 : decode cX5_takeFirst 44 = .ok (.ireturn, 1) := by decide +kernel
theorem dX6_init_0 : decode cX6_init 0 = .ok (.aload_n 0, 1) := by decide +kernel
theorem dX6_init_1 : decode cX6_init 1 = .ok (.invokespecial 3, 3) := by decide +kernel
theorem dX6_init_4 : decode cX6_init 4 = .ok (.aload_n 0, 1) := by decide +kernel
theorem dX6_init_5 : decode cX6_init 5 = .ok (.sipush 1664, 3) := by decide +kernel
theorem dX6_init_8 : decode cX6_init 8 = .ok (.newarray .int, 2) := by decide +kernel
theorem dX6_init_10 : decode cX6_init 10 = .ok (.putfield 9, 3) := by decide +kernel
theorem dX6_init_13 : decode cX6_init 13 = .ok (.aload_n 0, 1) := by decide +kernel
theorem dX6_init_14 : decode cX6_init 14 = .ok (.new 15, 3) := by decide +kernel
theorem dX6_init_17 : decode cX6_init 17 = .ok (.dup, 1) := by decide +kernel
theorem dX6_init_18 : decode cX6_init 18 = .ok (.invokespecial 17, 3) := by decide +kernel
theorem dX6_init_21 : decode cX6_init 21 = .ok (.putfield 18, 3) := by decide +kernel
theorem dX6_init_24 : decode cX6_init 24 = .ok (.aload_n 0, 1) := by decide +kernel
theorem dX6_init_25 : decode cX6_init 25 = .ok (.new 15, 3) := by decide +kernel
theorem dX6_init_28 : decode cX6_init 28 = .ok (.dup, 1) := by decide +kernel
theorem dX6_init_29 : decode cX6_init 29 = .ok (.invokespecial 17, 3) := by decide +kernel
theorem dX6_init_32 : decode cX6_init 32 = .ok (.putfield 22, 3) := by decide +kernel
theorem dX6_init_35 : decode cX6_init 35 = .ok (.aload_n 0, 1) := by decide +kernel
theorem dX6_init_36 : decode cX6_init 36 = .ok (.aload_n 1, 1) := by decide +kernel
theorem dX6_init_37 : decode cX6_init 37 = .ok (.putfield 25, 3) := by decide +kernel
theorem dX6_init_40 : decode cX6_init 40 = .ok (.aload_n 0, 1) := by decide +kernel
theorem dX6_init_41 : decode cX6_init 41 = .ok (.aload_n 2, 1) := by decide +kernel
theorem dX6_init_42 : decode cX6_init 42 = .ok (.putfield 29, 3) := by decide +kernel
theorem dX6_init_45 : decode cX6_init 45 = .ok (.aload_n 0, 1) := by decide +kernel
theorem dX6_init_46 : decode cX6_init 46 = .ok (.aload_n 3, 1) := by decide +kernel
theorem dX6_init_47 : decode cX6_init 47 = .ok (.putfield 33, 3) := by decide +kernel
theorem dX6_init_50 : decode cX6_init 50 = .ok (.return_, 1) := by decide +kernel
theorem dX6_start_0 : decode cX6_start 0 = .ok (.aload_n 0, 1) := by decide +kernel
theorem dX6_start_1 : decode cX6_start 1 = .ok (.iconst 1, 1) := by decide +kernel
theorem dX6_start_2 : decode cX6_start 2 = .ok (.putfield 37, 3) := by decide +kernel
theorem dX6_start_5 : decode cX6_start 5 = .ok (.aload_n 0, 1) := by decide +kernel
theorem dX6_start_6 : decode cX6_start 6 = .ok (.iconst 0, 1) := by decide +kernel
theorem dX6_start_7 : decode cX6_start 7 = .ok (.putfield 41, 3) := by decide +kernel
theorem dX6_start_10 : decode cX6_start 10 = .ok (.aload_n 0, 1) := by decide +kernel
theorem dX6_start_11 : decode cX6_start 11 = .ok (.getfield 25, 3) := by decide +kernel
theorem dX6_start_14 : decode cX6_start 14 = .ok (.getfield 45, 3) := by decide +kernel
theorem dX6_start_17 : decode cX6_start 17 = .ok (.iconst 0, 1) := by decide +kernel
theorem dX6_start_18 : decode cX6_start 18 = .ok (.aload_n 0, 1) := by decide +kernel
theorem dX6_start_19 : decode cX6_start 19 = .ok (.getfield 9, 3) := by decide +kernel
theorem dX6_start_22 : decode cX6_start 22 = .ok (.iconst 0, 1) := by decide +kernel
theorem dX6_start_23 : decode cX6_start 23 = .ok (.aload_n 0, 1) := by decide +kernel
theorem dX6_start_24 : decode cX6_start 24 = .ok (.getfield 25, 3) := by decide +kernel
theorem dX6_start_27 : decode cX6_start 27 = .ok (.getfield 50, 3) := by decide +kernel
theorem dX6_start_30 : decode cX6_start 30 = .ok (.invokestatic 53, 3) := by decide +kernel
theorem dX6_start_33 : decode cX6_start 33 = .ok (.aload_n 0, 1) := by decide +kernel
theorem dX6_start_34 : decode cX6_start 34 = .ok (.getfield 22, 3) := by decide +kernel
theorem dX6_start_37 : decode cX6_start 37 = .ok (.invokevirtual 59, 3) := by decide +kernel
theorem dX6_start_40 : decode cX6_start 40 = .ok (.aload_n 0, 1) := by decide +kernel
theorem dX6_start_41 : decode cX6_start 41 = .ok (.getfield 18, 3) := by decide +kernel
theorem dX6_start_44 : decode cX6_start 44 = .ok (.invokevirtual 59, 3) := by decide +kernel
theorem dX6_start_47 : decode cX6_start 47 = .ok (.aload_n 0, 1) := by decide +kernel
theorem dX6_start_48 : decode cX6_start 48 = .ok (.getfield 29, 3) := by decide +kernel
theorem dX6_start_51 : decode cX6_start 51 = .ok (.aload_n 0, 1) := by decide +kernel
theorem dX6_start_52 : decode cX6_start 52 = .ok (.getfield 18, 3) := by decide +kernel
theorem dX6_start_55 : decode cX6_start 55 = .ok (.invokevirtual 62, 3) := by decide +kernel
theorem dX6_start_58 : decode cX6_start 58 = .ok (.aload_n 0, 1) := by decide +kernel
theorem dX6_start_59 : decode cX6_start 59 = .ok (.getfield 18, 3) := by decide +kernel
theorem dX6_start_62 : decode cX6_start 62 = .ok (.getfield 68, 3) := by decide +kernel
theorem dX6_start_65 : decode cX6_start 65 = .ok (.istore_n 1, 1) := by decide +kernel
theorem dX6_start_66 : decode cX6_start 66 = .ok (.aload_n 0, 1) := by decide +kernel
theorem dX6_start_67 : decode cX6_start 67 = .ok (.getfield 33, 3) := by decide +kernel
theorem dX6_start_70 : decode cX6_start 70 = .ok (.aload_n 0, 1) := by decide +kernel
theorem dX6_start_71 : decode cX6_start 71 = .ok (.getfield 18, 3) := by decide +kernel
theorem dX6_start_74 : decode cX6_start 74 = .ok (.aload_n 0, 1) := by decide +kernel
theorem dX6_start_75 : decode cX6_start 75 = .ok (.getfield 9, 3) := by decide +kernel
theorem dX6_start_78 : decode cX6_start 78 = .ok (.iconst 0, 1) := by decide +kernel
theorem dX6_start_79 : decode cX6_start 79 = .ok (.invokevirtual 71, 3) := by decide +kernel
theorem dX6_start_82 : decode cX6_start 82 = .ok (.iload_n 1, 1) := by decide +kernel
theorem dX6_start_83 : decode cX6_start 83 = .ok (.ireturn, 1) := by decide +kernel
theorem dX6_noteMade_0 : decode cX6_noteMade 0 = .ok (.aload_n 0, 1) := by decide +kernel
theorem dX6_noteMade_1 : decode cX6_noteMade 1 = .ok (.getfield 37, 3) := by decide +kernel
theorem dX6_noteMade_4 : decode cX6_noteMade 4 = .ok (.ifCond .eq 11, 3) := by decide +kernel
theorem dX6_noteMade_7 : decode cX6_noteMade 7 = .ok (.aload_n 0, 1) := by decide +kernel
theorem dX6_noteMade_8 : decode cX6_noteMade 8 = .ok (.getfield 22, 3) := by decide +kernel
theorem dX6_noteMade_11 : decode cX6_noteMade 11 = .ok (.iload_n 1, 1) := by decide +kernel
theorem dX6_noteMade_12 : decode cX6_noteMade 12 = .ok (.invokevirtual 77, 3) := by decide +kernel
theorem dX6_noteMade_15 : decode cX6_noteMade 15 = .ok (.return_, 1) := by decide +kernel
theorem dX6_noteRead_0 : decode cX6_noteRead 0 = .ok (.aload_n 0, 1) := by decide +kernel
theorem dX6_noteRead_1 : decode cX6_noteRead 1 = .ok (.getfield 37, 3) := by decide +kernel
theorem dX6_noteRead_4 : decode cX6_noteRead 4 = .ok (.ifCond .eq 43, 3) := by decide +kernel
theorem dX6_noteRead_7 : decode cX6_noteRead 7 = .ok (.iload_n 1, 1) := by decide +kernel
theorem dX6_noteRead_8 : decode cX6_noteRead 8 = .ok (.iconst (-1), 1) := by decide +kernel
theorem dX6_noteRead_9 : decode cX6_noteRead 9 = .ok (.if_icmp .eq 38, 3) := by decide +kernel
theorem dX6_noteRead_12 : decode cX6_noteRead 12 = .ok (.aload_n 0, 1) := by decide +kernel
theorem dX6_noteRead_13 : decode cX6_noteRead 13 = .ok (.getfield 22, 3) := by decide +kernel
theorem dX6_noteRead_16 : decode cX6_noteRead 16 = .ok (.iload_n 1, 1) := by decide +kernel
theorem dX6_noteRead_17 : decode cX6_noteRead 17 = .ok (.invokevirtual 81, 3) := by decide +kernel
theorem dX6_noteRead_20 : decode cX6_noteRead 20 = .ok (.ifCond .ne 27, 3) := by decide +kernel
theorem dX6_noteRead_23 : decode cX6_noteRead 23 = .ok (.aload_n 0, 1) := by decide +kernel
theorem dX6_noteRead_24 : decode cX6_noteRead 24 = .ok (.getfield 18, 3) := by decide +kernel
theorem dX6_noteRead_27 : decode cX6_noteRead 27 = .ok (.iload_n 1, 1) := by decide +kernel
theorem dX6_noteRead_28 : decode cX6_noteRead 28 = .ok (.invokevirtual 77, 3) := by decide +kernel
theorem dX6_noteRead_31 : decode cX6_noteRead 31 = .ok (.aload_n 0, 1) := by decide +kernel
theorem dX6_noteRead_32 : decode cX6_noteRead 32 = .ok (.getfield 33, 3) := by decide +kernel
theorem dX6_noteRead_35 : decode cX6_noteRead 35 = .ok (.aload_n 0, 1) := by decide +kernel
theorem dX6_noteRead_36 : decode cX6_noteRead 36 = .ok (.getfield 18, 3) := by decide +kernel
theorem dX6_noteRead_39 : decode cX6_noteRead 39 = .ok (.aload_n 0, 1) := by decide +kernel
theorem dX6_noteRead_40 : decode cX6_noteRead 40 = .ok (.getfield 9, 3) := by decide +kernel
theorem dX6_noteRead_43 : decode cX6_noteRead 43 = .ok (.iconst 0, 1) := by decide +kernel
theorem dX6_noteRead_44 : decode cX6_noteRead 44 = .ok (.invokevirtual 71, 3) := by decide +kernel
theorem dX6_noteRead_47 : decode cX6_noteRead 47 = .ok (.return_, 1) := by decide +kernel
theorem dX6_visitUpTo_0 : decode cX6_visitUpTo 0 = .ok (.iload_n 1, 1) := by decide +kernel
theorem dX6_visitUpTo_1 : decode cX6_visitUpTo 1 = .ok (.aload_n 0, 1) := by decide +kernel
theorem dX6_visitUpTo_2 : decode cX6_visitUpTo 2 = .ok (.getfield 18, 3) := by decide +kernel
theorem dX6_visitUpTo_5 : decode cX6_visitUpTo 5 = .ok (.getfield 68, 3) := by decide +kernel
theorem dX6_visitUpTo_8 : decode cX6_visitUpTo 8 = .ok (.aload_n 0, 1) := by decide +kernel
theorem dX6_visitUpTo_9 : decode cX6_visitUpTo 9 = .ok (.getfield 41, 3) := by decide +kernel
theorem dX6_visitUpTo_12 : decode cX6_visitUpTo 12 = .ok (.isub, 1) := by decide +kernel
theorem dX6_visitUpTo_13 : decode cX6_visitUpTo 13 = .ok (.invokestatic 85, 3) := by decide +kernel
theorem dX6_visitUpTo_16 : decode cX6_visitUpTo 16 = .ok (.istore_n 2, 1) := by decide +kernel
theorem dX6_visitUpTo_17 : decode cX6_visitUpTo 17 = .ok (.aload_n 0, 1) := by decide +kernel
theorem dX6_visitUpTo_18 : decode cX6_visitUpTo 18 = .ok (.dup, 1) := by decide +kernel
theorem dX6_visitUpTo_19 : decode cX6_visitUpTo 19 = .ok (.getfield 41, 3) := by decide +kernel
theorem dX6_visitUpTo_22 : decode cX6_visitUpTo 22 = .ok (.iload_n 2, 1) := by decide +kernel
theorem dX6_visitUpTo_23 : decode cX6_visitUpTo 23 = .ok (.iadd, 1) := by decide +kernel
theorem dX6_visitUpTo_24 : decode cX6_visitUpTo 24 = .ok (.putfield 41, 3) := by decide +kernel
theorem dX6_visitUpTo_27 : decode cX6_visitUpTo 27 = .ok (.iload_n 2, 1) := by decide +kernel
theorem dX6_visitUpTo_28 : decode cX6_visitUpTo 28 = .ok (.ireturn, 1) := by decide +kernel
theorem dX6_isAllVisited_0 : decode cX6_isAllVisited 0 = .ok (.aload_n 0, 1) := by decide +kernel
theorem dX6_isAllVisited_1 : decode cX6_isAllVisited 1 = .ok (.getfield 41, 3) := by decide +kernel
theorem dX6_isAllVisited_4 : decode cX6_isAllVisited 4 = .ok (.aload_n 0, 1) := by decide +kernel
theorem dX6_isAllVisited_5 : decode cX6_isAllVisited 5 = .ok (.getfield 18, 3) := by decide +kernel
theorem dX6_isAllVisited_8 : decode cX6_isAllVisited 8 = .ok (.getfield 68, 3) := by decide +kernel
theorem dX6_isAllVisited_11 : decode cX6_isAllVisited 11 = .ok (.if_icmp .lt 7, 3) := by decide +kernel
theorem dX6_isAllVisited_14 : decode cX6_isAllVisited 14 = .ok (.iconst 1, 1) := by decide +kernel
theorem dX6_isAllVisited_15 : decode cX6_isAllVisited 15 = .ok (.goto 4, 3) := by decide +kernel
theorem dX6_isAllVisited_18 : decode cX6_isAllVisited 18 = .ok (.iconst 0, 1) := by decide +kernel
theorem dX6_isAllVisited_19 : decode cX6_isAllVisited 19 = .ok (.ireturn, 1) := by decide +kernel
theorem dX7_init_0 : decode cX7_init 0 = .ok (.aload_n 0, 1) := by decide +kernel
theorem dX7_init_1 : decode cX7_init 1 = .ok (.invokespecial 3, 3) := by decide +kernel
theorem dX7_init_4 : decode cX7_init 4 = .ok (.aload_n 0, 1) := by decide +kernel
theorem dX7_init_5 : decode cX7_init 5 = .ok (.sipush 208, 3) := by decide +kernel
theorem dX7_init_8 : decode cX7_init 8 = .ok (.newarray .int, 2) := by decide +kernel
theorem dX7_init_10 : decode cX7_init 10 = .ok (.putfield 9, 3) := by decide +kernel
theorem dX7_init_13 : decode cX7_init 13 = .ok (.aload_n 0, 1) := by decide +kernel
theorem dX7_init_14 : decode cX7_init 14 = .ok (.aload_n 1, 1) := by decide +kernel
theorem dX7_init_15 : decode cX7_init 15 = .ok (.putfield 15, 3) := by decide +kernel
theorem dX7_init_18 : decode cX7_init 18 = .ok (.return_, 1) := by decide +kernel
theorem dX7_spread_0 : decode cX7_spread 0 = .ok (.iconst 1, 1) := by decide +kernel
theorem dX7_spread_1 : decode cX7_spread 1 = .ok (.istore 4, 2) := by decide +kernel
theorem dX7_spread_3 : decode cX7_spread 3 = .ok (.iconst 0, 1) := by decide +kernel
theorem dX7_spread_4 : decode cX7_spread 4 = .ok (.istore 5, 2) := by decide +kernel
theorem dX7_spread_6 : decode cX7_spread 6 = .ok (.iload 4, 2) := by decide +kernel
theorem dX7_spread_8 : decode cX7_spread 8 = .ok (.ifCond .eq 238, 3) := by decide +kernel
theorem dX7_spread_11 : decode cX7_spread 11 = .ok (.iload 5, 2) := by decide +kernel
theorem dX7_spread_13 : decode cX7_spread 13 = .ok (.sipush 208, 3) := by decide +kernel
theorem dX7_spread_16 : decode cX7_spread 16 = .ok (.if_icmp .gt 230, 3) := by decide +kernel
theorem dX7_spread_19 : decode cX7_spread 19 = .ok (.aload_n 1, 1) := by decide +kernel
theorem dX7_spread_20 : decode cX7_spread 20 = .ok (.getfield 19, 3) := by decide +kernel
theorem dX7_spread_23 : decode cX7_spread 23 = .ok (.istore 6, 2) := by decide +kernel
theorem dX7_spread_25 : decode cX7_spread 25 = .ok (.iconst 0, 1) := by decide +kernel
theorem dX7_spread_26 : decode cX7_spread 26 = .ok (.istore 7, 2) := by decide +kernel
theorem dX7_spread_28 : decode cX7_spread 28 = .ok (.iconst 0, 1) := by decide +kernel
theorem dX7_spread_29 : decode cX7_spread 29 = .ok (.istore 8, 2) := by decide +kernel
theorem dX7_spread_31 : decode cX7_spread 31 = .ok (.iload 8, 2) := by decide +kernel
theorem dX7_spread_33 : decode cX7_spread 33 = .ok (.aload_n 1, 1) := by decide +kernel
theorem dX7_spread_34 : decode cX7_spread 34 = .ok (.getfield 19, 3) := by decide +kernel
theorem dX7_spread_37 : decode cX7_spread 37 = .ok (.if_icmp .ge 182, 3) := by decide +kernel
theorem dX7_spread_40 : decode cX7_spread 40 = .ok (.iload 8, 2) := by decide +kernel
theorem dX7_spread_42 : decode cX7_spread 42 = .ok (.sipush 208, 3) := by decide +kernel
theorem dX7_spread_45 : decode cX7_spread 45 = .ok (.if_icmp .ge 174, 3) := by decide +kernel
theorem dX7_spread_48 : decode cX7_spread 48 = .ok (.aload_n 1, 1) := by decide +kernel
theorem dX7_spread_49 : decode cX7_spread 49 = .ok (.getfield 25, 3) := by decide +kernel
theorem dX7_spread_52 : decode cX7_spread 52 = .ok (.iload 8, 2) := by decide +kernel
theorem dX7_spread_54 : decode cX7_spread 54 = .ok (.iaload, 1) := by decide +kernel
theorem dX7_spread_55 : decode cX7_spread 55 = .ok (.istore 9, 2) := by decide +kernel
theorem dX7_spread_57 : decode cX7_spread 57 = .ok (.aload_n 0, 1) := by decide +kernel
theorem dX7_spread_58 : decode cX7_spread 58 = .ok (.getfield 15, 3) := by decide +kernel
theorem dX7_spread_61 : decode cX7_spread 61 = .ok (.getfield 28, 3) := by decide +kernel
theorem dX7_spread_64 : decode cX7_spread 64 = .ok (.iload 9, 2) := by decide +kernel
theorem dX7_spread_66 : decode cX7_spread 66 = .ok (.iaload, 1) := by decide +kernel
theorem dX7_spread_67 : decode cX7_spread 67 = .ok (.istore 10, 2) := by decide +kernel
theorem dX7_spread_69 : decode cX7_spread 69 = .ok (.aload_n 0, 1) := by decide +kernel
theorem dX7_spread_70 : decode cX7_spread 70 = .ok (.getfield 15, 3) := by decide +kernel
theorem dX7_spread_73 : decode cX7_spread 73 = .ok (.getfield 33, 3) := by decide +kernel
theorem dX7_spread_76 : decode cX7_spread 76 = .ok (.iload 9, 2) := by decide +kernel
theorem dX7_spread_78 : decode cX7_spread 78 = .ok (.iaload, 1) := by decide +kernel
theorem dX7_spread_79 : decode cX7_spread 79 = .ok (.bipush 6, 2) := by decide +kernel
theorem dX7_spread_81 : decode cX7_spread 81 = .ok (.if_icmp .ne 7, 3) := by decide +kernel
theorem dX7_spread_84 : decode cX7_spread 84 = .ok (.iconst 1, 1) := by decide +kernel
theorem dX7_spread_85 : decode cX7_spread 85 = .ok (.goto 4, 3) := by decide +kernel
theorem dX7_spread_88 : decode cX7_spread 88 = .ok (.iconst 0, 1) := by decide +kernel
theorem dX7_spread_89 : decode cX7_spread 89 = .ok (.istore 11, 2) := by decide +kernel
theorem dX7_spread_91 : decode cX7_spread 91 = .ok (.iload 11, 2) := by decide +kernel
theorem dX7_spread_93 : decode cX7_spread 93 = .ok (.ifCond .ne 21, 3) := by decide +kernel
theorem dX7_spread_96 : decode cX7_spread 96 = .ok (.aload_n 0, 1) := by decide +kernel
theorem dX7_spread_97 : decode cX7_spread 97 = .ok (.aload_n 0, 1) := by decide +kernel
theorem dX7_spread_98 : decode cX7_spread 98 = .ok (.getfield 15, 3) := by decide +kernel
theorem dX7_spread_101 : decode cX7_spread 101 = .ok (.getfield 33, 3) := by decide +kernel
theorem dX7_spread_104 : decode cX7_spread 104 = .ok (.iload 9, 2) := by decide +kernel
theorem dX7_spread_106 : decode cX7_spread 106 = .ok (.iaload, 1) := by decide +kernel
theorem dX7_spread_107 : decode cX7_spread 107 = .ok (.iload_n 3, 1) := by decide +kernel
theorem dX7_spread_108 : decode cX7_spread 108 = .ok (.invokevirtual 36, 3) := by decide +kernel
theorem dX7_spread_111 : decode cX7_spread 111 = .ok (.ifCond .eq 16, 3) := by decide +kernel
theorem dX7_spread_114 : decode cX7_spread 114 = .ok (.aload_n 0, 1) := by decide +kernel
theorem dX7_spread_115 : decode cX7_spread 115 = .ok (.getfield 15, 3) := by decide +kernel
theorem dX7_spread_118 : decode cX7_spread 118 = .ok (.getfield 40, 3) := by decide +kernel
theorem dX7_spread_121 : decode cX7_spread 121 = .ok (.iload 9, 2) := by decide +kernel
theorem dX7_spread_123 : decode cX7_spread 123 = .ok (.iaload, 1) := by decide +kernel
theorem dX7_spread_124 : decode cX7_spread 124 = .ok (.goto 4, 3) := by decide +kernel
theorem dX7_spread_127 : decode cX7_spread 127 = .ok (.iconst 0, 1) := by decide +kernel
theorem dX7_spread_128 : decode cX7_spread 128 = .ok (.istore 12, 2) := by decide +kernel
theorem dX7_spread_130 : decode cX7_spread 130 = .ok (.iconst 0, 1) := by decide +kernel
theorem dX7_spread_131 : decode cX7_spread 131 = .ok (.istore 13, 2) := by decide +kernel
theorem dX7_spread_133 : decode cX7_spread 133 = .ok (.iload 13, 2) := by decide +kernel
theorem dX7_spread_135 : decode cX7_spread 135 = .ok (.iload 12, 2) := by decide +kernel
theorem dX7_spread_137 : decode cX7_spread 137 = .ok (.if_icmp .ge 59, 3) := by decide +kernel
theorem dX7_spread_140 : decode cX7_spread 140 = .ok (.iload 11, 2) := by decide +kernel
theorem dX7_spread_142 : decode cX7_spread 142 = .ok (.ifCond .ne 17, 3) := by decide +kernel
theorem dX7_spread_145 : decode cX7_spread 145 = .ok (.aload_n 1, 1) := by decide +kernel
theorem dX7_spread_146 : decode cX7_spread 146 = .ok (.aload_n 2, 1) := by decide +kernel
theorem dX7_spread_147 : decode cX7_spread 147 = .ok (.iload 10, 2) := by decide +kernel
theorem dX7_spread_149 : decode cX7_spread 149 = .ok (.iload 13, 2) := by decide +kernel
theorem dX7_spread_151 : decode cX7_spread 151 = .ok (.iadd, 1) := by decide +kernel
theorem dX7_spread_152 : decode cX7_spread 152 = .ok (.iaload, 1) := by decide +kernel
theorem dX7_spread_153 : decode cX7_spread 153 = .ok (.invokevirtual 43, 3) := by decide +kernel
theorem dX7_spread_156 : decode cX7_spread 156 = .ok (.goto 34, 3) := by decide +kernel
theorem dX7_spread_159 : decode cX7_spread 159 = .ok (.aload_n 1, 1) := by decide +kernel
theorem dX7_spread_160 : decode cX7_spread 160 = .ok (.aload_n 2, 1) := by decide +kernel
theorem dX7_spread_161 : decode cX7_spread 161 = .ok (.iload 10, 2) := by decide +kernel
theorem dX7_spread_163 : decode cX7_spread 163 = .ok (.iconst 2, 1) := by decide +kernel
theorem dX7_spread_164 : decode cX7_spread 164 = .ok (.iload 13, 2) := by decide +kernel
theorem dX7_spread_166 : decode cX7_spread 166 = .ok (.imul, 1) := by decide +kernel
theorem dX7_spread_167 : decode cX7_spread 167 = .ok (.iadd, 1) := by decide +kernel
theorem dX7_spread_168 : decode cX7_spread 168 = .ok (.iaload, 1) := by decide +kernel
theorem dX7_spread_169 : decode cX7_spread 169 = .ok (.invokevirtual 47, 3) := by decide +kernel
theorem dX7_spread_172 : decode cX7_spread 172 = .ok (.ifCond .eq 18, 3) := by decide +kernel
theorem dX7_spread_175 : decode cX7_spread 175 = .ok (.aload_n 1, 1) := by decide +kernel
theorem dX7_spread_176 : decode cX7_spread 176 = .ok (.aload_n 2, 1) := by decide +kernel
theorem dX7_spread_177 : decode cX7_spread 177 = .ok (.iload 10, 2) := by decide +kernel
theorem dX7_spread_179 : decode cX7_spread 179 = .ok (.iconst 2, 1) := by decide +kernel
theorem dX7_spread_180 : decode cX7_spread 180 = .ok (.iload 13, 2) := by decide +kernel
theorem dX7_spread_182 : decode cX7_spread 182 = .ok (.imul, 1) := by decide +kernel
theorem dX7_spread_183 : decode cX7_spread 183 = .ok (.iadd, 1) := by decide +kernel
theorem dX7_spread_184 : decode cX7_spread 184 = .ok (.iconst 1, 1) := by decide +kernel
theorem dX7_spread_185 : decode cX7_spread 185 = .ok (.iadd, 1) := by decide +kernel
theorem dX7_spread_186 : decode cX7_spread 186 = .ok (.iaload, 1) := by decide +kernel
theorem dX7_spread_187 : decode cX7_spread 187 = .ok (.invokevirtual 43, 3) := by decide +kernel
theorem dX7_spread_190 : decode cX7_spread 190 = .ok (.iinc 13 1, 3) := by decide +kernel
theorem dX7_spread_193 : decode cX7_spread 193 = .ok (.goto (-60), 3) := by decide +kernel
theorem dX7_spread_196 : decode cX7_spread 196 = .ok (.iload 7, 2) := by decide +kernel
theorem dX7_spread_198 : decode cX7_spread 198 = .ok (.ifCond .ne 8, 3) := by decide +kernel
theorem dX7_spread_201 : decode cX7_spread 201 = .ok (.iload 11, 2) := by decide +kernel
theorem dX7_spread_203 : decode cX7_spread 203 = .ok (.ifCond .eq 7, 3) := by decide +kernel
theorem dX7_spread_206 : decode cX7_spread 206 = .ok (.iconst 1, 1) := by decide +kernel
theorem dX7_spread_207 : decode cX7_spread 207 = .ok (.goto 4, 3) := by decide +kernel
theorem dX7_spread_210 : decode cX7_spread 210 = .ok (.iconst 0, 1) := by decide +kernel
theorem dX7_spread_211 : decode cX7_spread 211 = .ok (.istore 7, 2) := by decide +kernel
theorem dX7_spread_213 : decode cX7_spread 213 = .ok (.iinc 8 1, 3) := by decide +kernel
theorem dX7_spread_216 : decode cX7_spread 216 = .ok (.goto (-185), 3) := by decide +kernel
theorem dX7_spread_219 : decode cX7_spread 219 = .ok (.iload 7, 2) := by decide +kernel
theorem dX7_spread_221 : decode cX7_spread 221 = .ok (.ifCond .eq 16, 3) := by decide +kernel
theorem dX7_spread_224 : decode cX7_spread 224 = .ok (.aload_n 1, 1) := by decide +kernel
theorem dX7_spread_225 : decode cX7_spread 225 = .ok (.getfield 19, 3) := by decide +kernel
theorem dX7_spread_228 : decode cX7_spread 228 = .ok (.iload 6, 2) := by decide +kernel
theorem dX7_spread_230 : decode cX7_spread 230 = .ok (.if_icmp .le 7, 3) := by decide +kernel
theorem dX7_spread_233 : decode cX7_spread 233 = .ok (.iconst 1, 1) := by decide +kernel
theorem dX7_spread_234 : decode cX7_spread 234 = .ok (.goto 4, 3) := by decide +kernel
theorem dX7_spread_237 : decode cX7_spread 237 = .ok (.iconst 0, 1) := by decide +kernel
theorem dX7_spread_238 : decode cX7_spread 238 = .ok (.istore 4, 2) := by decide +kernel
theorem dX7_spread_240 : decode cX7_spread 240 = .ok (.iinc 5 1, 3) := by decide +kernel
theorem dX7_spread_243 : decode cX7_spread 243 = .ok (.goto (-237), 3) := by decide +kernel
theorem dX7_spread_246 : decode cX7_spread 246 = .ok (.return_, 1) := by decide +kernel
theorem dX7_isHolding_0 : decode cX7_isHolding 0 = .ok (.iload_n 1, 1) := by decide +kernel
theorem dX7_isHolding_1 : decode cX7_isHolding 1 = .ok (.iconst 1, 1) := by decide +kernel
theorem dX7_isHolding_2 : decode cX7_isHolding 2 = .ok (.if_icmp .le 12, 3) := by decide +kernel
theorem dX7_isHolding_5 : decode cX7_isHolding 5 = .ok (.iload_n 1, 1) := by decide +kernel
theorem dX7_isHolding_6 : decode cX7_isHolding 6 = .ok (.iconst 4, 1) := by decide +kernel
theorem dX7_isHolding_7 : decode cX7_isHolding 7 = .ok (.if_icmp .ne 11, 3) := by decide +kernel
theorem dX7_isHolding_10 : decode cX7_isHolding 10 = .ok (.iload_n 2, 1) := by decide +kernel
theorem dX7_isHolding_11 : decode cX7_isHolding 11 = .ok (.ifCond .ne 7, 3) := by decide +kernel
theorem dX7_isHolding_14 : decode cX7_isHolding 14 = .ok (.iconst 1, 1) := by decide +kernel
theorem dX7_isHolding_15 : decode cX7_isHolding 15 = .ok (.goto 4, 3) := by decide +kernel
theorem dX7_isHolding_18 : decode cX7_isHolding 18 = .ok (.iconst 0, 1) := by decide +kernel
theorem dX7_isHolding_19 : decode cX7_isHolding 19 = .ok (.ireturn, 1) := by decide +kernel
theorem dX7_walk_0 : decode cX7_walk 0 = .ok (.iconst 0, 1) := by decide +kernel
theorem dX7_walk_1 : decode cX7_walk 1 = .ok (.istore_n 3, 1) := by decide +kernel
theorem dX7_walk_2 : decode cX7_walk 2 = .ok (.iload_n 3, 1) := by decide +kernel
theorem dX7_walk_3 : decode cX7_walk 3 = .ok (.aload_n 1, 1) := by decide +kernel
theorem dX7_walk_4 : decode cX7_walk 4 = .ok (.getfield 19, 3) := by decide +kernel
theorem dX7_walk_7 : decode cX7_walk 7 = .ok (.if_icmp .ge 21, 3) := by decide +kernel
theorem dX7_walk_10 : decode cX7_walk 10 = .ok (.aload_n 0, 1) := by decide +kernel
theorem dX7_walk_11 : decode cX7_walk 11 = .ok (.getfield 9, 3) := by decide +kernel
theorem dX7_walk_14 : decode cX7_walk 14 = .ok (.aload_n 1, 1) := by decide +kernel
theorem dX7_walk_15 : decode cX7_walk 15 = .ok (.getfield 25, 3) := by decide +kernel
theorem dX7_walk_18 : decode cX7_walk 18 = .ok (.iload_n 3, 1) := by decide +kernel
theorem dX7_walk_19 : decode cX7_walk 19 = .ok (.iaload, 1) := by decide +kernel
theorem dX7_walk_20 : decode cX7_walk 20 = .ok (.iconst 0, 1) := by decide +kernel
theorem dX7_walk_21 : decode cX7_walk 21 = .ok (.iastore, 1) := by decide +kernel
theorem dX7_walk_22 : decode cX7_walk 22 = .ok (.iinc 3 1, 3) := by decide +kernel
theorem dX7_walk_25 : decode cX7_walk 25 = .ok (.goto (-23), 3) := by decide +kernel
theorem dX7_walk_28 : decode cX7_walk 28 = .ok (.iconst 0, 1) := by decide +kernel
theorem dX7_walk_29 : decode cX7_walk 29 = .ok (.istore_n 3, 1) := by decide +kernel
theorem dX7_walk_30 : decode cX7_walk 30 = .ok (.iload_n 3, 1) := by decide +kernel
theorem dX7_walk_31 : decode cX7_walk 31 = .ok (.aload_n 1, 1) := by decide +kernel
theorem dX7_walk_32 : decode cX7_walk 32 = .ok (.getfield 19, 3) := by decide +kernel
theorem dX7_walk_35 : decode cX7_walk 35 = .ok (.if_icmp .ge 121, 3) := by decide +kernel
theorem dX7_walk_38 : decode cX7_walk 38 = .ok (.iload_n 3, 1) := by decide +kernel
theorem dX7_walk_39 : decode cX7_walk 39 = .ok (.sipush 208, 3) := by decide +kernel
theorem dX7_walk_42 : decode cX7_walk 42 = .ok (.if_icmp .ge 114, 3) := by decide +kernel
theorem dX7_walk_45 : decode cX7_walk 45 = .ok (.aload_n 1, 1) := by decide +kernel
theorem dX7_walk_46 : decode cX7_walk 46 = .ok (.getfield 25, 3) := by decide +kernel
theorem dX7_walk_49 : decode cX7_walk 49 = .ok (.iload_n 3, 1) := by decide +kernel
theorem dX7_walk_50 : decode cX7_walk 50 = .ok (.iaload, 1) := by decide +kernel
theorem dX7_walk_51 : decode cX7_walk 51 = .ok (.istore 4, 2) := by decide +kernel
theorem dX7_walk_53 : decode cX7_walk 53 = .ok (.iconst 0, 1) := by decide +kernel
theorem dX7_walk_54 : decode cX7_walk 54 = .ok (.istore 5, 2) := by decide +kernel
theorem dX7_walk_56 : decode cX7_walk 56 = .ok (.iload 5, 2) := by decide +kernel
theorem dX7_walk_58 : decode cX7_walk 58 = .ok (.aload_n 0, 1) := by decide +kernel
theorem dX7_walk_59 : decode cX7_walk 59 = .ok (.getfield 15, 3) := by decide +kernel
theorem dX7_walk_62 : decode cX7_walk 62 = .ok (.iload 4, 2) := by decide +kernel
theorem dX7_walk_64 : decode cX7_walk 64 = .ok (.invokevirtual 51, 3) := by decide +kernel
theorem dX7_walk_67 : decode cX7_walk 67 = .ok (.if_icmp .ge 83, 3) := by decide +kernel
theorem dX7_walk_70 : decode cX7_walk 70 = .ok (.aload_n 0, 1) := by decide +kernel
theorem dX7_walk_71 : decode cX7_walk 71 = .ok (.getfield 15, 3) := by decide +kernel
theorem dX7_walk_74 : decode cX7_walk 74 = .ok (.getfield 55, 3) := by decide +kernel
theorem dX7_walk_77 : decode cX7_walk 77 = .ok (.aload_n 0, 1) := by decide +kernel
theorem dX7_walk_78 : decode cX7_walk 78 = .ok (.getfield 15, 3) := by decide +kernel
theorem dX7_walk_81 : decode cX7_walk 81 = .ok (.getfield 28, 3) := by decide +kernel
theorem dX7_walk_84 : decode cX7_walk 84 = .ok (.iload 4, 2) := by decide +kernel
theorem dX7_walk_86 : decode cX7_walk 86 = .ok (.iaload, 1) := by decide +kernel
theorem dX7_walk_87 : decode cX7_walk 87 = .ok (.iload 5, 2) := by decide +kernel
theorem dX7_walk_89 : decode cX7_walk 89 = .ok (.iadd, 1) := by decide +kernel
theorem dX7_walk_90 : decode cX7_walk 90 = .ok (.iaload, 1) := by decide +kernel
theorem dX7_walk_91 : decode cX7_walk 91 = .ok (.istore 6, 2) := by decide +kernel
theorem dX7_walk_93 : decode cX7_walk 93 = .ok (.iload 6, 2) := by decide +kernel
theorem dX7_walk_95 : decode cX7_walk 95 = .ok (.iconst (-1), 1) := by decide +kernel
theorem dX7_walk_96 : decode cX7_walk 96 = .ok (.if_icmp .eq 48, 3) := by decide +kernel
theorem dX7_walk_99 : decode cX7_walk 99 = .ok (.aload_n 0, 1) := by decide +kernel
theorem dX7_walk_100 : decode cX7_walk 100 = .ok (.getfield 15, 3) := by decide +kernel
theorem dX7_walk_103 : decode cX7_walk 103 = .ok (.getfield 33, 3) := by decide +kernel
theorem dX7_walk_106 : decode cX7_walk 106 = .ok (.iload 6, 2) := by decide +kernel
theorem dX7_walk_108 : decode cX7_walk 108 = .ok (.iaload, 1) := by decide +kernel
theorem dX7_walk_109 : decode cX7_walk 109 = .ok (.iload_n 2, 1) := by decide +kernel
theorem dX7_walk_110 : decode cX7_walk 110 = .ok (.if_icmp .gt 34, 3) := by decide +kernel
theorem dX7_walk_113 : decode cX7_walk 113 = .ok (.aload_n 1, 1) := by decide +kernel
theorem dX7_walk_114 : decode cX7_walk 114 = .ok (.iload 6, 2) := by decide +kernel
theorem dX7_walk_116 : decode cX7_walk 116 = .ok (.invokevirtual 47, 3) := by decide +kernel
theorem dX7_walk_119 : decode cX7_walk 119 = .ok (.ifCond .ne 25, 3) := by decide +kernel
theorem dX7_walk_122 : decode cX7_walk 122 = .ok (.aload_n 1, 1) := by decide +kernel
theorem dX7_walk_123 : decode cX7_walk 123 = .ok (.iload 6, 2) := by decide +kernel
theorem dX7_walk_125 : decode cX7_walk 125 = .ok (.invokevirtual 43, 3) := by decide +kernel
theorem dX7_walk_128 : decode cX7_walk 128 = .ok (.aload_n 0, 1) := by decide +kernel
theorem dX7_walk_129 : decode cX7_walk 129 = .ok (.getfield 9, 3) := by decide +kernel
theorem dX7_walk_132 : decode cX7_walk 132 = .ok (.iload 6, 2) := by decide +kernel
theorem dX7_walk_134 : decode cX7_walk 134 = .ok (.aload_n 0, 1) := by decide +kernel
theorem dX7_walk_135 : decode cX7_walk 135 = .ok (.getfield 9, 3) := by decide +kernel
theorem dX7_walk_138 : decode cX7_walk 138 = .ok (.iload 4, 2) := by decide +kernel
theorem dX7_walk_140 : decode cX7_walk 140 = .ok (.iaload, 1) := by decide +kernel
theorem dX7_walk_141 : decode cX7_walk 141 = .ok (.iconst 1, 1) := by decide +kernel
theorem dX7_walk_142 : decode cX7_walk 142 = .ok (.iadd, 1) := by decide +kernel
theorem dX7_walk_143 : decode cX7_walk 143 = .ok (.iastore, 1) := by decide +kernel
theorem dX7_walk_144 : decode cX7_walk 144 = .ok (.iinc 5 1, 3) := by decide +kernel
theorem dX7_walk_147 : decode cX7_walk 147 = .ok (.goto (-91), 3) := by decide +kernel
theorem dX7_walk_150 : decode cX7_walk 150 = .ok (.iinc 3 1, 3) := by decide +kernel
theorem dX7_walk_153 : decode cX7_walk 153 = .ok (.goto (-123), 3) := by decide +kernel
theorem dX7_walk_156 : decode cX7_walk 156 = .ok (.return_, 1) := by decide +kernel
theorem dX7_findNet_0 : decode cX7_findNet 0 = .ok (.aload_n 1, 1) := by decide +kernel
theorem dX7_findNet_1 : decode cX7_findNet 1 = .ok (.invokevirtual 58, 3) := by decide +kernel
theorem dX7_findNet_4 : decode cX7_findNet 4 = .ok (.aload_n 1, 1) := by decide +kernel
theorem dX7_findNet_5 : decode cX7_findNet 5 = .ok (.iload_n 2, 1) := by decide +kernel
theorem dX7_findNet_6 : decode cX7_findNet 6 = .ok (.invokevirtual 43, 3) := by decide +kernel
theorem dX7_findNet_9 : decode cX7_findNet 9 = .ok (.aload_n 0, 1) := by decide +kernel
theorem dX7_findNet_10 : decode cX7_findNet 10 = .ok (.aload_n 1, 1) := by decide +kernel
theorem dX7_findNet_11 : decode cX7_findNet 11 = .ok (.iconst 2, 1) := by decide +kernel
theorem dX7_findNet_12 : decode cX7_findNet 12 = .ok (.invokevirtual 61, 3) := by decide +kernel
theorem dX7_findNet_15 : decode cX7_findNet 15 = .ok (.return_, 1) := by decide +kernel
theorem dX8_init_0 : decode cX8_init 0 = .ok (.aload_n 0, 1) := by decide +kernel
theorem dX8_init_1 : decode cX8_init 1 = .ok (.invokespecial 3, 3) := by decide +kernel
theorem dX8_init_4 : decode cX8_init 4 = .ok (.aload_n 0, 1) := by decide +kernel
theorem dX8_init_5 : decode cX8_init 5 = .ok (.bipush 64, 2) := by decide +kernel
theorem dX8_init_7 : decode cX8_init 7 = .ok (.newarray .int, 2) := by decide +kernel
theorem dX8_init_9 : decode cX8_init 9 = .ok (.putfield 9, 3) := by decide +kernel
theorem dX8_init_12 : decode cX8_init 12 = .ok (.aload_n 0, 1) := by decide +kernel
theorem dX8_init_13 : decode cX8_init 13 = .ok (.bipush 8, 2) := by decide +kernel
theorem dX8_init_15 : decode cX8_init 15 = .ok (.newarray .int, 2) := by decide +kernel
theorem dX8_init_17 : decode cX8_init 17 = .ok (.putfield 15, 3) := by decide +kernel
theorem dX8_init_20 : decode cX8_init 20 = .ok (.aload_n 0, 1) := by decide +kernel
theorem dX8_init_21 : decode cX8_init 21 = .ok (.bipush 8, 2) := by decide +kernel
theorem dX8_init_23 : decode cX8_init 23 = .ok (.newarray .int, 2) := by decide +kernel
theorem dX8_init_25 : decode cX8_init 25 = .ok (.putfield 18, 3) := by decide +kernel
theorem dX8_init_28 : decode cX8_init 28 = .ok (.aload_n 0, 1) := by decide +kernel
theorem dX8_init_29 : decode cX8_init 29 = .ok (.new 21, 3) := by decide +kernel
theorem dX8_init_32 : decode cX8_init 32 = .ok (.dup, 1) := by decide +kernel
theorem dX8_init_33 : decode cX8_init 33 = .ok (.invokespecial 23, 3) := by decide +kernel
theorem dX8_init_36 : decode cX8_init 36 = .ok (.putfield 24, 3) := by decide +kernel
theorem dX8_init_39 : decode cX8_init 39 = .ok (.aload_n 0, 1) := by decide +kernel
theorem dX8_init_40 : decode cX8_init 40 = .ok (.new 21, 3) := by decide +kernel
theorem dX8_init_43 : decode cX8_init 43 = .ok (.dup, 1) := by decide +kernel
theorem dX8_init_44 : decode cX8_init 44 = .ok (.invokespecial 23, 3) := by decide +kernel
theorem dX8_init_47 : decode cX8_init 47 = .ok (.putfield 28, 3) := by decide +kernel
theorem dX8_init_50 : decode cX8_init 50 = .ok (.aload_n 0, 1) := by decide +kernel
theorem dX8_init_51 : decode cX8_init 51 = .ok (.bipush 8, 2) := by decide +kernel
theorem dX8_init_53 : decode cX8_init 53 = .ok (.invokevirtual 31, 3) := by decide +kernel
theorem dX8_init_56 : decode cX8_init 56 = .ok (.iconst 0, 1) := by decide +kernel
theorem dX8_init_57 : decode cX8_init 57 = .ok (.istore_n 1, 1) := by decide +kernel
theorem dX8_init_58 : decode cX8_init 58 = .ok (.iload_n 1, 1) := by decide +kernel
theorem dX8_init_59 : decode cX8_init 59 = .ok (.bipush 8, 2) := by decide +kernel
theorem dX8_init_61 : decode cX8_init 61 = .ok (.if_icmp .ge 16, 3) := by decide +kernel
theorem dX8_init_64 : decode cX8_init 64 = .ok (.aload_n 0, 1) := by decide +kernel
theorem dX8_init_65 : decode cX8_init 65 = .ok (.getfield 18, 3) := by decide +kernel
theorem dX8_init_68 : decode cX8_init 68 = .ok (.iload_n 1, 1) := by decide +kernel
theorem dX8_init_69 : decode cX8_init 69 = .ok (.iconst (-1), 1) := by decide +kernel
theorem dX8_init_70 : decode cX8_init 70 = .ok (.iastore, 1) := by decide +kernel
theorem dX8_init_71 : decode cX8_init 71 = .ok (.iinc 1 1, 3) := by decide +kernel
theorem dX8_init_74 : decode cX8_init 74 = .ok (.goto (-16), 3) := by decide +kernel
theorem dX8_init_77 : decode cX8_init 77 = .ok (.return_, 1) := by decide +kernel
theorem dX8_topWidth_0 : decode cX8_topWidth 0 = .ok (.aload_n 0, 1) := by decide +kernel
theorem dX8_topWidth_1 : decode cX8_topWidth 1 = .ok (.getfield 15, 3) := by decide +kernel
theorem dX8_topWidth_4 : decode cX8_topWidth 4 = .ok (.aload_n 0, 1) := by decide +kernel
theorem dX8_topWidth_5 : decode cX8_topWidth 5 = .ok (.getfield 35, 3) := by decide +kernel
theorem dX8_topWidth_8 : decode cX8_topWidth 8 = .ok (.iconst 1, 1) := by decide +kernel
theorem dX8_topWidth_9 : decode cX8_topWidth 9 = .ok (.isub, 1) := by decide +kernel
theorem dX8_topWidth_10 : decode cX8_topWidth 10 = .ok (.iaload, 1) := by decide +kernel
theorem dX8_topWidth_11 : decode cX8_topWidth 11 = .ok (.ireturn, 1) := by decide +kernel
theorem dX8_heldBy_0 : decode cX8_heldBy 0 = .ok (.aload_n 0, 1) := by decide +kernel
theorem dX8_heldBy_1 : decode cX8_heldBy 1 = .ok (.getfield 9, 3) := by decide +kernel
theorem dX8_heldBy_4 : decode cX8_heldBy 4 = .ok (.aload_n 0, 1) := by decide +kernel
theorem dX8_heldBy_5 : decode cX8_heldBy 5 = .ok (.getfield 35, 3) := by decide +kernel
theorem dX8_heldBy_8 : decode cX8_heldBy 8 = .ok (.iconst 1, 1) := by decide +kernel
theorem dX8_heldBy_9 : decode cX8_heldBy 9 = .ok (.isub, 1) := by decide +kernel
theorem dX8_heldBy_10 : decode cX8_heldBy 10 = .ok (.bipush 8, 2) := by decide +kernel
theorem dX8_heldBy_12 : decode cX8_heldBy 12 = .ok (.imul, 1) := by decide +kernel
theorem dX8_heldBy_13 : decode cX8_heldBy 13 = .ok (.iload_n 1, 1) := by decide +kernel
theorem dX8_heldBy_14 : decode cX8_heldBy 14 = .ok (.iadd, 1) := by decide +kernel
theorem dX8_heldBy_15 : decode cX8_heldBy 15 = .ok (.iaload, 1) := by decide +kernel
theorem dX8_heldBy_16 : decode cX8_heldBy 16 = .ok (.ireturn, 1) := by decide +kernel
theorem dX8_hold_0 : decode cX8_hold 0 = .ok (.aload_n 0, 1) := by decide +kernel
theorem dX8_hold_1 : decode cX8_hold 1 = .ok (.getfield 9, 3) := by decide +kernel
theorem dX8_hold_4 : decode cX8_hold 4 = .ok (.aload_n 0, 1) := by decide +kernel
theorem dX8_hold_5 : decode cX8_hold 5 = .ok (.getfield 35, 3) := by decide +kernel
theorem dX8_hold_8 : decode cX8_hold 8 = .ok (.iconst 1, 1) := by decide +kernel
theorem dX8_hold_9 : decode cX8_hold 9 = .ok (.isub, 1) := by decide +kernel
theorem dX8_hold_10 : decode cX8_hold 10 = .ok (.bipush 8, 2) := by decide +kernel
theorem dX8_hold_12 : decode cX8_hold 12 = .ok (.imul, 1) := by decide +kernel
theorem dX8_hold_13 : decode cX8_hold 13 = .ok (.iload_n 1, 1) := by decide +kernel
theorem dX8_hold_14 : decode cX8_hold 14 = .ok (.iadd, 1) := by decide +kernel
theorem dX8_hold_15 : decode cX8_hold 15 = .ok (.iload_n 2, 1) := by decide +kernel
theorem dX8_hold_16 : decode cX8_hold 16 = .ok (.iastore, 1) := by decide +kernel
theorem dX8_hold_17 : decode cX8_hold 17 = .ok (.return_, 1) := by decide +kernel
theorem dX8_addFrame_0 : decode cX8_addFrame 0 = .ok (.aload_n 0, 1) := by decide +kernel
theorem dX8_addFrame_1 : decode cX8_addFrame 1 = .ok (.getfield 15, 3) := by decide +kernel
theorem dX8_addFrame_4 : decode cX8_addFrame 4 = .ok (.aload_n 0, 1) := by decide +kernel
theorem dX8_addFrame_5 : decode cX8_addFrame 5 = .ok (.getfield 35, 3) := by decide +kernel
theorem dX8_addFrame_8 : decode cX8_addFrame 8 = .ok (.iload_n 1, 1) := by decide +kernel
theorem dX8_addFrame_9 : decode cX8_addFrame 9 = .ok (.iastore, 1) := by decide +kernel
theorem dX8_addFrame_10 : decode cX8_addFrame 10 = .ok (.aload_n 0, 1) := by decide +kernel
theorem dX8_addFrame_11 : decode cX8_addFrame 11 = .ok (.dup, 1) := by decide +kernel
theorem dX8_addFrame_12 : decode cX8_addFrame 12 = .ok (.getfield 35, 3) := by decide +kernel
theorem dX8_addFrame_15 : decode cX8_addFrame 15 = .ok (.iconst 1, 1) := by decide +kernel
theorem dX8_addFrame_16 : decode cX8_addFrame 16 = .ok (.iadd, 1) := by decide +kernel
theorem dX8_addFrame_17 : decode cX8_addFrame 17 = .ok (.putfield 35, 3) := by decide +kernel
theorem dX8_addFrame_20 : decode cX8_addFrame 20 = .ok (.iconst 0, 1) := by decide +kernel
theorem dX8_addFrame_21 : decode cX8_addFrame 21 = .ok (.istore_n 2, 1) := by decide +kernel
theorem dX8_addFrame_22 : decode cX8_addFrame 22 = .ok (.iload_n 2, 1) := by decide +kernel
theorem dX8_addFrame_23 : decode cX8_addFrame 23 = .ok (.iload_n 1, 1) := by decide +kernel
theorem dX8_addFrame_24 : decode cX8_addFrame 24 = .ok (.if_icmp .ge 15, 3) := by decide +kernel
theorem dX8_addFrame_27 : decode cX8_addFrame 27 = .ok (.aload_n 0, 1) := by decide +kernel
theorem dX8_addFrame_28 : decode cX8_addFrame 28 = .ok (.iload_n 2, 1) := by decide +kernel
theorem dX8_addFrame_29 : decode cX8_addFrame 29 = .ok (.iconst (-1), 1) := by decide +kernel
theorem dX8_addFrame_30 : decode cX8_addFrame 30 = .ok (.invokevirtual 39, 3) := by decide +kernel
theorem dX8_addFrame_33 : decode cX8_addFrame 33 = .ok (.iinc 2 1, 3) := by decide +kernel
theorem dX8_addFrame_36 : decode cX8_addFrame 36 = .ok (.goto (-14), 3) := by decide +kernel
theorem dX8_addFrame_39 : decode cX8_addFrame 39 = .ok (.return_, 1) := by decide +kernel
theorem dX8_dropFrame_0 : decode cX8_dropFrame 0 = .ok (.aload_n 0, 1) := by decide +kernel
theorem dX8_dropFrame_1 : decode cX8_dropFrame 1 = .ok (.dup, 1) := by decide +kernel
theorem dX8_dropFrame_2 : decode cX8_dropFrame 2 = .ok (.getfield 35, 3) := by decide +kernel
theorem dX8_dropFrame_5 : decode cX8_dropFrame 5 = .ok (.iconst 1, 1) := by decide +kernel
theorem dX8_dropFrame_6 : decode cX8_dropFrame 6 = .ok (.isub, 1) := by decide +kernel
theorem dX8_dropFrame_7 : decode cX8_dropFrame 7 = .ok (.putfield 35, 3) := by decide +kernel
theorem dX8_dropFrame_10 : decode cX8_dropFrame 10 = .ok (.return_, 1) := by decide +kernel
theorem dX8_addTo_0 : decode cX8_addTo 0 = .ok (.iconst 0, 1) := by decide +kernel
theorem dX8_addTo_1 : decode cX8_addTo 1 = .ok (.istore_n 2, 1) := by decide +kernel
theorem dX8_addTo_2 : decode cX8_addTo 2 = .ok (.iload_n 2, 1) := by decide +kernel
theorem dX8_addTo_3 : decode cX8_addTo 3 = .ok (.aload_n 0, 1) := by decide +kernel
theorem dX8_addTo_4 : decode cX8_addTo 4 = .ok (.getfield 35, 3) := by decide +kernel
theorem dX8_addTo_7 : decode cX8_addTo 7 = .ok (.if_icmp .ge 42, 3) := by decide +kernel
theorem dX8_addTo_10 : decode cX8_addTo 10 = .ok (.iconst 0, 1) := by decide +kernel
theorem dX8_addTo_11 : decode cX8_addTo 11 = .ok (.istore_n 3, 1) := by decide +kernel
theorem dX8_addTo_12 : decode cX8_addTo 12 = .ok (.iload_n 3, 1) := by decide +kernel
theorem dX8_addTo_13 : decode cX8_addTo 13 = .ok (.aload_n 0, 1) := by decide +kernel
theorem dX8_addTo_14 : decode cX8_addTo 14 = .ok (.getfield 15, 3) := by decide +kernel
theorem dX8_addTo_17 : decode cX8_addTo 17 = .ok (.iload_n 2, 1) := by decide +kernel
theorem dX8_addTo_18 : decode cX8_addTo 18 = .ok (.iaload, 1) := by decide +kernel
theorem dX8_addTo_19 : decode cX8_addTo 19 = .ok (.if_icmp .ge 24, 3) := by decide +kernel
theorem dX8_addTo_22 : decode cX8_addTo 22 = .ok (.aload_n 1, 1) := by decide +kernel
theorem dX8_addTo_23 : decode cX8_addTo 23 = .ok (.aload_n 0, 1) := by decide +kernel
theorem dX8_addTo_24 : decode cX8_addTo 24 = .ok (.getfield 9, 3) := by decide +kernel
theorem dX8_addTo_27 : decode cX8_addTo 27 = .ok (.iload_n 2, 1) := by decide +kernel
theorem dX8_addTo_28 : decode cX8_addTo 28 = .ok (.bipush 8, 2) := by decide +kernel
theorem dX8_addTo_30 : decode cX8_addTo 30 = .ok (.imul, 1) := by decide +kernel
theorem dX8_addTo_31 : decode cX8_addTo 31 = .ok (.iload_n 3, 1) := by decide +kernel
theorem dX8_addTo_32 : decode cX8_addTo 32 = .ok (.iadd, 1) := by decide +kernel
theorem dX8_addTo_33 : decode cX8_addTo 33 = .ok (.iaload, 1) := by decide +kernel
theorem dX8_addTo_34 : decode cX8_addTo 34 = .ok (.invokevirtual 43, 3) := by decide +kernel
theorem dX8_addTo_37 : decode cX8_addTo 37 = .ok (.iinc 3 1, 3) := by decide +kernel
theorem dX8_addTo_40 : decode cX8_addTo 40 = .ok (.goto (-28), 3) := by decide +kernel
theorem dX8_addTo_43 : decode cX8_addTo 43 = .ok (.iinc 2 1, 3) := by decide +kernel
theorem dX8_addTo_46 : decode cX8_addTo 46 = .ok (.goto (-44), 3) := by decide +kernel
theorem dX8_addTo_49 : decode cX8_addTo 49 = .ok (.iconst 0, 1) := by decide +kernel
theorem dX8_addTo_50 : decode cX8_addTo 50 = .ok (.istore_n 2, 1) := by decide +kernel
theorem dX8_addTo_51 : decode cX8_addTo 51 = .ok (.iload_n 2, 1) := by decide +kernel
theorem dX8_addTo_52 : decode cX8_addTo 52 = .ok (.bipush 8, 2) := by decide +kernel
theorem dX8_addTo_54 : decode cX8_addTo 54 = .ok (.if_icmp .ge 19, 3) := by decide +kernel
theorem dX8_addTo_57 : decode cX8_addTo 57 = .ok (.aload_n 1, 1) := by decide +kernel
theorem dX8_addTo_58 : decode cX8_addTo 58 = .ok (.aload_n 0, 1) := by decide +kernel
theorem dX8_addTo_59 : decode cX8_addTo 59 = .ok (.getfield 18, 3) := by decide +kernel
theorem dX8_addTo_62 : decode cX8_addTo 62 = .ok (.iload_n 2, 1) := by decide +kernel
theorem dX8_addTo_63 : decode cX8_addTo 63 = .ok (.iaload, 1) := by decide +kernel
theorem dX8_addTo_64 : decode cX8_addTo 64 = .ok (.invokevirtual 43, 3) := by decide +kernel
theorem dX8_addTo_67 : decode cX8_addTo 67 = .ok (.iinc 2 1, 3) := by decide +kernel
theorem dX8_addTo_70 : decode cX8_addTo 70 = .ok (.goto (-19), 3) := by decide +kernel
theorem dX8_addTo_73 : decode cX8_addTo 73 = .ok (.iconst 0, 1) := by decide +kernel
theorem dX8_addTo_74 : decode cX8_addTo 74 = .ok (.istore_n 2, 1) := by decide +kernel
theorem dX8_addTo_75 : decode cX8_addTo 75 = .ok (.iload_n 2, 1) := by decide +kernel
theorem dX8_addTo_76 : decode cX8_addTo 76 = .ok (.aload_n 0, 1) := by decide +kernel
theorem dX8_addTo_77 : decode cX8_addTo 77 = .ok (.getfield 24, 3) := by decide +kernel
theorem dX8_addTo_80 : decode cX8_addTo 80 = .ok (.getfield 48, 3) := by decide +kernel
theorem dX8_addTo_83 : decode cX8_addTo 83 = .ok (.if_icmp .ge 22, 3) := by decide +kernel
theorem dX8_addTo_86 : decode cX8_addTo 86 = .ok (.aload_n 1, 1) := by decide +kernel
theorem dX8_addTo_87 : decode cX8_addTo 87 = .ok (.aload_n 0, 1) := by decide +kernel
theorem dX8_addTo_88 : decode cX8_addTo 88 = .ok (.getfield 24, 3) := by decide +kernel
theorem dX8_addTo_91 : decode cX8_addTo 91 = .ok (.getfield 51, 3) := by decide +kernel
theorem dX8_addTo_94 : decode cX8_addTo 94 = .ok (.iload_n 2, 1) := by decide +kernel
theorem dX8_addTo_95 : decode cX8_addTo 95 = .ok (.iaload, 1) := by decide +kernel
theorem dX8_addTo_96 : decode cX8_addTo 96 = .ok (.invokevirtual 43, 3) := by decide +kernel
theorem dX8_addTo_99 : decode cX8_addTo 99 = .ok (.iinc 2 1, 3) := by decide +kernel
theorem dX8_addTo_102 : decode cX8_addTo 102 = .ok (.goto (-27), 3) := by decide +kernel
theorem dX8_addTo_105 : decode cX8_addTo 105 = .ok (.iconst 0, 1) := by decide +kernel
theorem dX8_addTo_106 : decode cX8_addTo 106 = .ok (.istore_n 2, 1) := by decide +kernel
theorem dX8_addTo_107 : decode cX8_addTo 107 = .ok (.iload_n 2, 1) := by decide +kernel
theorem dX8_addTo_108 : decode cX8_addTo 108 = .ok (.aload_n 0, 1) := by decide +kernel
theorem dX8_addTo_109 : decode cX8_addTo 109 = .ok (.getfield 28, 3) := by decide +kernel
theorem dX8_addTo_112 : decode cX8_addTo 112 = .ok (.getfield 48, 3) := by decide +kernel
theorem dX8_addTo_115 : decode cX8_addTo 115 = .ok (.if_icmp .ge 22, 3) := by decide +kernel
theorem dX8_addTo_118 : decode cX8_addTo 118 = .ok (.aload_n 1, 1) := by decide +kernel
theorem dX8_addTo_119 : decode cX8_addTo 119 = .ok (.aload_n 0, 1) := by decide +kernel
theorem dX8_addTo_120 : decode cX8_addTo 120 = .ok (.getfield 28, 3) := by decide +kernel
theorem dX8_addTo_123 : decode cX8_addTo 123 = .ok (.getfield 51, 3) := by decide +kernel
theorem dX8_addTo_126 : decode cX8_addTo 126 = .ok (.iload_n 2, 1) := by decide +kernel
theorem dX8_addTo_127 : decode cX8_addTo 127 = .ok (.iaload, 1) := by decide +kernel
theorem dX8_addTo_128 : decode cX8_addTo 128 = .ok (.invokevirtual 43, 3) := by decide +kernel
theorem dX8_addTo_131 : decode cX8_addTo 131 = .ok (.iinc 2 1, 3) := by decide +kernel
theorem dX8_addTo_134 : decode cX8_addTo 134 = .ok (.goto (-27), 3) := by decide +kernel
theorem dX8_addTo_137 : decode cX8_addTo 137 = .ok (.return_, 1) := by decide +kernel
theorem dX9_init_0 : decode cX9_init 0 = .ok (.aload_n 0, 1) := by decide +kernel
theorem dX9_init_1 : decode cX9_init 1 = .ok (.invokespecial 3, 3) := by decide +kernel
theorem dX9_init_4 : decode cX9_init 4 = .ok (.aload_n 0, 1) := by decide +kernel
theorem dX9_init_5 : decode cX9_init 5 = .ok (.new 9, 3) := by decide +kernel
theorem dX9_init_8 : decode cX9_init 8 = .ok (.dup, 1) := by decide +kernel
theorem dX9_init_9 : decode cX9_init 9 = .ok (.invokespecial 11, 3) := by decide +kernel
theorem dX9_init_12 : decode cX9_init 12 = .ok (.putfield 12, 3) := by decide +kernel
theorem dX9_init_15 : decode cX9_init 15 = .ok (.aload_n 0, 1) := by decide +kernel
theorem dX9_init_16 : decode cX9_init 16 = .ok (.new 9, 3) := by decide +kernel
theorem dX9_init_19 : decode cX9_init 19 = .ok (.dup, 1) := by decide +kernel
theorem dX9_init_20 : decode cX9_init 20 = .ok (.invokespecial 11, 3) := by decide +kernel
theorem dX9_init_23 : decode cX9_init 23 = .ok (.putfield 18, 3) := by decide +kernel
theorem dX9_init_26 : decode cX9_init 26 = .ok (.aload_n 0, 1) := by decide +kernel
theorem dX9_init_27 : decode cX9_init 27 = .ok (.new 9, 3) := by decide +kernel
theorem dX9_init_30 : decode cX9_init 30 = .ok (.dup, 1) := by decide +kernel
theorem dX9_init_31 : decode cX9_init 31 = .ok (.invokespecial 11, 3) := by decide +kernel
theorem dX9_init_34 : decode cX9_init 34 = .ok (.putfield 21, 3) := by decide +kernel
theorem dX9_init_37 : decode cX9_init 37 = .ok (.aload_n 0, 1) := by decide +kernel
theorem dX9_init_38 : decode cX9_init 38 = .ok (.sipush 208, 3) := by decide +kernel
theorem dX9_init_41 : decode cX9_init 41 = .ok (.newarray .int, 2) := by decide +kernel
theorem dX9_init_43 : decode cX9_init 43 = .ok (.putfield 24, 3) := by decide +kernel
theorem dX9_init_46 : decode cX9_init 46 = .ok (.aload_n 0, 1) := by decide +kernel
theorem dX9_init_47 : decode cX9_init 47 = .ok (.new 9, 3) := by decide +kernel
theorem dX9_init_50 : decode cX9_init 50 = .ok (.dup, 1) := by decide +kernel
theorem dX9_init_51 : decode cX9_init 51 = .ok (.invokespecial 11, 3) := by decide +kernel
theorem dX9_init_54 : decode cX9_init 54 = .ok (.putfield 28, 3) := by decide +kernel
theorem dX9_init_57 : decode cX9_init 57 = .ok (.aload_n 0, 1) := by decide +kernel
theorem dX9_init_58 : decode cX9_init 58 = .ok (.aload_n 1, 1) := by decide +kernel
theorem dX9_init_59 : decode cX9_init 59 = .ok (.putfield 31, 3) := by decide +kernel
theorem dX9_init_62 : decode cX9_init 62 = .ok (.aload_n 0, 1) := by decide +kernel
theorem dX9_init_63 : decode cX9_init 63 = .ok (.aload_n 2, 1) := by decide +kernel
theorem dX9_init_64 : decode cX9_init 64 = .ok (.putfield 35, 3) := by decide +kernel
theorem dX9_init_67 : decode cX9_init 67 = .ok (.aload_n 0, 1) := by decide +kernel
theorem dX9_init_68 : decode cX9_init 68 = .ok (.aload_n 3, 1) := by decide +kernel
theorem dX9_init_69 : decode cX9_init 69 = .ok (.putfield 39, 3) := by decide +kernel
theorem dX9_init_72 : decode cX9_init 72 = .ok (.return_, 1) := by decide +kernel
theorem dX9_findReached_0 : decode cX9_findReached 0 = .ok (.aload_n 0, 1) := by decide +kernel
theorem dX9_findReached_1 : decode cX9_findReached 1 = .ok (.getfield 12, 3) := by decide +kernel
theorem dX9_findReached_4 : decode cX9_findReached 4 = .ok (.invokevirtual 43, 3) := by decide +kernel
theorem dX9_findReached_7 : decode cX9_findReached 7 = .ok (.aload_n 0, 1) := by decide +kernel
theorem dX9_findReached_8 : decode cX9_findReached 8 = .ok (.getfield 12, 3) := by decide +kernel
theorem dX9_findReached_11 : decode cX9_findReached 11 = .ok (.iload_n 1, 1) := by decide +kernel
theorem dX9_findReached_12 : decode cX9_findReached 12 = .ok (.putfield 46, 3) := by decide +kernel
theorem dX9_findReached_15 : decode cX9_findReached 15 = .ok (.aload_n 0, 1) := by decide +kernel
theorem dX9_findReached_16 : decode cX9_findReached 16 = .ok (.getfield 35, 3) := by decide +kernel
theorem dX9_findReached_19 : decode cX9_findReached 19 = .ok (.aload_n 0, 1) := by decide +kernel
theorem dX9_findReached_20 : decode cX9_findReached 20 = .ok (.getfield 12, 3) := by decide +kernel
theorem dX9_findReached_23 : decode cX9_findReached 23 = .ok (.invokevirtual 50, 3) := by decide +kernel
theorem dX9_findReached_26 : decode cX9_findReached 26 = .ok (.aload_n 0, 1) := by decide +kernel
theorem dX9_findReached_27 : decode cX9_findReached 27 = .ok (.getfield 39, 3) := by decide +kernel
theorem dX9_findReached_30 : decode cX9_findReached 30 = .ok (.aload_n 0, 1) := by decide +kernel
theorem dX9_findReached_31 : decode cX9_findReached 31 = .ok (.getfield 12, 3) := by decide +kernel
theorem dX9_findReached_34 : decode cX9_findReached 34 = .ok (.aload_n 0, 1) := by decide +kernel
theorem dX9_findReached_35 : decode cX9_findReached 35 = .ok (.getfield 31, 3) := by decide +kernel
theorem dX9_findReached_38 : decode cX9_findReached 38 = .ok (.getfield 56, 3) := by decide +kernel
theorem dX9_findReached_41 : decode cX9_findReached 41 = .ok (.iconst 0, 1) := by decide +kernel
theorem dX9_findReached_42 : decode cX9_findReached 42 = .ok (.invokevirtual 61, 3) := by decide +kernel
theorem dX9_findReached_45 : decode cX9_findReached 45 = .ok (.return_, 1) := by decide +kernel
theorem dX9_reachedWords_0 : decode cX9_reachedWords 0 = .ok (.aload_n 0, 1) := by decide +kernel
theorem dX9_reachedWords_1 : decode cX9_reachedWords 1 = .ok (.iload_n 1, 1) := by decide +kernel
theorem dX9_reachedWords_2 : decode cX9_reachedWords 2 = .ok (.invokevirtual 67, 3) := by decide +kernel
theorem dX9_reachedWords_5 : decode cX9_reachedWords 5 = .ok (.iconst 0, 1) := by decide +kernel
theorem dX9_reachedWords_6 : decode cX9_reachedWords 6 = .ok (.istore_n 2, 1) := by decide +kernel
theorem dX9_reachedWords_7 : decode cX9_reachedWords 7 = .ok (.iconst 0, 1) := by decide +kernel
theorem dX9_reachedWords_8 : decode cX9_reachedWords 8 = .ok (.istore_n 3, 1) := by decide +kernel
theorem dX9_reachedWords_9 : decode cX9_reachedWords 9 = .ok (.iload_n 3, 1) := by decide +kernel
theorem dX9_reachedWords_10 : decode cX9_reachedWords 10 = .ok (.aload_n 0, 1) := by decide +kernel
theorem dX9_reachedWords_11 : decode cX9_reachedWords 11 = .ok (.getfield 12, 3) := by decide +kernel
theorem dX9_reachedWords_14 : decode cX9_reachedWords 14 = .ok (.getfield 71, 3) := by decide +kernel
theorem dX9_reachedWords_17 : decode cX9_reachedWords 17 = .ok (.if_icmp .ge 29, 3) := by decide +kernel
theorem dX9_reachedWords_20 : decode cX9_reachedWords 20 = .ok (.iload_n 2, 1) := by decide +kernel
theorem dX9_reachedWords_21 : decode cX9_reachedWords 21 = .ok (.aload_n 0, 1) := by decide +kernel
theorem dX9_reachedWords_22 : decode cX9_reachedWords 22 = .ok (.getfield 31, 3) := by decide +kernel
theorem dX9_reachedWords_25 : decode cX9_reachedWords 25 = .ok (.getfield 74, 3) := by decide +kernel
theorem dX9_reachedWords_28 : decode cX9_reachedWords 28 = .ok (.aload_n 0, 1) := by decide +kernel
theorem dX9_reachedWords_29 : decode cX9_reachedWords 29 = .ok (.getfield 12, 3) := by decide +kernel
theorem dX9_reachedWords_32 : decode cX9_reachedWords 32 = .ok (.getfield 77, 3) := by decide +kernel
theorem dX9_reachedWords_35 : decode cX9_reachedWords 35 = .ok (.iload_n 3, 1) := by decide +kernel
theorem dX9_reachedWords_36 : decode cX9_reachedWords 36 = .ok (.iaload, 1) := by decide +kernel
theorem dX9_reachedWords_37 : decode cX9_reachedWords 37 = .ok (.iaload, 1) := by decide +kernel
theorem dX9_reachedWords_38 : decode cX9_reachedWords 38 = .ok (.iadd, 1) := by decide +kernel
theorem dX9_reachedWords_39 : decode cX9_reachedWords 39 = .ok (.istore_n 2, 1) := by decide +kernel
theorem dX9_reachedWords_40 : decode cX9_reachedWords 40 = .ok (.iinc 3 1, 3) := by decide +kernel
theorem dX9_reachedWords_43 : decode cX9_reachedWords 43 = .ok (.goto (-34), 3) := by decide +kernel
theorem dX9_reachedWords_46 : decode cX9_reachedWords 46 = .ok (.iload_n 2, 1) := by decide +kernel
theorem dX9_reachedWords_47 : decode cX9_reachedWords 47 = .ok (.ireturn, 1) := by decide +kernel
theorem dX9_findHeaviest_0 : decode cX9_findHeaviest 0 = .ok (.iconst (-1), 1) := by decide +kernel
theorem dX9_findHeaviest_1 : decode cX9_findHeaviest 1 = .ok (.istore_n 1, 1) := by decide +kernel
theorem dX9_findHeaviest_2 : decode cX9_findHeaviest 2 = .ok (.aload_n 0, 1) := by decide +kernel
theorem dX9_findHeaviest_3 : decode cX9_findHeaviest 3 = .ok (.iconst (-1), 1) := by decide +kernel
theorem dX9_findHeaviest_4 : decode cX9_findHeaviest 4 = .ok (.invokevirtual 80, 3) := by decide +kernel
theorem dX9_findHeaviest_7 : decode cX9_findHeaviest 7 = .ok (.istore_n 2, 1) := by decide +kernel
theorem dX9_findHeaviest_8 : decode cX9_findHeaviest 8 = .ok (.iconst 0, 1) := by decide +kernel
theorem dX9_findHeaviest_9 : decode cX9_findHeaviest 9 = .ok (.istore_n 3, 1) := by decide +kernel
theorem dX9_findHeaviest_10 : decode cX9_findHeaviest 10 = .ok (.iload_n 3, 1) := by decide +kernel
theorem dX9_findHeaviest_11 : decode cX9_findHeaviest 11 = .ok (.aload_n 0, 1) := by decide +kernel
theorem dX9_findHeaviest_12 : decode cX9_findHeaviest 12 = .ok (.getfield 31, 3) := by decide +kernel
theorem dX9_findHeaviest_15 : decode cX9_findHeaviest 15 = .ok (.getfield 84, 3) := by decide +kernel
theorem dX9_findHeaviest_18 : decode cX9_findHeaviest 18 = .ok (.if_icmp .ge 43, 3) := by decide +kernel
theorem dX9_findHeaviest_21 : decode cX9_findHeaviest 21 = .ok (.aload_n 0, 1) := by decide +kernel
theorem dX9_findHeaviest_22 : decode cX9_findHeaviest 22 = .ok (.aload_n 0, 1) := by decide +kernel
theorem dX9_findHeaviest_23 : decode cX9_findHeaviest 23 = .ok (.getfield 31, 3) := by decide +kernel
theorem dX9_findHeaviest_26 : decode cX9_findHeaviest 26 = .ok (.getfield 87, 3) := by decide +kernel
theorem dX9_findHeaviest_29 : decode cX9_findHeaviest 29 = .ok (.iload_n 3, 1) := by decide +kernel
theorem dX9_findHeaviest_30 : decode cX9_findHeaviest 30 = .ok (.iaload, 1) := by decide +kernel
theorem dX9_findHeaviest_31 : decode cX9_findHeaviest 31 = .ok (.invokevirtual 80, 3) := by decide +kernel
theorem dX9_findHeaviest_34 : decode cX9_findHeaviest 34 = .ok (.istore 4, 2) := by decide +kernel
theorem dX9_findHeaviest_36 : decode cX9_findHeaviest 36 = .ok (.iload 4, 2) := by decide +kernel
theorem dX9_findHeaviest_38 : decode cX9_findHeaviest 38 = .ok (.iload_n 2, 1) := by decide +kernel
theorem dX9_findHeaviest_39 : decode cX9_findHeaviest 39 = .ok (.if_icmp .ge 16, 3) := by decide +kernel
theorem dX9_findHeaviest_42 : decode cX9_findHeaviest 42 = .ok (.iload 4, 2) := by decide +kernel
theorem dX9_findHeaviest_44 : decode cX9_findHeaviest 44 = .ok (.istore_n 2, 1) := by decide +kernel
theorem dX9_findHeaviest_45 : decode cX9_findHeaviest 45 = .ok (.aload_n 0, 1) := by decide +kernel
theorem dX9_findHeaviest_46 : decode cX9_findHeaviest 46 = .ok (.getfield 31, 3) := by decide +kernel
theorem dX9_findHeaviest_49 : decode cX9_findHeaviest 49 = .ok (.getfield 87, 3) := by decide +kernel
theorem dX9_findHeaviest_52 : decode cX9_findHeaviest 52 = .ok (.iload_n 3, 1) := by decide +kernel
theorem dX9_findHeaviest_53 : decode cX9_findHeaviest 53 = .ok (.iaload, 1) := by decide +kernel
theorem dX9_findHeaviest_54 : decode cX9_findHeaviest 54 = .ok (.istore_n 1, 1) := by decide +kernel
theorem dX9_findHeaviest_55 : decode cX9_findHeaviest 55 = .ok (.iinc 3 1, 3) := by decide +kernel
theorem dX9_findHeaviest_58 : decode cX9_findHeaviest 58 = .ok (.goto (-48), 3) := by decide +kernel
theorem dX9_findHeaviest_61 : decode cX9_findHeaviest 61 = .ok (.iload_n 1, 1) := by decide +kernel
theorem dX9_findHeaviest_62 : decode cX9_findHeaviest 62 = .ok (.ireturn, 1) := by decide +kernel
theorem dX9_findNear_0 : decode cX9_findNear 0 = .ok (.aload_n 0, 1) := by decide +kernel
theorem dX9_findNear_1 : decode cX9_findNear 1 = .ok (.getfield 18, 3) := by decide +kernel
theorem dX9_findNear_4 : decode cX9_findNear 4 = .ok (.invokevirtual 43, 3) := by decide +kernel
theorem dX9_findNear_7 : decode cX9_findNear 7 = .ok (.aload_n 0, 1) := by decide +kernel
theorem dX9_findNear_8 : decode cX9_findNear 8 = .ok (.getfield 35, 3) := by decide +kernel
theorem dX9_findNear_11 : decode cX9_findNear 11 = .ok (.aload_n 0, 1) := by decide +kernel
theorem dX9_findNear_12 : decode cX9_findNear 12 = .ok (.getfield 18, 3) := by decide +kernel
theorem dX9_findNear_15 : decode cX9_findNear 15 = .ok (.invokevirtual 50, 3) := by decide +kernel
theorem dX9_findNear_18 : decode cX9_findNear 18 = .ok (.aload_n 0, 1) := by decide +kernel
theorem dX9_findNear_19 : decode cX9_findNear 19 = .ok (.getfield 39, 3) := by decide +kernel
theorem dX9_findNear_22 : decode cX9_findNear 22 = .ok (.aload_n 0, 1) := by decide +kernel
theorem dX9_findNear_23 : decode cX9_findNear 23 = .ok (.getfield 18, 3) := by decide +kernel
theorem dX9_findNear_26 : decode cX9_findNear 26 = .ok (.bipush 6, 2) := by decide +kernel
theorem dX9_findNear_28 : decode cX9_findNear 28 = .ok (.invokevirtual 90, 3) := by decide +kernel
theorem dX9_findNear_31 : decode cX9_findNear 31 = .ok (.return_, 1) := by decide +kernel
theorem dX9_stepsTo_0 : decode cX9_stepsTo 0 = .ok (.aload_n 0, 1) := by decide +kernel
theorem dX9_stepsTo_1 : decode cX9_stepsTo 1 = .ok (.getfield 18, 3) := by decide +kernel
theorem dX9_stepsTo_4 : decode cX9_stepsTo 4 = .ok (.iload_n 1, 1) := by decide +kernel
theorem dX9_stepsTo_5 : decode cX9_stepsTo 5 = .ok (.invokevirtual 94, 3) := by decide +kernel
theorem dX9_stepsTo_8 : decode cX9_stepsTo 8 = .ok (.ifCond .eq 15, 3) := by decide +kernel
theorem dX9_stepsTo_11 : decode cX9_stepsTo 11 = .ok (.aload_n 0, 1) := by decide +kernel
theorem dX9_stepsTo_12 : decode cX9_stepsTo 12 = .ok (.getfield 39, 3) := by decide +kernel
theorem dX9_stepsTo_15 : decode cX9_stepsTo 15 = .ok (.getfield 98, 3) := by decide +kernel
theorem dX9_stepsTo_18 : decode cX9_stepsTo 18 = .ok (.iload_n 1, 1) := by decide +kernel
theorem dX9_stepsTo_19 : decode cX9_stepsTo 19 = .ok (.iaload, 1) := by decide +kernel
theorem dX9_stepsTo_20 : decode cX9_stepsTo 20 = .ok (.goto 4, 3) := by decide +kernel
theorem dX9_stepsTo_23 : decode cX9_stepsTo 23 = .ok (.iconst (-1), 1) := by decide +kernel
theorem dX9_stepsTo_24 : decode cX9_stepsTo 24 = .ok (.ireturn, 1) := by decide +kernel
theorem dX9_leadsBackTo_0 : decode cX9_leadsBackTo 0 = .ok (.aload_n 0, 1) := by decide +kernel
theorem dX9_leadsBackTo_1 : decode cX9_leadsBackTo 1 = .ok (.getfield 18, 3) := by decide +kernel
theorem dX9_leadsBackTo_4 : decode cX9_leadsBackTo 4 = .ok (.invokevirtual 43, 3) := by decide +kernel
theorem dX9_leadsBackTo_7 : decode cX9_leadsBackTo 7 = .ok (.iconst 0, 1) := by decide +kernel
theorem dX9_leadsBackTo_8 : decode cX9_leadsBackTo 8 = .ok (.istore_n 2, 1) := by decide +kernel
theorem dX9_leadsBackTo_9 : decode cX9_leadsBackTo 9 = .ok (.iload_n 2, 1) := by decide +kernel
theorem dX9_leadsBackTo_10 : decode cX9_leadsBackTo 10 = .ok (.aload_n 0, 1) := by decide +kernel
theorem dX9_leadsBackTo_11 : decode cX9_leadsBackTo 11 = .ok (.getfield 31, 3) := by decide +kernel
theorem dX9_leadsBackTo_14 : decode cX9_leadsBackTo 14 = .ok (.iload_n 1, 1) := by decide +kernel
theorem dX9_leadsBackTo_15 : decode cX9_leadsBackTo 15 = .ok (.invokevirtual 101, 3) := by decide +kernel
theorem dX9_leadsBackTo_18 : decode cX9_leadsBackTo 18 = .ok (.if_icmp .ge 35, 3) := by decide +kernel
theorem dX9_leadsBackTo_21 : decode cX9_leadsBackTo 21 = .ok (.aload_n 0, 1) := by decide +kernel
theorem dX9_leadsBackTo_22 : decode cX9_leadsBackTo 22 = .ok (.getfield 18, 3) := by decide +kernel
theorem dX9_leadsBackTo_25 : decode cX9_leadsBackTo 25 = .ok (.aload_n 0, 1) := by decide +kernel
theorem dX9_leadsBackTo_26 : decode cX9_leadsBackTo 26 = .ok (.getfield 31, 3) := by decide +kernel
theorem dX9_leadsBackTo_29 : decode cX9_leadsBackTo 29 = .ok (.getfield 56, 3) := by decide +kernel
theorem dX9_leadsBackTo_32 : decode cX9_leadsBackTo 32 = .ok (.aload_n 0, 1) := by decide +kernel
theorem dX9_leadsBackTo_33 : decode cX9_leadsBackTo 33 = .ok (.getfield 31, 3) := by decide +kernel
theorem dX9_leadsBackTo_36 : decode cX9_leadsBackTo 36 = .ok (.getfield 104, 3) := by decide +kernel
theorem dX9_leadsBackTo_39 : decode cX9_leadsBackTo 39 = .ok (.iload_n 1, 1) := by decide +kernel
theorem dX9_leadsBackTo_40 : decode cX9_leadsBackTo 40 = .ok (.iaload, 1) := by decide +kernel
theorem dX9_leadsBackTo_41 : decode cX9_leadsBackTo 41 = .ok (.iload_n 2, 1) := by decide +kernel
theorem dX9_leadsBackTo_42 : decode cX9_leadsBackTo 42 = .ok (.iadd, 1) := by decide +kernel
theorem dX9_leadsBackTo_43 : decode cX9_leadsBackTo 43 = .ok (.iaload, 1) := by decide +kernel
theorem dX9_leadsBackTo_44 : decode cX9_leadsBackTo 44 = .ok (.invokevirtual 107, 3) := by decide +kernel
theorem dX9_leadsBackTo_47 : decode cX9_leadsBackTo 47 = .ok (.iinc 2 1, 3) := by decide +kernel
theorem dX9_leadsBackTo_50 : decode cX9_leadsBackTo 50 = .ok (.goto (-41), 3) := by decide +kernel
theorem dX9_leadsBackTo_53 : decode cX9_leadsBackTo 53 = .ok (.aload_n 0, 1) := by decide +kernel
theorem dX9_leadsBackTo_54 : decode cX9_leadsBackTo 54 = .ok (.getfield 39, 3) := by decide +kernel
theorem dX9_leadsBackTo_57 : decode cX9_leadsBackTo 57 = .ok (.aload_n 0, 1) := by decide +kernel
theorem dX9_leadsBackTo_58 : decode cX9_leadsBackTo 58 = .ok (.getfield 18, 3) := by decide +kernel
theorem dX9_leadsBackTo_61 : decode cX9_leadsBackTo 61 = .ok (.bipush 6, 2) := by decide +kernel
theorem dX9_leadsBackTo_63 : decode cX9_leadsBackTo 63 = .ok (.invokevirtual 90, 3) := by decide +kernel
theorem dX9_leadsBackTo_66 : decode cX9_leadsBackTo 66 = .ok (.aload_n 0, 1) := by decide +kernel
theorem dX9_leadsBackTo_67 : decode cX9_leadsBackTo 67 = .ok (.getfield 18, 3) := by decide +kernel
theorem dX9_leadsBackTo_70 : decode cX9_leadsBackTo 70 = .ok (.iload_n 1, 1) := by decide +kernel
theorem dX9_leadsBackTo_71 : decode cX9_leadsBackTo 71 = .ok (.invokevirtual 94, 3) := by decide +kernel
theorem dX9_leadsBackTo_74 : decode cX9_leadsBackTo 74 = .ok (.ireturn, 1) := by decide +kernel
theorem dX9_countHolders_0 : decode cX9_countHolders 0 = .ok (.iconst 0, 1) := by decide +kernel
theorem dX9_countHolders_1 : decode cX9_countHolders 1 = .ok (.istore_n 2, 1) := by decide +kernel
theorem dX9_countHolders_2 : decode cX9_countHolders 2 = .ok (.iconst 0, 1) := by decide +kernel
theorem dX9_countHolders_3 : decode cX9_countHolders 3 = .ok (.istore_n 3, 1) := by decide +kernel
theorem dX9_countHolders_4 : decode cX9_countHolders 4 = .ok (.iload_n 3, 1) := by decide +kernel
theorem dX9_countHolders_5 : decode cX9_countHolders 5 = .ok (.aload_n 0, 1) := by decide +kernel
theorem dX9_countHolders_6 : decode cX9_countHolders 6 = .ok (.getfield 31, 3) := by decide +kernel
theorem dX9_countHolders_9 : decode cX9_countHolders 9 = .ok (.getfield 84, 3) := by decide +kernel
theorem dX9_countHolders_12 : decode cX9_countHolders 12 = .ok (.if_icmp .ge 71, 3) := by decide +kernel
theorem dX9_countHolders_15 : decode cX9_countHolders 15 = .ok (.aload_n 0, 1) := by decide +kernel
theorem dX9_countHolders_16 : decode cX9_countHolders 16 = .ok (.getfield 31, 3) := by decide +kernel
theorem dX9_countHolders_19 : decode cX9_countHolders 19 = .ok (.getfield 87, 3) := by decide +kernel
theorem dX9_countHolders_22 : decode cX9_countHolders 22 = .ok (.iload_n 3, 1) := by decide +kernel
theorem dX9_countHolders_23 : decode cX9_countHolders 23 = .ok (.iaload, 1) := by decide +kernel
theorem dX9_countHolders_24 : decode cX9_countHolders 24 = .ok (.istore 4, 2) := by decide +kernel
theorem dX9_countHolders_26 : decode cX9_countHolders 26 = .ok (.iconst 0, 1) := by decide +kernel
theorem dX9_countHolders_27 : decode cX9_countHolders 27 = .ok (.istore 5, 2) := by decide +kernel
theorem dX9_countHolders_29 : decode cX9_countHolders 29 = .ok (.iload 5, 2) := by decide +kernel
theorem dX9_countHolders_31 : decode cX9_countHolders 31 = .ok (.aload_n 0, 1) := by decide +kernel
theorem dX9_countHolders_32 : decode cX9_countHolders 32 = .ok (.getfield 31, 3) := by decide +kernel
theorem dX9_countHolders_35 : decode cX9_countHolders 35 = .ok (.iload 4, 2) := by decide +kernel
theorem dX9_countHolders_37 : decode cX9_countHolders 37 = .ok (.invokevirtual 101, 3) := by decide +kernel
theorem dX9_countHolders_40 : decode cX9_countHolders 40 = .ok (.if_icmp .ge 37, 3) := by decide +kernel
theorem dX9_countHolders_43 : decode cX9_countHolders 43 = .ok (.aload_n 0, 1) := by decide +kernel
theorem dX9_countHolders_44 : decode cX9_countHolders 44 = .ok (.getfield 31, 3) := by decide +kernel
theorem dX9_countHolders_47 : decode cX9_countHolders 47 = .ok (.getfield 56, 3) := by decide +kernel
theorem dX9_countHolders_50 : decode cX9_countHolders 50 = .ok (.aload_n 0, 1) := by decide +kernel
theorem dX9_countHolders_51 : decode cX9_countHolders 51 = .ok (.getfield 31, 3) := by decide +kernel
theorem dX9_countHolders_54 : decode cX9_countHolders 54 = .ok (.getfield 104, 3) := by decide +kernel
theorem dX9_countHolders_57 : decode cX9_countHolders 57 = .ok (.iload 4, 2) := by decide +kernel
theorem dX9_countHolders_59 : decode cX9_countHolders 59 = .ok (.iaload, 1) := by decide +kernel
theorem dX9_countHolders_60 : decode cX9_countHolders 60 = .ok (.iload 5, 2) := by decide +kernel
theorem dX9_countHolders_62 : decode cX9_countHolders 62 = .ok (.iadd, 1) := by decide +kernel
theorem dX9_countHolders_63 : decode cX9_countHolders 63 = .ok (.iaload, 1) := by decide +kernel
theorem dX9_countHolders_64 : decode cX9_countHolders 64 = .ok (.iload_n 1, 1) := by decide +kernel
theorem dX9_countHolders_65 : decode cX9_countHolders 65 = .ok (.if_icmp .ne 6, 3) := by decide +kernel
theorem dX9_countHolders_68 : decode cX9_countHolders 68 = .ok (.iinc 2 1, 3) := by decide +kernel
theorem dX9_countHolders_71 : decode cX9_countHolders 71 = .ok (.iinc 5 1, 3) := by decide +kernel
theorem dX9_countHolders_74 : decode cX9_countHolders 74 = .ok (.goto (-45), 3) := by decide +kernel
theorem dX9_countHolders_77 : decode cX9_countHolders 77 = .ok (.iinc 3 1, 3) := by decide +kernel
theorem dX9_countHolders_80 : decode cX9_countHolders 80 = .ok (.goto (-76), 3) := by decide +kernel
theorem dX9_countHolders_83 : decode cX9_countHolders 83 = .ok (.iload_n 2, 1) := by decide +kernel
theorem dX9_countHolders_84 : decode cX9_countHolders 84 = .ok (.ireturn, 1) := by decide +kernel
theorem dX9_countFlaws_0 : decode cX9_countFlaws 0 = .ok (.iconst 0, 1) := by decide +kernel
theorem dX9_countFlaws_1 : decode cX9_countFlaws 1 = .ok (.istore_n 1, 1) := by decide +kernel
theorem dX9_countFlaws_2 : decode cX9_countFlaws 2 = .ok (.iconst 0, 1) := by decide +kernel
theorem dX9_countFlaws_3 : decode cX9_countFlaws 3 = .ok (.istore_n 2, 1) := by decide +kernel
theorem dX9_countFlaws_4 : decode cX9_countFlaws 4 = .ok (.iconst 0, 1) := by decide +kernel
theorem dX9_countFlaws_5 : decode cX9_countFlaws 5 = .ok (.istore_n 3, 1) := by decide +kernel
theorem dX9_countFlaws_6 : decode cX9_countFlaws 6 = .ok (.aload_n 0, 1) := by decide +kernel
theorem dX9_countFlaws_7 : decode cX9_countFlaws 7 = .ok (.getfield 18, 3) := by decide +kernel
theorem dX9_countFlaws_10 : decode cX9_countFlaws 10 = .ok (.invokevirtual 43, 3) := by decide +kernel
theorem dX9_countFlaws_13 : decode cX9_countFlaws 13 = .ok (.iconst 0, 1) := by decide +kernel
theorem dX9_countFlaws_14 : decode cX9_countFlaws 14 = .ok (.istore 4, 2) := by decide +kernel
theorem dX9_countFlaws_16 : decode cX9_countFlaws 16 = .ok (.iload 4, 2) := by decide +kernel
theorem dX9_countFlaws_18 : decode cX9_countFlaws 18 = .ok (.aload_n 0, 1) := by decide +kernel
theorem dX9_countFlaws_19 : decode cX9_countFlaws 19 = .ok (.getfield 31, 3) := by decide +kernel
theorem dX9_countFlaws_22 : decode cX9_countFlaws 22 = .ok (.getfield 84, 3) := by decide +kernel
theorem dX9_countFlaws_25 : decode cX9_countFlaws 25 = .ok (.if_icmp .ge 73, 3) := by decide +kernel
theorem dX9_countFlaws_28 : decode cX9_countFlaws 28 = .ok (.aload_n 0, 1) := by decide +kernel
theorem dX9_countFlaws_29 : decode cX9_countFlaws 29 = .ok (.getfield 31, 3) := by decide +kernel
theorem dX9_countFlaws_32 : decode cX9_countFlaws 32 = .ok (.getfield 87, 3) := by decide +kernel
theorem dX9_countFlaws_35 : decode cX9_countFlaws 35 = .ok (.iload 4, 2) := by decide +kernel
theorem dX9_countFlaws_37 : decode cX9_countFlaws 37 = .ok (.iaload, 1) := by decide +kernel
theorem dX9_countFlaws_38 : decode cX9_countFlaws 38 = .ok (.istore 5, 2) := by decide +kernel
theorem dX9_countFlaws_40 : decode cX9_countFlaws 40 = .ok (.aload_n 0, 1) := by decide +kernel
theorem dX9_countFlaws_41 : decode cX9_countFlaws 41 = .ok (.getfield 18, 3) := by decide +kernel
theorem dX9_countFlaws_44 : decode cX9_countFlaws 44 = .ok (.iload 5, 2) := by decide +kernel
theorem dX9_countFlaws_46 : decode cX9_countFlaws 46 = .ok (.invokevirtual 107, 3) := by decide +kernel
theorem dX9_countFlaws_49 : decode cX9_countFlaws 49 = .ok (.iload_n 3, 1) := by decide +kernel
theorem dX9_countFlaws_50 : decode cX9_countFlaws 50 = .ok (.aload_n 0, 1) := by decide +kernel
theorem dX9_countFlaws_51 : decode cX9_countFlaws 51 = .ok (.getfield 31, 3) := by decide +kernel
theorem dX9_countFlaws_54 : decode cX9_countFlaws 54 = .ok (.getfield 74, 3) := by decide +kernel
theorem dX9_countFlaws_57 : decode cX9_countFlaws 57 = .ok (.iload 5, 2) := by decide +kernel
theorem dX9_countFlaws_59 : decode cX9_countFlaws 59 = .ok (.iaload, 1) := by decide +kernel
theorem dX9_countFlaws_60 : decode cX9_countFlaws 60 = .ok (.iadd, 1) := by decide +kernel
theorem dX9_countFlaws_61 : decode cX9_countFlaws 61 = .ok (.istore_n 3, 1) := by decide +kernel
theorem dX9_countFlaws_62 : decode cX9_countFlaws 62 = .ok (.iload_n 2, 1) := by decide +kernel
theorem dX9_countFlaws_63 : decode cX9_countFlaws 63 = .ok (.aload_n 0, 1) := by decide +kernel
theorem dX9_countFlaws_64 : decode cX9_countFlaws 64 = .ok (.getfield 31, 3) := by decide +kernel
theorem dX9_countFlaws_67 : decode cX9_countFlaws 67 = .ok (.getfield 110, 3) := by decide +kernel
theorem dX9_countFlaws_70 : decode cX9_countFlaws 70 = .ok (.iload 5, 2) := by decide +kernel
theorem dX9_countFlaws_72 : decode cX9_countFlaws 72 = .ok (.baload, 1) := by decide +kernel
theorem dX9_countFlaws_73 : decode cX9_countFlaws 73 = .ok (.ifCond .eq 7, 3) := by decide +kernel
theorem dX9_countFlaws_76 : decode cX9_countFlaws 76 = .ok (.iconst 0, 1) := by decide +kernel
theorem dX9_countFlaws_77 : decode cX9_countFlaws 77 = .ok (.goto 13, 3) := by decide +kernel
theorem dX9_countFlaws_80 : decode cX9_countFlaws 80 = .ok (.aload_n 0, 1) := by decide +kernel
theorem dX9_countFlaws_81 : decode cX9_countFlaws 81 = .ok (.getfield 31, 3) := by decide +kernel
theorem dX9_countFlaws_84 : decode cX9_countFlaws 84 = .ok (.getfield 74, 3) := by decide +kernel
theorem dX9_countFlaws_87 : decode cX9_countFlaws 87 = .ok (.iload 5, 2) := by decide +kernel
theorem dX9_countFlaws_89 : decode cX9_countFlaws 89 = .ok (.iaload, 1) := by decide +kernel
theorem dX9_countFlaws_90 : decode cX9_countFlaws 90 = .ok (.iadd, 1) := by decide +kernel
theorem dX9_countFlaws_91 : decode cX9_countFlaws 91 = .ok (.istore_n 2, 1) := by decide +kernel
theorem dX9_countFlaws_92 : decode cX9_countFlaws 92 = .ok (.iinc 4 1, 3) := by decide +kernel
theorem dX9_countFlaws_95 : decode cX9_countFlaws 95 = .ok (.goto (-79), 3) := by decide +kernel
theorem dX9_countFlaws_98 : decode cX9_countFlaws 98 = .ok (.iload_n 1, 1) := by decide +kernel
theorem dX9_countFlaws_99 : decode cX9_countFlaws 99 = .ok (.iload_n 2, 1) := by decide +kernel
theorem dX9_countFlaws_100 : decode cX9_countFlaws 100 = .ok (.aload_n 0, 1) := by decide +kernel
theorem dX9_countFlaws_101 : decode cX9_countFlaws 101 = .ok (.getfield 31, 3) := by decide +kernel
theorem dX9_countFlaws_104 : decode cX9_countFlaws 104 = .ok (.getfield 114, 3) := by decide +kernel
theorem dX9_countFlaws_107 : decode cX9_countFlaws 107 = .ok (.if_icmp .ne 13, 3) := by decide +kernel
theorem dX9_countFlaws_110 : decode cX9_countFlaws 110 = .ok (.iload_n 2, 1) := by decide +kernel
theorem dX9_countFlaws_111 : decode cX9_countFlaws 111 = .ok (.bipush 96, 2) := by decide +kernel
theorem dX9_countFlaws_113 : decode cX9_countFlaws 113 = .ok (.if_icmp .gt 7, 3) := by decide +kernel
theorem dX9_countFlaws_116 : decode cX9_countFlaws 116 = .ok (.iconst 0, 1) := by decide +kernel
theorem dX9_countFlaws_117 : decode cX9_countFlaws 117 = .ok (.goto 4, 3) := by decide +kernel
theorem dX9_countFlaws_120 : decode cX9_countFlaws 120 = .ok (.iconst 1, 1) := by decide +kernel
theorem dX9_countFlaws_121 : decode cX9_countFlaws 121 = .ok (.iadd, 1) := by decide +kernel
theorem dX9_countFlaws_122 : decode cX9_countFlaws 122 = .ok (.istore_n 1, 1) := by decide +kernel
theorem dX9_countFlaws_123 : decode cX9_countFlaws 123 = .ok (.iload_n 1, 1) := by decide +kernel
theorem dX9_countFlaws_124 : decode cX9_countFlaws 124 = .ok (.iload_n 3, 1) := by decide +kernel
theorem dX9_countFlaws_125 : decode cX9_countFlaws 125 = .ok (.iload_n 2, 1) := by decide +kernel
theorem dX9_countFlaws_126 : decode cX9_countFlaws 126 = .ok (.isub, 1) := by decide +kernel
theorem dX9_countFlaws_127 : decode cX9_countFlaws 127 = .ok (.aload_n 0, 1) := by decide +kernel
theorem dX9_countFlaws_128 : decode cX9_countFlaws 128 = .ok (.getfield 31, 3) := by decide +kernel
theorem dX9_countFlaws_131 : decode cX9_countFlaws 131 = .ok (.getfield 117, 3) := by decide +kernel
theorem dX9_countFlaws_134 : decode cX9_countFlaws 134 = .ok (.if_icmp .ne 16, 3) := by decide +kernel
theorem dX9_countFlaws_137 : decode cX9_countFlaws 137 = .ok (.iload_n 3, 1) := by decide +kernel
theorem dX9_countFlaws_138 : decode cX9_countFlaws 138 = .ok (.iload_n 2, 1) := by decide +kernel
theorem dX9_countFlaws_139 : decode cX9_countFlaws 139 = .ok (.isub, 1) := by decide +kernel
theorem dX9_countFlaws_140 : decode cX9_countFlaws 140 = .ok (.sipush 320, 3) := by decide +kernel
theorem dX9_countFlaws_143 : decode cX9_countFlaws 143 = .ok (.if_icmp .gt 7, 3) := by decide +kernel
theorem dX9_countFlaws_146 : decode cX9_countFlaws 146 = .ok (.iconst 0, 1) := by decide +kernel
theorem dX9_countFlaws_147 : decode cX9_countFlaws 147 = .ok (.goto 4, 3) := by decide +kernel
theorem dX9_countFlaws_150 : decode cX9_countFlaws 150 = .ok (.iconst 1, 1) := by decide +kernel
theorem dX9_countFlaws_151 : decode cX9_countFlaws 151 = .ok (.iadd, 1) := by decide +kernel
theorem dX9_countFlaws_152 : decode cX9_countFlaws 152 = .ok (.istore_n 1, 1) := by decide +kernel
theorem dX9_countFlaws_153 : decode cX9_countFlaws 153 = .ok (.aload_n 0, 1) := by decide +kernel
theorem dX9_countFlaws_154 : decode cX9_countFlaws 154 = .ok (.iconst (-1), 1) := by decide +kernel
theorem dX9_countFlaws_155 : decode cX9_countFlaws 155 = .ok (.invokevirtual 67, 3) := by decide +kernel
theorem dX9_countFlaws_158 : decode cX9_countFlaws 158 = .ok (.iconst 0, 1) := by decide +kernel
theorem dX9_countFlaws_159 : decode cX9_countFlaws 159 = .ok (.istore 4, 2) := by decide +kernel
theorem dX9_countFlaws_161 : decode cX9_countFlaws 161 = .ok (.iload 4, 2) := by decide +kernel
theorem dX9_countFlaws_163 : decode cX9_countFlaws 163 = .ok (.aload_n 0, 1) := by decide +kernel
theorem dX9_countFlaws_164 : decode cX9_countFlaws 164 = .ok (.getfield 12, 3) := by decide +kernel
theorem dX9_countFlaws_167 : decode cX9_countFlaws 167 = .ok (.getfield 71, 3) := by decide +kernel
theorem dX9_countFlaws_170 : decode cX9_countFlaws 170 = .ok (.if_icmp .ge 37, 3) := by decide +kernel
theorem dX9_countFlaws_173 : decode cX9_countFlaws 173 = .ok (.iload_n 1, 1) := by decide +kernel
theorem dX9_countFlaws_174 : decode cX9_countFlaws 174 = .ok (.aload_n 0, 1) := by decide +kernel
theorem dX9_countFlaws_175 : decode cX9_countFlaws 175 = .ok (.getfield 18, 3) := by decide +kernel
theorem dX9_countFlaws_178 : decode cX9_countFlaws 178 = .ok (.aload_n 0, 1) := by decide +kernel
theorem dX9_countFlaws_179 : decode cX9_countFlaws 179 = .ok (.getfield 12, 3) := by decide +kernel
theorem dX9_countFlaws_182 : decode cX9_countFlaws 182 = .ok (.getfield 77, 3) := by decide +kernel
theorem dX9_countFlaws_185 : decode cX9_countFlaws 185 = .ok (.iload 4, 2) := by decide +kernel
theorem dX9_countFlaws_187 : decode cX9_countFlaws 187 = .ok (.iaload, 1) := by decide +kernel
theorem dX9_countFlaws_188 : decode cX9_countFlaws 188 = .ok (.invokevirtual 94, 3) := by decide +kernel
theorem dX9_countFlaws_191 : decode cX9_countFlaws 191 = .ok (.ifCond .eq 7, 3) := by decide +kernel
theorem dX9_countFlaws_194 : decode cX9_countFlaws 194 = .ok (.iconst 0, 1) := by decide +kernel
theorem dX9_countFlaws_195 : decode cX9_countFlaws 195 = .ok (.goto 4, 3) := by decide +kernel
theorem dX9_countFlaws_198 : decode cX9_countFlaws 198 = .ok (.iconst 1, 1) := by decide +kernel
theorem dX9_countFlaws_199 : decode cX9_countFlaws 199 = .ok (.iadd, 1) := by decide +kernel
theorem dX9_countFlaws_200 : decode cX9_countFlaws 200 = .ok (.istore_n 1, 1) := by decide +kernel
theorem dX9_countFlaws_201 : decode cX9_countFlaws 201 = .ok (.iinc 4 1, 3) := by decide +kernel
theorem dX9_countFlaws_204 : decode cX9_countFlaws 204 = .ok (.goto (-43), 3) := by decide +kernel
theorem dX9_countFlaws_207 : decode cX9_countFlaws 207 = .ok (.iload_n 1, 1) := by decide +kernel
theorem dX9_countFlaws_208 : decode cX9_countFlaws 208 = .ok (.ireturn, 1) := by decide +kernel
theorem dX9_areAlike_0 : decode cX9_areAlike 0 = .ok (.aload_n 0, 1) := by decide +kernel
theorem dX9_areAlike_1 : decode cX9_areAlike 1 = .ok (.getfield 21, 3) := by decide +kernel
theorem dX9_areAlike_4 : decode cX9_areAlike 4 = .ok (.invokevirtual 43, 3) := by decide +kernel
theorem dX9_areAlike_7 : decode cX9_areAlike 7 = .ok (.aload_n 0, 1) := by decide +kernel
theorem dX9_areAlike_8 : decode cX9_areAlike 8 = .ok (.getfield 28, 3) := by decide +kernel
theorem dX9_areAlike_11 : decode cX9_areAlike 11 = .ok (.invokevirtual 43, 3) := by decide +kernel
theorem dX9_areAlike_14 : decode cX9_areAlike 14 = .ok (.aload_n 0, 1) := by decide +kernel
theorem dX9_areAlike_15 : decode cX9_areAlike 15 = .ok (.iload_n 1, 1) := by decide +kernel
theorem dX9_areAlike_16 : decode cX9_areAlike 16 = .ok (.iload_n 2, 1) := by decide +kernel
theorem dX9_areAlike_17 : decode cX9_areAlike 17 = .ok (.invokevirtual 120, 3) := by decide +kernel
theorem dX9_areAlike_20 : decode cX9_areAlike 20 = .ok (.istore_n 3, 1) := by decide +kernel
theorem dX9_areAlike_21 : decode cX9_areAlike 21 = .ok (.iconst 0, 1) := by decide +kernel
theorem dX9_areAlike_22 : decode cX9_areAlike 22 = .ok (.istore 4, 2) := by decide +kernel
theorem dX9_areAlike_24 : decode cX9_areAlike 24 = .ok (.iload_n 3, 1) := by decide +kernel
theorem dX9_areAlike_25 : decode cX9_areAlike 25 = .ok (.ifCond .eq 55, 3) := by decide +kernel
theorem dX9_areAlike_28 : decode cX9_areAlike 28 = .ok (.iload 4, 2) := by decide +kernel
theorem dX9_areAlike_30 : decode cX9_areAlike 30 = .ok (.aload_n 0, 1) := by decide +kernel
theorem dX9_areAlike_31 : decode cX9_areAlike 31 = .ok (.getfield 21, 3) := by decide +kernel
theorem dX9_areAlike_34 : decode cX9_areAlike 34 = .ok (.getfield 71, 3) := by decide +kernel
theorem dX9_areAlike_37 : decode cX9_areAlike 37 = .ok (.if_icmp .ge 43, 3) := by decide +kernel
theorem dX9_areAlike_40 : decode cX9_areAlike 40 = .ok (.iload 4, 2) := by decide +kernel
theorem dX9_areAlike_42 : decode cX9_areAlike 42 = .ok (.sipush 208, 3) := by decide +kernel
theorem dX9_areAlike_45 : decode cX9_areAlike 45 = .ok (.if_icmp .ge 35, 3) := by decide +kernel
theorem dX9_areAlike_48 : decode cX9_areAlike 48 = .ok (.aload_n 0, 1) := by decide +kernel
theorem dX9_areAlike_49 : decode cX9_areAlike 49 = .ok (.getfield 21, 3) := by decide +kernel
theorem dX9_areAlike_52 : decode cX9_areAlike 52 = .ok (.getfield 77, 3) := by decide +kernel
theorem dX9_areAlike_55 : decode cX9_areAlike 55 = .ok (.iload 4, 2) := by decide +kernel
theorem dX9_areAlike_57 : decode cX9_areAlike 57 = .ok (.iaload, 1) := by decide +kernel
theorem dX9_areAlike_58 : decode cX9_areAlike 58 = .ok (.istore 5, 2) := by decide +kernel
theorem dX9_areAlike_60 : decode cX9_areAlike 60 = .ok (.aload_n 0, 1) := by decide +kernel
theorem dX9_areAlike_61 : decode cX9_areAlike 61 = .ok (.iload 5, 2) := by decide +kernel
theorem dX9_areAlike_63 : decode cX9_areAlike 63 = .ok (.aload_n 0, 1) := by decide +kernel
theorem dX9_areAlike_64 : decode cX9_areAlike 64 = .ok (.getfield 24, 3) := by decide +kernel
theorem dX9_areAlike_67 : decode cX9_areAlike 67 = .ok (.iload 5, 2) := by decide +kernel
theorem dX9_areAlike_69 : decode cX9_areAlike 69 = .ok (.iaload, 1) := by decide +kernel
theorem dX9_areAlike_70 : decode cX9_areAlike 70 = .ok (.invokevirtual 124, 3) := by decide +kernel
theorem dX9_areAlike_73 : decode cX9_areAlike 73 = .ok (.istore_n 3, 1) := by decide +kernel
theorem dX9_areAlike_74 : decode cX9_areAlike 74 = .ok (.iinc 4 1, 3) := by decide +kernel
theorem dX9_areAlike_77 : decode cX9_areAlike 77 = .ok (.goto (-53), 3) := by decide +kernel
theorem dX9_areAlike_80 : decode cX9_areAlike 80 = .ok (.iload_n 3, 1) := by decide +kernel
theorem dX9_areAlike_81 : decode cX9_areAlike 81 = .ok (.ireturn, 1) := by decide +kernel
theorem dX9_isNewOrSamePair_0 : decode cX9_isNewOrSamePair 0 = .ok (.aload_n 0, 1) := by decide +kernel
theorem dX9_isNewOrSamePair_1 : decode cX9_isNewOrSamePair 1 = .ok (.getfield 21, 3) := by decide +kernel
theorem dX9_isNewOrSamePair_4 : decode cX9_isNewOrSamePair 4 = .ok (.iload_n 1, 1) := by decide +kernel
theorem dX9_isNewOrSamePair_5 : decode cX9_isNewOrSamePair 5 = .ok (.invokevirtual 94, 3) := by decide +kernel
theorem dX9_isNewOrSamePair_8 : decode cX9_isNewOrSamePair 8 = .ok (.ifCond .eq 19, 3) := by decide +kernel
theorem dX9_isNewOrSamePair_11 : decode cX9_isNewOrSamePair 11 = .ok (.aload_n 0, 1) := by decide +kernel
theorem dX9_isNewOrSamePair_12 : decode cX9_isNewOrSamePair 12 = .ok (.getfield 24, 3) := by decide +kernel
theorem dX9_isNewOrSamePair_15 : decode cX9_isNewOrSamePair 15 = .ok (.iload_n 1, 1) := by decide +kernel
theorem dX9_isNewOrSamePair_16 : decode cX9_isNewOrSamePair 16 = .ok (.iaload, 1) := by decide +kernel
theorem dX9_isNewOrSamePair_17 : decode cX9_isNewOrSamePair 17 = .ok (.iload_n 2, 1) := by decide +kernel
theorem dX9_isNewOrSamePair_18 : decode cX9_isNewOrSamePair 18 = .ok (.if_icmp .ne 7, 3) := by decide +kernel
theorem dX9_isNewOrSamePair_21 : decode cX9_isNewOrSamePair 21 = .ok (.iconst 1, 1) := by decide +kernel
theorem dX9_isNewOrSamePair_22 : decode cX9_isNewOrSamePair 22 = .ok (.goto 4, 3) := by decide +kernel
theorem dX9_isNewOrSamePair_25 : decode cX9_isNewOrSamePair 25 = .ok (.iconst 0, 1) := by decide +kernel
theorem dX9_isNewOrSamePair_26 : decode cX9_isNewOrSamePair 26 = .ok (.ireturn, 1) := by decide +kernel
theorem dX9_isNewOrSamePair_27 : decode cX9_isNewOrSamePair 27 = .ok (.aload_n 0, 1) := by decide +kernel
theorem dX9_isNewOrSamePair_28 : decode cX9_isNewOrSamePair 28 = .ok (.getfield 28, 3) := by decide +kernel
theorem dX9_isNewOrSamePair_31 : decode cX9_isNewOrSamePair 31 = .ok (.iload_n 2, 1) := by decide +kernel
theorem dX9_isNewOrSamePair_32 : decode cX9_isNewOrSamePair 32 = .ok (.invokevirtual 94, 3) := by decide +kernel
theorem dX9_isNewOrSamePair_35 : decode cX9_isNewOrSamePair 35 = .ok (.ifCond .eq 5, 3) := by decide +kernel
theorem dX9_isNewOrSamePair_38 : decode cX9_isNewOrSamePair 38 = .ok (.iconst 0, 1) := by decide +kernel
theorem dX9_isNewOrSamePair_39 : decode cX9_isNewOrSamePair 39 = .ok (.ireturn, 1) := by decide +kernel
theorem dX9_isNewOrSamePair_40 : decode cX9_isNewOrSamePair 40 = .ok (.aload_n 0, 1) := by decide +kernel
theorem dX9_isNewOrSamePair_41 : decode cX9_isNewOrSamePair 41 = .ok (.getfield 21, 3) := by decide +kernel
theorem dX9_isNewOrSamePair_44 : decode cX9_isNewOrSamePair 44 = .ok (.iload_n 1, 1) := by decide +kernel
theorem dX9_isNewOrSamePair_45 : decode cX9_isNewOrSamePair 45 = .ok (.invokevirtual 107, 3) := by decide +kernel
theorem dX9_isNewOrSamePair_48 : decode cX9_isNewOrSamePair 48 = .ok (.aload_n 0, 1) := by decide +kernel
theorem dX9_isNewOrSamePair_49 : decode cX9_isNewOrSamePair 49 = .ok (.getfield 28, 3) := by decide +kernel
theorem dX9_isNewOrSamePair_52 : decode cX9_isNewOrSamePair 52 = .ok (.iload_n 2, 1) := by decide +kernel
theorem dX9_isNewOrSamePair_53 : decode cX9_isNewOrSamePair 53 = .ok (.invokevirtual 107, 3) := by decide +kernel
theorem dX9_isNewOrSamePair_56 : decode cX9_isNewOrSamePair 56 = .ok (.aload_n 0, 1) := by decide +kernel
theorem dX9_isNewOrSamePair_57 : decode cX9_isNewOrSamePair 57 = .ok (.getfield 24, 3) := by decide +kernel
theorem dX9_isNewOrSamePair_60 : decode cX9_isNewOrSamePair 60 = .ok (.iload_n 1, 1) := by decide +kernel
theorem dX9_isNewOrSamePair_61 : decode cX9_isNewOrSamePair 61 = .ok (.iload_n 2, 1) := by decide +kernel
theorem dX9_isNewOrSamePair_62 : decode cX9_isNewOrSamePair 62 = .ok (.iastore, 1) := by decide +kernel
theorem dX9_isNewOrSamePair_63 : decode cX9_isNewOrSamePair 63 = .ok (.iconst 1, 1) := by decide +kernel
theorem dX9_isNewOrSamePair_64 : decode cX9_isNewOrSamePair 64 = .ok (.ireturn, 1) := by decide +kernel
theorem dX9_isFitting_0 : decode cX9_isFitting 0 = .ok (.aload_n 0, 1) := by decide +kernel
theorem dX9_isFitting_1 : decode cX9_isFitting 1 = .ok (.getfield 31, 3) := by decide +kernel
theorem dX9_isFitting_4 : decode cX9_isFitting 4 = .ok (.getfield 127, 3) := by decide +kernel
theorem dX9_isFitting_7 : decode cX9_isFitting 7 = .ok (.iload_n 1, 1) := by decide +kernel
theorem dX9_isFitting_8 : decode cX9_isFitting 8 = .ok (.iaload, 1) := by decide +kernel
theorem dX9_isFitting_9 : decode cX9_isFitting 9 = .ok (.aload_n 0, 1) := by decide +kernel
theorem dX9_isFitting_10 : decode cX9_isFitting 10 = .ok (.getfield 31, 3) := by decide +kernel
theorem dX9_isFitting_13 : decode cX9_isFitting 13 = .ok (.getfield 127, 3) := by decide +kernel
theorem dX9_isFitting_16 : decode cX9_isFitting 16 = .ok (.iload_n 2, 1) := by decide +kernel
theorem dX9_isFitting_17 : decode cX9_isFitting 17 = .ok (.iaload, 1) := by decide +kernel
theorem dX9_isFitting_18 : decode cX9_isFitting 18 = .ok (.if_icmp .eq 5, 3) := by decide +kernel
theorem dX9_isFitting_21 : decode cX9_isFitting 21 = .ok (.iconst 0, 1) := by decide +kernel
theorem dX9_isFitting_22 : decode cX9_isFitting 22 = .ok (.ireturn, 1) := by decide +kernel
theorem dX9_isFitting_23 : decode cX9_isFitting 23 = .ok (.aload_n 0, 1) := by decide +kernel
theorem dX9_isFitting_24 : decode cX9_isFitting 24 = .ok (.getfield 31, 3) := by decide +kernel
theorem dX9_isFitting_27 : decode cX9_isFitting 27 = .ok (.getfield 127, 3) := by decide +kernel
theorem dX9_isFitting_30 : decode cX9_isFitting 30 = .ok (.iload_n 1, 1) := by decide +kernel
theorem dX9_isFitting_31 : decode cX9_isFitting 31 = .ok (.iaload, 1) := by decide +kernel
theorem dX9_isFitting_32 : decode cX9_isFitting 32 = .ok (.iconst 2, 1) := by decide +kernel
theorem dX9_isFitting_33 : decode cX9_isFitting 33 = .ok (.if_icmp .le 14, 3) := by decide +kernel
theorem dX9_isFitting_36 : decode cX9_isFitting 36 = .ok (.iload_n 1, 1) := by decide +kernel
theorem dX9_isFitting_37 : decode cX9_isFitting 37 = .ok (.iload_n 2, 1) := by decide +kernel
theorem dX9_isFitting_38 : decode cX9_isFitting 38 = .ok (.if_icmp .ne 7, 3) := by decide +kernel
theorem dX9_isFitting_41 : decode cX9_isFitting 41 = .ok (.iconst 1, 1) := by decide +kernel
theorem dX9_isFitting_42 : decode cX9_isFitting 42 = .ok (.goto 4, 3) := by decide +kernel
theorem dX9_isFitting_45 : decode cX9_isFitting 45 = .ok (.iconst 0, 1) := by decide +kernel
theorem dX9_isFitting_46 : decode cX9_isFitting 46 = .ok (.ireturn, 1) := by decide +kernel
theorem dX9_isFitting_47 : decode cX9_isFitting 47 = .ok (.aload_n 0, 1) := by decide +kernel
theorem dX9_isFitting_48 : decode cX9_isFitting 48 = .ok (.getfield 31, 3) := by decide +kernel
theorem dX9_isFitting_51 : decode cX9_isFitting 51 = .ok (.getfield 130, 3) := by decide +kernel
theorem dX9_isFitting_54 : decode cX9_isFitting 54 = .ok (.iload_n 1, 1) := by decide +kernel
theorem dX9_isFitting_55 : decode cX9_isFitting 55 = .ok (.iaload, 1) := by decide +kernel
theorem dX9_isFitting_56 : decode cX9_isFitting 56 = .ok (.aload_n 0, 1) := by decide +kernel
theorem dX9_isFitting_57 : decode cX9_isFitting 57 = .ok (.getfield 31, 3) := by decide +kernel
theorem dX9_isFitting_60 : decode cX9_isFitting 60 = .ok (.getfield 130, 3) := by decide +kernel
theorem dX9_isFitting_63 : decode cX9_isFitting 63 = .ok (.iload_n 2, 1) := by decide +kernel
theorem dX9_isFitting_64 : decode cX9_isFitting 64 = .ok (.iaload, 1) := by decide +kernel
theorem dX9_isFitting_65 : decode cX9_isFitting 65 = .ok (.if_icmp .ne 24, 3) := by decide +kernel
theorem dX9_isFitting_68 : decode cX9_isFitting 68 = .ok (.aload_n 0, 1) := by decide +kernel
theorem dX9_isFitting_69 : decode cX9_isFitting 69 = .ok (.getfield 31, 3) := by decide +kernel
theorem dX9_isFitting_72 : decode cX9_isFitting 72 = .ok (.getfield 133, 3) := by decide +kernel
theorem dX9_isFitting_75 : decode cX9_isFitting 75 = .ok (.iload_n 1, 1) := by decide +kernel
theorem dX9_isFitting_76 : decode cX9_isFitting 76 = .ok (.iaload, 1) := by decide +kernel
theorem dX9_isFitting_77 : decode cX9_isFitting 77 = .ok (.aload_n 0, 1) := by decide +kernel
theorem dX9_isFitting_78 : decode cX9_isFitting 78 = .ok (.getfield 31, 3) := by decide +kernel
theorem dX9_isFitting_81 : decode cX9_isFitting 81 = .ok (.getfield 133, 3) := by decide +kernel
theorem dX9_isFitting_84 : decode cX9_isFitting 84 = .ok (.iload_n 2, 1) := by decide +kernel
theorem dX9_isFitting_85 : decode cX9_isFitting 85 = .ok (.iaload, 1) := by decide +kernel
theorem dX9_isFitting_86 : decode cX9_isFitting 86 = .ok (.if_icmp .eq 5, 3) := by decide +kernel
theorem dX9_isFitting_89 : decode cX9_isFitting 89 = .ok (.iconst 0, 1) := by decide +kernel
theorem dX9_isFitting_90 : decode cX9_isFitting 90 = .ok (.ireturn, 1) := by decide +kernel
theorem dX9_isFitting_91 : decode cX9_isFitting 91 = .ok (.iconst 0, 1) := by decide +kernel
theorem dX9_isFitting_92 : decode cX9_isFitting 92 = .ok (.istore_n 3, 1) := by decide +kernel
theorem dX9_isFitting_93 : decode cX9_isFitting 93 = .ok (.iload_n 3, 1) := by decide +kernel
theorem dX9_isFitting_94 : decode cX9_isFitting 94 = .ok (.aload_n 0, 1) := by decide +kernel
theorem dX9_isFitting_95 : decode cX9_isFitting 95 = .ok (.getfield 31, 3) := by decide +kernel
theorem dX9_isFitting_98 : decode cX9_isFitting 98 = .ok (.iload_n 1, 1) := by decide +kernel
theorem dX9_isFitting_99 : decode cX9_isFitting 99 = .ok (.invokevirtual 136, 3) := by decide +kernel
theorem dX9_isFitting_102 : decode cX9_isFitting 102 = .ok (.if_icmp .ge 98, 3) := by decide +kernel
theorem dX9_isFitting_105 : decode cX9_isFitting 105 = .ok (.aload_n 0, 1) := by decide +kernel
theorem dX9_isFitting_106 : decode cX9_isFitting 106 = .ok (.getfield 31, 3) := by decide +kernel
theorem dX9_isFitting_109 : decode cX9_isFitting 109 = .ok (.getfield 56, 3) := by decide +kernel
theorem dX9_isFitting_112 : decode cX9_isFitting 112 = .ok (.aload_n 0, 1) := by decide +kernel
theorem dX9_isFitting_113 : decode cX9_isFitting 113 = .ok (.getfield 31, 3) := by decide +kernel
theorem dX9_isFitting_116 : decode cX9_isFitting 116 = .ok (.getfield 104, 3) := by decide +kernel
theorem dX9_isFitting_119 : decode cX9_isFitting 119 = .ok (.iload_n 1, 1) := by decide +kernel
theorem dX9_isFitting_120 : decode cX9_isFitting 120 = .ok (.iaload, 1) := by decide +kernel
theorem dX9_isFitting_121 : decode cX9_isFitting 121 = .ok (.iload_n 3, 1) := by decide +kernel
theorem dX9_isFitting_122 : decode cX9_isFitting 122 = .ok (.iadd, 1) := by decide +kernel
theorem dX9_isFitting_123 : decode cX9_isFitting 123 = .ok (.iaload, 1) := by decide +kernel
theorem dX9_isFitting_124 : decode cX9_isFitting 124 = .ok (.istore 4, 2) := by decide +kernel
theorem dX9_isFitting_126 : decode cX9_isFitting 126 = .ok (.aload_n 0, 1) := by decide +kernel
theorem dX9_isFitting_127 : decode cX9_isFitting 127 = .ok (.getfield 31, 3) := by decide +kernel
theorem dX9_isFitting_130 : decode cX9_isFitting 130 = .ok (.getfield 56, 3) := by decide +kernel
theorem dX9_isFitting_133 : decode cX9_isFitting 133 = .ok (.aload_n 0, 1) := by decide +kernel
theorem dX9_isFitting_134 : decode cX9_isFitting 134 = .ok (.getfield 31, 3) := by decide +kernel
theorem dX9_isFitting_137 : decode cX9_isFitting 137 = .ok (.getfield 104, 3) := by decide +kernel
theorem dX9_isFitting_140 : decode cX9_isFitting 140 = .ok (.iload_n 2, 1) := by decide +kernel
theorem dX9_isFitting_141 : decode cX9_isFitting 141 = .ok (.iaload, 1) := by decide +kernel
theorem dX9_isFitting_142 : decode cX9_isFitting 142 = .ok (.iload_n 3, 1) := by decide +kernel
theorem dX9_isFitting_143 : decode cX9_isFitting 143 = .ok (.iadd, 1) := by decide +kernel
theorem dX9_isFitting_144 : decode cX9_isFitting 144 = .ok (.iaload, 1) := by decide +kernel
theorem dX9_isFitting_145 : decode cX9_isFitting 145 = .ok (.istore 5, 2) := by decide +kernel
theorem dX9_isFitting_147 : decode cX9_isFitting 147 = .ok (.iload_n 3, 1) := by decide +kernel
theorem dX9_isFitting_148 : decode cX9_isFitting 148 = .ok (.aload_n 0, 1) := by decide +kernel
theorem dX9_isFitting_149 : decode cX9_isFitting 149 = .ok (.getfield 31, 3) := by decide +kernel
theorem dX9_isFitting_152 : decode cX9_isFitting 152 = .ok (.iload_n 1, 1) := by decide +kernel
theorem dX9_isFitting_153 : decode cX9_isFitting 153 = .ok (.invokevirtual 101, 3) := by decide +kernel
theorem dX9_isFitting_156 : decode cX9_isFitting 156 = .ok (.if_icmp .ge 7, 3) := by decide +kernel
theorem dX9_isFitting_159 : decode cX9_isFitting 159 = .ok (.iconst 1, 1) := by decide +kernel
theorem dX9_isFitting_160 : decode cX9_isFitting 160 = .ok (.goto 4, 3) := by decide +kernel
theorem dX9_isFitting_163 : decode cX9_isFitting 163 = .ok (.iconst 0, 1) := by decide +kernel
theorem dX9_isFitting_164 : decode cX9_isFitting 164 = .ok (.istore 6, 2) := by decide +kernel
theorem dX9_isFitting_166 : decode cX9_isFitting 166 = .ok (.iload 6, 2) := by decide +kernel
theorem dX9_isFitting_168 : decode cX9_isFitting 168 = .ok (.ifCond .eq 17, 3) := by decide +kernel
theorem dX9_isFitting_171 : decode cX9_isFitting 171 = .ok (.aload_n 0, 1) := by decide +kernel
theorem dX9_isFitting_172 : decode cX9_isFitting 172 = .ok (.iload 4, 2) := by decide +kernel
theorem dX9_isFitting_174 : decode cX9_isFitting 174 = .ok (.iload 5, 2) := by decide +kernel
theorem dX9_isFitting_176 : decode cX9_isFitting 176 = .ok (.invokevirtual 139, 3) := by decide +kernel
theorem dX9_isFitting_179 : decode cX9_isFitting 179 = .ok (.ifCond .ne 15, 3) := by decide +kernel
theorem dX9_isFitting_182 : decode cX9_isFitting 182 = .ok (.goto 10, 3) := by decide +kernel
theorem dX9_isFitting_185 : decode cX9_isFitting 185 = .ok (.iload 4, 2) := by decide +kernel
theorem dX9_isFitting_187 : decode cX9_isFitting 187 = .ok (.iload 5, 2) := by decide +kernel
theorem dX9_isFitting_189 : decode cX9_isFitting 189 = .ok (.if_icmp .eq 5, 3) := by decide +kernel
theorem dX9_isFitting_192 : decode cX9_isFitting 192 = .ok (.iconst 0, 1) := by decide +kernel
theorem dX9_isFitting_193 : decode cX9_isFitting 193 = .ok (.ireturn, 1) := by decide +kernel
theorem dX9_isFitting_194 : decode cX9_isFitting 194 = .ok (.iinc 3 1, 3) := by decide +kernel
theorem dX9_isFitting_197 : decode cX9_isFitting 197 = .ok (.goto (-104), 3) := by decide +kernel
theorem dX9_isFitting_200 : decode cX9_isFitting 200 = .ok (.iconst 1, 1) := by decide +kernel
theorem dX9_isFitting_201 : decode cX9_isFitting 201 = .ok (.ireturn, 1) := by decide +kernel
theorem dX9_isFittingField_0 : decode cX9_isFittingField 0 = .ok (.iload_n 1, 1) := by decide +kernel
theorem dX9_isFittingField_1 : decode cX9_isFittingField 1 = .ok (.iconst (-1), 1) := by decide +kernel
theorem dX9_isFittingField_2 : decode cX9_isFittingField 2 = .ok (.if_icmp .eq 8, 3) := by decide +kernel
theorem dX9_isFittingField_5 : decode cX9_isFittingField 5 = .ok (.iload_n 2, 1) := by decide +kernel
theorem dX9_isFittingField_6 : decode cX9_isFittingField 6 = .ok (.iconst (-1), 1) := by decide +kernel
theorem dX9_isFittingField_7 : decode cX9_isFittingField 7 = .ok (.if_icmp .ne 14, 3) := by decide +kernel
theorem dX9_isFittingField_10 : decode cX9_isFittingField 10 = .ok (.iload_n 1, 1) := by decide +kernel
theorem dX9_isFittingField_11 : decode cX9_isFittingField 11 = .ok (.iload_n 2, 1) := by decide +kernel
theorem dX9_isFittingField_12 : decode cX9_isFittingField 12 = .ok (.if_icmp .ne 7, 3) := by decide +kernel
theorem dX9_isFittingField_15 : decode cX9_isFittingField 15 = .ok (.iconst 1, 1) := by decide +kernel
theorem dX9_isFittingField_16 : decode cX9_isFittingField 16 = .ok (.goto 4, 3) := by decide +kernel
theorem dX9_isFittingField_19 : decode cX9_isFittingField 19 = .ok (.iconst 0, 1) := by decide +kernel
theorem dX9_isFittingField_20 : decode cX9_isFittingField 20 = .ok (.ireturn, 1) := by decide +kernel
theorem dX9_isFittingField_21 : decode cX9_isFittingField 21 = .ok (.aload_n 0, 1) := by decide +kernel
theorem dX9_isFittingField_22 : decode cX9_isFittingField 22 = .ok (.iload_n 1, 1) := by decide +kernel
theorem dX9_isFittingField_23 : decode cX9_isFittingField 23 = .ok (.iload_n 2, 1) := by decide +kernel
theorem dX9_isFittingField_24 : decode cX9_isFittingField 24 = .ok (.invokevirtual 120, 3) := by decide +kernel
theorem dX9_isFittingField_27 : decode cX9_isFittingField 27 = .ok (.ireturn, 1) := by decide +kernel
theorem dX10_init_0 : decode cX10_init 0 = .ok (.aload_n 0, 1) := by decide +kernel
theorem dX10_init_1 : decode cX10_init 1 = .ok (.invokespecial 3, 3) := by decide +kernel
theorem dX10_init_4 : decode cX10_init 4 = .ok (.aload_n 0, 1) := by decide +kernel
theorem dX10_init_5 : decode cX10_init 5 = .ok (.sipush 208, 3) := by decide +kernel
theorem dX10_init_8 : decode cX10_init 8 = .ok (.newarray .int, 2) := by decide +kernel
theorem dX10_init_10 : decode cX10_init 10 = .ok (.putfield 9, 3) := by decide +kernel
theorem dX10_init_13 : decode cX10_init 13 = .ok (.aload_n 0, 1) := by decide +kernel
theorem dX10_init_14 : decode cX10_init 14 = .ok (.sipush 208, 3) := by decide +kernel
theorem dX10_init_17 : decode cX10_init 17 = .ok (.newarray .int, 2) := by decide +kernel
theorem dX10_init_19 : decode cX10_init 19 = .ok (.putfield 15, 3) := by decide +kernel
theorem dX10_init_22 : decode cX10_init 22 = .ok (.aload_n 0, 1) := by decide +kernel
theorem dX10_init_23 : decode cX10_init 23 = .ok (.sipush 208, 3) := by decide +kernel
theorem dX10_init_26 : decode cX10_init 26 = .ok (.newarray .int, 2) := by decide +kernel
theorem dX10_init_28 : decode cX10_init 28 = .ok (.putfield 18, 3) := by decide +kernel
theorem dX10_init_31 : decode cX10_init 31 = .ok (.aload_n 0, 1) := by decide +kernel
theorem dX10_init_32 : decode cX10_init 32 = .ok (.sipush 208, 3) := by decide +kernel
theorem dX10_init_35 : decode cX10_init 35 = .ok (.newarray .int, 2) := by decide +kernel
theorem dX10_init_37 : decode cX10_init 37 = .ok (.putfield 21, 3) := by decide +kernel
theorem dX10_init_40 : decode cX10_init 40 = .ok (.aload_n 0, 1) := by decide +kernel
theorem dX10_init_41 : decode cX10_init 41 = .ok (.sipush 208, 3) := by decide +kernel
theorem dX10_init_44 : decode cX10_init 44 = .ok (.newarray .int, 2) := by decide +kernel
theorem dX10_init_46 : decode cX10_init 46 = .ok (.putfield 24, 3) := by decide +kernel
theorem dX10_init_49 : decode cX10_init 49 = .ok (.aload_n 0, 1) := by decide +kernel
theorem dX10_init_50 : decode cX10_init 50 = .ok (.sipush 208, 3) := by decide +kernel
theorem dX10_init_53 : decode cX10_init 53 = .ok (.newarray .int, 2) := by decide +kernel
theorem dX10_init_55 : decode cX10_init 55 = .ok (.putfield 27, 3) := by decide +kernel
theorem dX10_init_58 : decode cX10_init 58 = .ok (.aload_n 0, 1) := by decide +kernel
theorem dX10_init_59 : decode cX10_init 59 = .ok (.sipush 208, 3) := by decide +kernel
theorem dX10_init_62 : decode cX10_init 62 = .ok (.newarray .int, 2) := by decide +kernel
theorem dX10_init_64 : decode cX10_init 64 = .ok (.putfield 30, 3) := by decide +kernel
theorem dX10_init_67 : decode cX10_init 67 = .ok (.aload_n 0, 1) := by decide +kernel
theorem dX10_init_68 : decode cX10_init 68 = .ok (.sipush 208, 3) := by decide +kernel
theorem dX10_init_71 : decode cX10_init 71 = .ok (.newarray .boolean, 2) := by decide +kernel
theorem dX10_init_73 : decode cX10_init 73 = .ok (.putfield 33, 3) := by decide +kernel
theorem dX10_init_76 : decode cX10_init 76 = .ok (.aload_n 0, 1) := by decide +kernel
theorem dX10_init_77 : decode cX10_init 77 = .ok (.sipush 208, 3) := by decide +kernel
theorem dX10_init_80 : decode cX10_init 80 = .ok (.newarray .boolean, 2) := by decide +kernel
theorem dX10_init_82 : decode cX10_init 82 = .ok (.putfield 37, 3) := by decide +kernel
theorem dX10_init_85 : decode cX10_init 85 = .ok (.aload_n 0, 1) := by decide +kernel
theorem dX10_init_86 : decode cX10_init 86 = .ok (.sipush 208, 3) := by decide +kernel
theorem dX10_init_89 : decode cX10_init 89 = .ok (.newarray .boolean, 2) := by decide +kernel
theorem dX10_init_91 : decode cX10_init 91 = .ok (.putfield 40, 3) := by decide +kernel
theorem dX10_init_94 : decode cX10_init 94 = .ok (.aload_n 0, 1) := by decide +kernel
theorem dX10_init_95 : decode cX10_init 95 = .ok (.sipush 208, 3) := by decide +kernel
theorem dX10_init_98 : decode cX10_init 98 = .ok (.newarray .boolean, 2) := by decide +kernel
theorem dX10_init_100 : decode cX10_init 100 = .ok (.putfield 43, 3) := by decide +kernel
theorem dX10_init_103 : decode cX10_init 103 = .ok (.aload_n 0, 1) := by decide +kernel
theorem dX10_init_104 : decode cX10_init 104 = .ok (.sipush 1664, 3) := by decide +kernel
theorem dX10_init_107 : decode cX10_init 107 = .ok (.newarray .int, 2) := by decide +kernel
theorem dX10_init_109 : decode cX10_init 109 = .ok (.putfield 46, 3) := by decide +kernel
theorem dX10_init_112 : decode cX10_init 112 = .ok (.aload_n 0, 1) := by decide +kernel
theorem dX10_init_113 : decode cX10_init 113 = .ok (.sipush 208, 3) := by decide +kernel
theorem dX10_init_116 : decode cX10_init 116 = .ok (.newarray .int, 2) := by decide +kernel
theorem dX10_init_118 : decode cX10_init 118 = .ok (.putfield 49, 3) := by decide +kernel
theorem dX10_init_121 : decode cX10_init 121 = .ok (.aload_n 0, 1) := by decide +kernel
theorem dX10_init_122 : decode cX10_init 122 = .ok (.sipush 208, 3) := by decide +kernel
theorem dX10_init_125 : decode cX10_init 125 = .ok (.newarray .int, 2) := by decide +kernel
theorem dX10_init_127 : decode cX10_init 127 = .ok (.putfield 52, 3) := by decide +kernel
theorem dX10_init_130 : decode cX10_init 130 = .ok (.aload_n 0, 1) := by decide +kernel
theorem dX10_init_131 : decode cX10_init 131 = .ok (.aload_n 1, 1) := by decide +kernel
theorem dX10_init_132 : decode cX10_init 132 = .ok (.putfield 55, 3) := by decide +kernel
theorem dX10_init_135 : decode cX10_init 135 = .ok (.iconst 0, 1) := by decide +kernel
theorem dX10_init_136 : decode cX10_init 136 = .ok (.istore_n 2, 1) := by decide +kernel
theorem dX10_init_137 : decode cX10_init 137 = .ok (.iload_n 2, 1) := by decide +kernel
theorem dX10_init_138 : decode cX10_init 138 = .ok (.sipush 208, 3) := by decide +kernel
theorem dX10_init_141 : decode cX10_init 141 = .ok (.if_icmp .ge 16, 3) := by decide +kernel
theorem dX10_init_144 : decode cX10_init 144 = .ok (.aload_n 0, 1) := by decide +kernel
theorem dX10_init_145 : decode cX10_init 145 = .ok (.getfield 49, 3) := by decide +kernel
theorem dX10_init_148 : decode cX10_init 148 = .ok (.iload_n 2, 1) := by decide +kernel
theorem dX10_init_149 : decode cX10_init 149 = .ok (.iload_n 2, 1) := by decide +kernel
theorem dX10_init_150 : decode cX10_init 150 = .ok (.iastore, 1) := by decide +kernel
theorem dX10_init_151 : decode cX10_init 151 = .ok (.iinc 2 1, 3) := by decide +kernel
theorem dX10_init_154 : decode cX10_init 154 = .ok (.goto (-17), 3) := by decide +kernel
theorem dX10_init_157 : decode cX10_init 157 = .ok (.return_, 1) := by decide +kernel
theorem dX10_sizeFor_0 : decode cX10_sizeFor 0 = .ok (.iload_n 1, 1) := by decide +kernel
theorem dX10_sizeFor_1 : decode cX10_sizeFor 1 = .ok (.ifCond .ne 30, 3) := by decide +kernel
theorem dX10_sizeFor_4 : decode cX10_sizeFor 4 = .ok (.aload_n 0, 1) := by decide +kernel
theorem dX10_sizeFor_5 : decode cX10_sizeFor 5 = .ok (.getfield 55, 3) := by decide +kernel
theorem dX10_sizeFor_8 : decode cX10_sizeFor 8 = .ok (.iload_n 2, 1) := by decide +kernel
theorem dX10_sizeFor_9 : decode cX10_sizeFor 9 = .ok (.invokevirtual 59, 3) := by decide +kernel
theorem dX10_sizeFor_12 : decode cX10_sizeFor 12 = .ok (.ifCond .eq 17, 3) := by decide +kernel
theorem dX10_sizeFor_15 : decode cX10_sizeFor 15 = .ok (.iload_n 3, 1) := by decide +kernel
theorem dX10_sizeFor_16 : decode cX10_sizeFor 16 = .ok (.aload_n 0, 1) := by decide +kernel
theorem dX10_sizeFor_17 : decode cX10_sizeFor 17 = .ok (.getfield 55, 3) := by decide +kernel
theorem dX10_sizeFor_20 : decode cX10_sizeFor 20 = .ok (.getfield 65, 3) := by decide +kernel
theorem dX10_sizeFor_23 : decode cX10_sizeFor 23 = .ok (.iload_n 2, 1) := by decide +kernel
theorem dX10_sizeFor_24 : decode cX10_sizeFor 24 = .ok (.iaload, 1) := by decide +kernel
theorem dX10_sizeFor_25 : decode cX10_sizeFor 25 = .ok (.iadd, 1) := by decide +kernel
theorem dX10_sizeFor_26 : decode cX10_sizeFor 26 = .ok (.goto 4, 3) := by decide +kernel
theorem dX10_sizeFor_29 : decode cX10_sizeFor 29 = .ok (.iload_n 3, 1) := by decide +kernel
theorem dX10_sizeFor_30 : decode cX10_sizeFor 30 = .ok (.ireturn, 1) := by decide +kernel
theorem dX10_sizeFor_31 : decode cX10_sizeFor 31 = .ok (.iload_n 1, 1) := by decide +kernel
theorem dX10_sizeFor_32 : decode cX10_sizeFor 32 = .ok (.bipush 6, 2) := by decide +kernel
theorem dX10_sizeFor_34 : decode cX10_sizeFor 34 = .ok (.if_icmp .ne 9, 3) := by decide +kernel
theorem dX10_sizeFor_37 : decode cX10_sizeFor 37 = .ok (.iconst 2, 1) := by decide +kernel
theorem dX10_sizeFor_38 : decode cX10_sizeFor 38 = .ok (.iload_n 3, 1) := by decide +kernel
theorem dX10_sizeFor_39 : decode cX10_sizeFor 39 = .ok (.imul, 1) := by decide +kernel
theorem dX10_sizeFor_40 : decode cX10_sizeFor 40 = .ok (.goto 4, 3) := by decide +kernel
theorem dX10_sizeFor_43 : decode cX10_sizeFor 43 = .ok (.iload_n 3, 1) := by decide +kernel
theorem dX10_sizeFor_44 : decode cX10_sizeFor 44 = .ok (.ireturn, 1) := by decide +kernel
theorem dX10_add_0 : decode cX10_add 0 = .ok (.aload_n 0, 1) := by decide +kernel
theorem dX10_add_1 : decode cX10_add 1 = .ok (.iload_n 1, 1) := by decide +kernel
theorem dX10_add_2 : decode cX10_add 2 = .ok (.iload_n 2, 1) := by decide +kernel
theorem dX10_add_3 : decode cX10_add 3 = .ok (.iload_n 3, 1) := by decide +kernel
theorem dX10_add_4 : decode cX10_add 4 = .ok (.invokevirtual 66, 3) := by decide +kernel
theorem dX10_add_7 : decode cX10_add 7 = .ok (.istore 5, 2) := by decide +kernel
theorem dX10_add_9 : decode cX10_add 9 = .ok (.aload_n 0, 1) := by decide +kernel
theorem dX10_add_10 : decode cX10_add 10 = .ok (.getfield 70, 3) := by decide +kernel
theorem dX10_add_13 : decode cX10_add 13 = .ok (.sipush 208, 3) := by decide +kernel
theorem dX10_add_16 : decode cX10_add 16 = .ok (.if_icmp .ge 21, 3) := by decide +kernel
theorem dX10_add_19 : decode cX10_add 19 = .ok (.iload 5, 2) := by decide +kernel
theorem dX10_add_21 : decode cX10_add 21 = .ok (.ifCond .lt 16, 3) := by decide +kernel
theorem dX10_add_24 : decode cX10_add 24 = .ok (.aload_n 0, 1) := by decide +kernel
theorem dX10_add_25 : decode cX10_add 25 = .ok (.getfield 74, 3) := by decide +kernel
theorem dX10_add_28 : decode cX10_add 28 = .ok (.iload 5, 2) := by decide +kernel
theorem dX10_add_30 : decode cX10_add 30 = .ok (.iadd, 1) := by decide +kernel
theorem dX10_add_31 : decode cX10_add 31 = .ok (.sipush 1664, 3) := by decide +kernel
theorem dX10_add_34 : decode cX10_add 34 = .ok (.if_icmp .le 5, 3) := by decide +kernel
theorem dX10_add_37 : decode cX10_add 37 = .ok (.iconst (-1), 1) := by decide +kernel
theorem dX10_add_38 : decode cX10_add 38 = .ok (.ireturn, 1) := by decide +kernel
theorem dX10_add_39 : decode cX10_add 39 = .ok (.aload_n 0, 1) := by decide +kernel
theorem dX10_add_40 : decode cX10_add 40 = .ok (.getfield 49, 3) := by decide +kernel
theorem dX10_add_43 : decode cX10_add 43 = .ok (.aload_n 0, 1) := by decide +kernel
theorem dX10_add_44 : decode cX10_add 44 = .ok (.getfield 70, 3) := by decide +kernel
theorem dX10_add_47 : decode cX10_add 47 = .ok (.iaload, 1) := by decide +kernel
theorem dX10_add_48 : decode cX10_add 48 = .ok (.istore 6, 2) := by decide +kernel
theorem dX10_add_50 : decode cX10_add 50 = .ok (.aload_n 0, 1) := by decide +kernel
theorem dX10_add_51 : decode cX10_add 51 = .ok (.dup, 1) := by decide +kernel
theorem dX10_add_52 : decode cX10_add 52 = .ok (.getfield 70, 3) := by decide +kernel
theorem dX10_add_55 : decode cX10_add 55 = .ok (.iconst 1, 1) := by decide +kernel
theorem dX10_add_56 : decode cX10_add 56 = .ok (.iadd, 1) := by decide +kernel
theorem dX10_add_57 : decode cX10_add 57 = .ok (.putfield 70, 3) := by decide +kernel
theorem dX10_add_60 : decode cX10_add 60 = .ok (.aload_n 0, 1) := by decide +kernel
theorem dX10_add_61 : decode cX10_add 61 = .ok (.getfield 9, 3) := by decide +kernel
theorem dX10_add_64 : decode cX10_add 64 = .ok (.iload 6, 2) := by decide +kernel
theorem dX10_add_66 : decode cX10_add 66 = .ok (.aload_n 0, 1) := by decide +kernel
theorem dX10_add_67 : decode cX10_add 67 = .ok (.getfield 77, 3) := by decide +kernel
theorem dX10_add_70 : decode cX10_add 70 = .ok (.iastore, 1) := by decide +kernel
theorem dX10_add_71 : decode cX10_add 71 = .ok (.aload_n 0, 1) := by decide +kernel
theorem dX10_add_72 : decode cX10_add 72 = .ok (.dup, 1) := by decide +kernel
theorem dX10_add_73 : decode cX10_add 73 = .ok (.getfield 77, 3) := by decide +kernel
theorem dX10_add_76 : decode cX10_add 76 = .ok (.iconst 1, 1) := by decide +kernel
theorem dX10_add_77 : decode cX10_add 77 = .ok (.iadd, 1) := by decide +kernel
theorem dX10_add_78 : decode cX10_add 78 = .ok (.putfield 77, 3) := by decide +kernel
theorem dX10_add_81 : decode cX10_add 81 = .ok (.aload_n 0, 1) := by decide +kernel
theorem dX10_add_82 : decode cX10_add 82 = .ok (.getfield 15, 3) := by decide +kernel
theorem dX10_add_85 : decode cX10_add 85 = .ok (.iload 6, 2) := by decide +kernel
theorem dX10_add_87 : decode cX10_add 87 = .ok (.iload_n 1, 1) := by decide +kernel
theorem dX10_add_88 : decode cX10_add 88 = .ok (.iastore, 1) := by decide +kernel
theorem dX10_add_89 : decode cX10_add 89 = .ok (.aload_n 0, 1) := by decide +kernel
theorem dX10_add_90 : decode cX10_add 90 = .ok (.getfield 18, 3) := by decide +kernel
theorem dX10_add_93 : decode cX10_add 93 = .ok (.iload 6, 2) := by decide +kernel
theorem dX10_add_95 : decode cX10_add 95 = .ok (.iload_n 2, 1) := by decide +kernel
theorem dX10_add_96 : decode cX10_add 96 = .ok (.iastore, 1) := by decide +kernel
theorem dX10_add_97 : decode cX10_add 97 = .ok (.aload_n 0, 1) := by decide +kernel
theorem dX10_add_98 : decode cX10_add 98 = .ok (.getfield 21, 3) := by decide +kernel
theorem dX10_add_101 : decode cX10_add 101 = .ok (.iload 6, 2) := by decide +kernel
theorem dX10_add_103 : decode cX10_add 103 = .ok (.iload_n 3, 1) := by decide +kernel
theorem dX10_add_104 : decode cX10_add 104 = .ok (.iastore, 1) := by decide +kernel
theorem dX10_add_105 : decode cX10_add 105 = .ok (.aload_n 0, 1) := by decide +kernel
theorem dX10_add_106 : decode cX10_add 106 = .ok (.getfield 24, 3) := by decide +kernel
theorem dX10_add_109 : decode cX10_add 109 = .ok (.iload 6, 2) := by decide +kernel
theorem dX10_add_111 : decode cX10_add 111 = .ok (.iload_n 1, 1) := by decide +kernel
theorem dX10_add_112 : decode cX10_add 112 = .ok (.iload 5, 2) := by decide +kernel
theorem dX10_add_114 : decode cX10_add 114 = .ok (.invokestatic 80, 3) := by decide +kernel
theorem dX10_add_117 : decode cX10_add 117 = .ok (.iastore, 1) := by decide +kernel
theorem dX10_add_118 : decode cX10_add 118 = .ok (.aload_n 0, 1) := by decide +kernel
theorem dX10_add_119 : decode cX10_add 119 = .ok (.getfield 27, 3) := by decide +kernel
theorem dX10_add_122 : decode cX10_add 122 = .ok (.iload 6, 2) := by decide +kernel
theorem dX10_add_124 : decode cX10_add 124 = .ok (.aload_n 0, 1) := by decide +kernel
theorem dX10_add_125 : decode cX10_add 125 = .ok (.getfield 74, 3) := by decide +kernel
theorem dX10_add_128 : decode cX10_add 128 = .ok (.iastore, 1) := by decide +kernel
theorem dX10_add_129 : decode cX10_add 129 = .ok (.aload_n 0, 1) := by decide +kernel
theorem dX10_add_130 : decode cX10_add 130 = .ok (.getfield 30, 3) := by decide +kernel
theorem dX10_add_133 : decode cX10_add 133 = .ok (.iload 6, 2) := by decide +kernel
theorem dX10_add_135 : decode cX10_add 135 = .ok (.iconst 0, 1) := by decide +kernel
theorem dX10_add_136 : decode cX10_add 136 = .ok (.iastore, 1) := by decide +kernel
theorem dX10_add_137 : decode cX10_add 137 = .ok (.aload_n 0, 1) := by decide +kernel
theorem dX10_add_138 : decode cX10_add 138 = .ok (.getfield 33, 3) := by decide +kernel
theorem dX10_add_141 : decode cX10_add 141 = .ok (.iload 6, 2) := by decide +kernel
theorem dX10_add_143 : decode cX10_add 143 = .ok (.iload 4, 2) := by decide +kernel
theorem dX10_add_145 : decode cX10_add 145 = .ok (.bastore, 1) := by decide +kernel
theorem dX10_add_146 : decode cX10_add 146 = .ok (.aload_n 0, 1) := by decide +kernel
theorem dX10_add_147 : decode cX10_add 147 = .ok (.getfield 37, 3) := by decide +kernel
theorem dX10_add_150 : decode cX10_add 150 = .ok (.iload 6, 2) := by decide +kernel
theorem dX10_add_152 : decode cX10_add 152 = .ok (.iconst 0, 1) := by decide +kernel
theorem dX10_add_153 : decode cX10_add 153 = .ok (.bastore, 1) := by decide +kernel
theorem dX10_add_154 : decode cX10_add 154 = .ok (.aload_n 0, 1) := by decide +kernel
theorem dX10_add_155 : decode cX10_add 155 = .ok (.getfield 40, 3) := by decide +kernel
theorem dX10_add_158 : decode cX10_add 158 = .ok (.iload 6, 2) := by decide +kernel
theorem dX10_add_160 : decode cX10_add 160 = .ok (.iconst 0, 1) := by decide +kernel
theorem dX10_add_161 : decode cX10_add 161 = .ok (.bastore, 1) := by decide +kernel
theorem dX10_add_162 : decode cX10_add 162 = .ok (.iconst 0, 1) := by decide +kernel
theorem dX10_add_163 : decode cX10_add 163 = .ok (.istore 7, 2) := by decide +kernel
theorem dX10_add_165 : decode cX10_add 165 = .ok (.iload 7, 2) := by decide +kernel
theorem dX10_add_167 : decode cX10_add 167 = .ok (.iload 5, 2) := by decide +kernel
theorem dX10_add_169 : decode cX10_add 169 = .ok (.if_icmp .ge 41, 3) := by decide +kernel
theorem dX10_add_172 : decode cX10_add 172 = .ok (.aload_n 0, 1) := by decide +kernel
theorem dX10_add_173 : decode cX10_add 173 = .ok (.getfield 46, 3) := by decide +kernel
theorem dX10_add_176 : decode cX10_add 176 = .ok (.aload_n 0, 1) := by decide +kernel
theorem dX10_add_177 : decode cX10_add 177 = .ok (.getfield 74, 3) := by decide +kernel
theorem dX10_add_180 : decode cX10_add 180 = .ok (.iload 7, 2) := by decide +kernel
theorem dX10_add_182 : decode cX10_add 182 = .ok (.iadd, 1) := by decide +kernel
theorem dX10_add_183 : decode cX10_add 183 = .ok (.iload_n 1, 1) := by decide +kernel
theorem dX10_add_184 : decode cX10_add 184 = .ok (.iconst 2, 1) := by decide +kernel
theorem dX10_add_185 : decode cX10_add 185 = .ok (.if_icmp .eq 13, 3) := by decide +kernel
theorem dX10_add_188 : decode cX10_add 188 = .ok (.iload_n 1, 1) := by decide +kernel
theorem dX10_add_189 : decode cX10_add 189 = .ok (.ifCond .ne 13, 3) := by decide +kernel
theorem dX10_add_192 : decode cX10_add 192 = .ok (.iload 7, 2) := by decide +kernel
theorem dX10_add_194 : decode cX10_add 194 = .ok (.iload_n 3, 1) := by decide +kernel
theorem dX10_add_195 : decode cX10_add 195 = .ok (.if_icmp .lt 7, 3) := by decide +kernel
theorem dX10_add_198 : decode cX10_add 198 = .ok (.iconst 0, 1) := by decide +kernel
theorem dX10_add_199 : decode cX10_add 199 = .ok (.goto 4, 3) := by decide +kernel
theorem dX10_add_202 : decode cX10_add 202 = .ok (.iconst (-1), 1) := by decide +kernel
theorem dX10_add_203 : decode cX10_add 203 = .ok (.iastore, 1) := by decide +kernel
theorem dX10_add_204 : decode cX10_add 204 = .ok (.iinc 7 1, 3) := by decide +kernel
theorem dX10_add_207 : decode cX10_add 207 = .ok (.goto (-42), 3) := by decide +kernel
theorem dX10_add_210 : decode cX10_add 210 = .ok (.aload_n 0, 1) := by decide +kernel
theorem dX10_add_211 : decode cX10_add 211 = .ok (.dup, 1) := by decide +kernel
theorem dX10_add_212 : decode cX10_add 212 = .ok (.getfield 74, 3) := by decide +kernel
theorem dX10_add_215 : decode cX10_add 215 = .ok (.iload 5, 2) := by decide +kernel
theorem dX10_add_217 : decode cX10_add 217 = .ok (.iadd, 1) := by decide +kernel
theorem dX10_add_218 : decode cX10_add 218 = .ok (.putfield 74, 3) := by decide +kernel
theorem dX10_add_221 : decode cX10_add 221 = .ok (.aload_n 0, 1) := by decide +kernel
theorem dX10_add_222 : decode cX10_add 222 = .ok (.iload 4, 2) := by decide +kernel
theorem dX10_add_224 : decode cX10_add 224 = .ok (.aload_n 0, 1) := by decide +kernel
theorem dX10_add_225 : decode cX10_add 225 = .ok (.getfield 24, 3) := by decide +kernel
theorem dX10_add_228 : decode cX10_add 228 = .ok (.iload 6, 2) := by decide +kernel
theorem dX10_add_230 : decode cX10_add 230 = .ok (.iaload, 1) := by decide +kernel
theorem dX10_add_231 : decode cX10_add 231 = .ok (.invokevirtual 84, 3) := by decide +kernel
theorem dX10_add_234 : decode cX10_add 234 = .ok (.iload 6, 2) := by decide +kernel
theorem dX10_add_236 : decode cX10_add 236 = .ok (.ireturn, 1) := by decide +kernel
theorem dX10_addWords_0 : decode cX10_addWords 0 = .ok (.iload_n 1, 1) := by decide +kernel
theorem dX10_addWords_1 : decode cX10_addWords 1 = .ok (.ifCond .eq 16, 3) := by decide +kernel
theorem dX10_addWords_4 : decode cX10_addWords 4 = .ok (.aload_n 0, 1) := by decide +kernel
theorem dX10_addWords_5 : decode cX10_addWords 5 = .ok (.dup, 1) := by decide +kernel
theorem dX10_addWords_6 : decode cX10_addWords 6 = .ok (.getfield 88, 3) := by decide +kernel
theorem dX10_addWords_9 : decode cX10_addWords 9 = .ok (.iload_n 2, 1) := by decide +kernel
theorem dX10_addWords_10 : decode cX10_addWords 10 = .ok (.iadd, 1) := by decide +kernel
theorem dX10_addWords_11 : decode cX10_addWords 11 = .ok (.putfield 88, 3) := by decide +kernel
theorem dX10_addWords_14 : decode cX10_addWords 14 = .ok (.goto 13, 3) := by decide +kernel
theorem dX10_addWords_17 : decode cX10_addWords 17 = .ok (.aload_n 0, 1) := by decide +kernel
theorem dX10_addWords_18 : decode cX10_addWords 18 = .ok (.dup, 1) := by decide +kernel
theorem dX10_addWords_19 : decode cX10_addWords 19 = .ok (.getfield 91, 3) := by decide +kernel
theorem dX10_addWords_22 : decode cX10_addWords 22 = .ok (.iload_n 2, 1) := by decide +kernel
theorem dX10_addWords_23 : decode cX10_addWords 23 = .ok (.iadd, 1) := by decide +kernel
theorem dX10_addWords_24 : decode cX10_addWords 24 = .ok (.putfield 91, 3) := by decide +kernel
theorem dX10_addWords_27 : decode cX10_addWords 27 = .ok (.return_, 1) := by decide +kernel
theorem dX10_nameOf_0 : decode cX10_nameOf 0 = .ok (.iload_n 1, 1) := by decide +kernel
theorem dX10_nameOf_1 : decode cX10_nameOf 1 = .ok (.iconst (-1), 1) := by decide +kernel
theorem dX10_nameOf_2 : decode cX10_nameOf 2 = .ok (.if_icmp .ne 7, 3) := by decide +kernel
theorem dX10_nameOf_5 : decode cX10_nameOf 5 = .ok (.iconst (-1), 1) := by decide +kernel
theorem dX10_nameOf_6 : decode cX10_nameOf 6 = .ok (.goto 9, 3) := by decide +kernel
theorem dX10_nameOf_9 : decode cX10_nameOf 9 = .ok (.aload_n 0, 1) := by decide +kernel
theorem dX10_nameOf_10 : decode cX10_nameOf 10 = .ok (.getfield 9, 3) := by decide +kernel
theorem dX10_nameOf_13 : decode cX10_nameOf 13 = .ok (.iload_n 1, 1) := by decide +kernel
theorem dX10_nameOf_14 : decode cX10_nameOf 14 = .ok (.iaload, 1) := by decide +kernel
theorem dX10_nameOf_15 : decode cX10_nameOf 15 = .ok (.ireturn, 1) := by decide +kernel
theorem dX10_cellOf_0 : decode cX10_cellOf 0 = .ok (.iconst 0, 1) := by decide +kernel
theorem dX10_cellOf_1 : decode cX10_cellOf 1 = .ok (.istore_n 2, 1) := by decide +kernel
theorem dX10_cellOf_2 : decode cX10_cellOf 2 = .ok (.iload_n 2, 1) := by decide +kernel
theorem dX10_cellOf_3 : decode cX10_cellOf 3 = .ok (.aload_n 0, 1) := by decide +kernel
theorem dX10_cellOf_4 : decode cX10_cellOf 4 = .ok (.getfield 70, 3) := by decide +kernel
theorem dX10_cellOf_7 : decode cX10_cellOf 7 = .ok (.if_icmp .ge 31, 3) := by decide +kernel
theorem dX10_cellOf_10 : decode cX10_cellOf 10 = .ok (.aload_n 0, 1) := by decide +kernel
theorem dX10_cellOf_11 : decode cX10_cellOf 11 = .ok (.getfield 9, 3) := by decide +kernel
theorem dX10_cellOf_14 : decode cX10_cellOf 14 = .ok (.aload_n 0, 1) := by decide +kernel
theorem dX10_cellOf_15 : decode cX10_cellOf 15 = .ok (.getfield 49, 3) := by decide +kernel
theorem dX10_cellOf_18 : decode cX10_cellOf 18 = .ok (.iload_n 2, 1) := by decide +kernel
theorem dX10_cellOf_19 : decode cX10_cellOf 19 = .ok (.iaload, 1) := by decide +kernel
theorem dX10_cellOf_20 : decode cX10_cellOf 20 = .ok (.iaload, 1) := by decide +kernel
theorem dX10_cellOf_21 : decode cX10_cellOf 21 = .ok (.iload_n 1, 1) := by decide +kernel
theorem dX10_cellOf_22 : decode cX10_cellOf 22 = .ok (.if_icmp .ne 10, 3) := by decide +kernel
theorem dX10_cellOf_25 : decode cX10_cellOf 25 = .ok (.aload_n 0, 1) := by decide +kernel
theorem dX10_cellOf_26 : decode cX10_cellOf 26 = .ok (.getfield 49, 3) := by decide +kernel
theorem dX10_cellOf_29 : decode cX10_cellOf 29 = .ok (.iload_n 2, 1) := by decide +kernel
theorem dX10_cellOf_30 : decode cX10_cellOf 30 = .ok (.iaload, 1) := by decide +kernel
theorem dX10_cellOf_31 : decode cX10_cellOf 31 = .ok (.ireturn, 1) := by decide +kernel
theorem dX10_cellOf_32 : decode cX10_cellOf 32 = .ok (.iinc 2 1, 3) := by decide +kernel
theorem dX10_cellOf_35 : decode cX10_cellOf 35 = .ok (.goto (-33), 3) := by decide +kernel
theorem dX10_cellOf_38 : decode cX10_cellOf 38 = .ok (.iconst (-1), 1) := by decide +kernel
theorem dX10_cellOf_39 : decode cX10_cellOf 39 = .ok (.ireturn, 1) := by decide +kernel
theorem dX10_sizeOf_0 : decode cX10_sizeOf 0 = .ok (.aload_n 0, 1) := by decide +kernel
theorem dX10_sizeOf_1 : decode cX10_sizeOf 1 = .ok (.getfield 15, 3) := by decide +kernel
theorem dX10_sizeOf_4 : decode cX10_sizeOf 4 = .ok (.iload_n 1, 1) := by decide +kernel
theorem dX10_sizeOf_5 : decode cX10_sizeOf 5 = .ok (.iaload, 1) := by decide +kernel
theorem dX10_sizeOf_6 : decode cX10_sizeOf 6 = .ok (.iconst 2, 1) := by decide +kernel
theorem dX10_sizeOf_7 : decode cX10_sizeOf 7 = .ok (.if_icmp .ne 12, 3) := by decide +kernel
theorem dX10_sizeOf_10 : decode cX10_sizeOf 10 = .ok (.aload_n 0, 1) := by decide +kernel
theorem dX10_sizeOf_11 : decode cX10_sizeOf 11 = .ok (.getfield 21, 3) := by decide +kernel
theorem dX10_sizeOf_14 : decode cX10_sizeOf 14 = .ok (.iload_n 1, 1) := by decide +kernel
theorem dX10_sizeOf_15 : decode cX10_sizeOf 15 = .ok (.iaload, 1) := by decide +kernel
theorem dX10_sizeOf_16 : decode cX10_sizeOf 16 = .ok (.goto 11, 3) := by decide +kernel
theorem dX10_sizeOf_19 : decode cX10_sizeOf 19 = .ok (.aload_n 0, 1) := by decide +kernel
theorem dX10_sizeOf_20 : decode cX10_sizeOf 20 = .ok (.getfield 24, 3) := by decide +kernel
theorem dX10_sizeOf_23 : decode cX10_sizeOf 23 = .ok (.iload_n 1, 1) := by decide +kernel
theorem dX10_sizeOf_24 : decode cX10_sizeOf 24 = .ok (.iaload, 1) := by decide +kernel
theorem dX10_sizeOf_25 : decode cX10_sizeOf 25 = .ok (.iconst 2, 1) := by decide +kernel
theorem dX10_sizeOf_26 : decode cX10_sizeOf 26 = .ok (.isub, 1) := by decide +kernel
theorem dX10_sizeOf_27 : decode cX10_sizeOf 27 = .ok (.ireturn, 1) := by decide +kernel
theorem dX10_fieldsOf_0 : decode cX10_fieldsOf 0 = .ok (.aload_n 0, 1) := by decide +kernel
theorem dX10_fieldsOf_1 : decode cX10_fieldsOf 1 = .ok (.getfield 15, 3) := by decide +kernel
theorem dX10_fieldsOf_4 : decode cX10_fieldsOf 4 = .ok (.iload_n 1, 1) := by decide +kernel
theorem dX10_fieldsOf_5 : decode cX10_fieldsOf 5 = .ok (.iaload, 1) := by decide +kernel
theorem dX10_fieldsOf_6 : decode cX10_fieldsOf 6 = .ok (.iconst 1, 1) := by decide +kernel
theorem dX10_fieldsOf_7 : decode cX10_fieldsOf 7 = .ok (.if_icmp .gt 12, 3) := by decide +kernel
theorem dX10_fieldsOf_10 : decode cX10_fieldsOf 10 = .ok (.aload_n 0, 1) := by decide +kernel
theorem dX10_fieldsOf_11 : decode cX10_fieldsOf 11 = .ok (.getfield 21, 3) := by decide +kernel
theorem dX10_fieldsOf_14 : decode cX10_fieldsOf 14 = .ok (.iload_n 1, 1) := by decide +kernel
theorem dX10_fieldsOf_15 : decode cX10_fieldsOf 15 = .ok (.iaload, 1) := by decide +kernel
theorem dX10_fieldsOf_16 : decode cX10_fieldsOf 16 = .ok (.goto 4, 3) := by decide +kernel
theorem dX10_fieldsOf_19 : decode cX10_fieldsOf 19 = .ok (.iconst 0, 1) := by decide +kernel
theorem dX10_fieldsOf_20 : decode cX10_fieldsOf 20 = .ok (.ireturn, 1) := by decide +kernel
theorem dX10_isReference_0 : decode cX10_isReference 0 = .ok (.aload_n 0, 1) := by decide +kernel
theorem dX10_isReference_1 : decode cX10_isReference 1 = .ok (.getfield 15, 3) := by decide +kernel
theorem dX10_isReference_4 : decode cX10_isReference 4 = .ok (.iload_n 1, 1) := by decide +kernel
theorem dX10_isReference_5 : decode cX10_isReference 5 = .ok (.iaload, 1) := by decide +kernel
theorem dX10_isReference_6 : decode cX10_isReference 6 = .ok (.iconst 3, 1) := by decide +kernel
theorem dX10_isReference_7 : decode cX10_isReference 7 = .ok (.if_icmp .lt 17, 3) := by decide +kernel
theorem dX10_isReference_10 : decode cX10_isReference 10 = .ok (.aload_n 0, 1) := by decide +kernel
theorem dX10_isReference_11 : decode cX10_isReference 11 = .ok (.getfield 15, 3) := by decide +kernel
theorem dX10_isReference_14 : decode cX10_isReference 14 = .ok (.iload_n 1, 1) := by decide +kernel
theorem dX10_isReference_15 : decode cX10_isReference 15 = .ok (.iaload, 1) := by decide +kernel
theorem dX10_isReference_16 : decode cX10_isReference 16 = .ok (.iconst 5, 1) := by decide +kernel
theorem dX10_isReference_17 : decode cX10_isReference 17 = .ok (.if_icmp .gt 7, 3) := by decide +kernel
theorem dX10_isReference_20 : decode cX10_isReference 20 = .ok (.iconst 1, 1) := by decide +kernel
theorem dX10_isReference_21 : decode cX10_isReference 21 = .ok (.goto 4, 3) := by decide +kernel
theorem dX10_isReference_24 : decode cX10_isReference 24 = .ok (.iconst 0, 1) := by decide +kernel
theorem dX10_isReference_25 : decode cX10_isReference 25 = .ok (.ireturn, 1) := by decide +kernel
theorem dX10_awaitsLastRow_0 : decode cX10_awaitsLastRow 0 = .ok (.aload_n 0, 1) := by decide +kernel
theorem dX10_awaitsLastRow_1 : decode cX10_awaitsLastRow 1 = .ok (.getfield 15, 3) := by decide +kernel
theorem dX10_awaitsLastRow_4 : decode cX10_awaitsLastRow 4 = .ok (.iload_n 1, 1) := by decide +kernel
theorem dX10_awaitsLastRow_5 : decode cX10_awaitsLastRow 5 = .ok (.iaload, 1) := by decide +kernel
theorem dX10_awaitsLastRow_6 : decode cX10_awaitsLastRow 6 = .ok (.ifCond .ne 49, 3) := by decide +kernel
theorem dX10_awaitsLastRow_9 : decode cX10_awaitsLastRow 9 = .ok (.aload_n 0, 1) := by decide +kernel
theorem dX10_awaitsLastRow_10 : decode cX10_awaitsLastRow 10 = .ok (.getfield 55, 3) := by decide +kernel
theorem dX10_awaitsLastRow_13 : decode cX10_awaitsLastRow 13 = .ok (.aload_n 0, 1) := by decide +kernel
theorem dX10_awaitsLastRow_14 : decode cX10_awaitsLastRow 14 = .ok (.getfield 18, 3) := by decide +kernel
theorem dX10_awaitsLastRow_17 : decode cX10_awaitsLastRow 17 = .ok (.iload_n 1, 1) := by decide +kernel
theorem dX10_awaitsLastRow_18 : decode cX10_awaitsLastRow 18 = .ok (.iaload, 1) := by decide +kernel
theorem dX10_awaitsLastRow_19 : decode cX10_awaitsLastRow 19 = .ok (.invokevirtual 59, 3) := by decide +kernel
theorem dX10_awaitsLastRow_22 : decode cX10_awaitsLastRow 22 = .ok (.ifCond .eq 33, 3) := by decide +kernel
theorem dX10_awaitsLastRow_25 : decode cX10_awaitsLastRow 25 = .ok (.aload_n 0, 1) := by decide +kernel
theorem dX10_awaitsLastRow_26 : decode cX10_awaitsLastRow 26 = .ok (.getfield 55, 3) := by decide +kernel
theorem dX10_awaitsLastRow_29 : decode cX10_awaitsLastRow 29 = .ok (.getfield 94, 3) := by decide +kernel
theorem dX10_awaitsLastRow_32 : decode cX10_awaitsLastRow 32 = .ok (.aload_n 0, 1) := by decide +kernel
theorem dX10_awaitsLastRow_33 : decode cX10_awaitsLastRow 33 = .ok (.getfield 18, 3) := by decide +kernel
theorem dX10_awaitsLastRow_36 : decode cX10_awaitsLastRow 36 = .ok (.iload_n 1, 1) := by decide +kernel
theorem dX10_awaitsLastRow_37 : decode cX10_awaitsLastRow 37 = .ok (.iaload, 1) := by decide +kernel
theorem dX10_awaitsLastRow_38 : decode cX10_awaitsLastRow 38 = .ok (.baload, 1) := by decide +kernel
theorem dX10_awaitsLastRow_39 : decode cX10_awaitsLastRow 39 = .ok (.ifCond .eq 16, 3) := by decide +kernel
theorem dX10_awaitsLastRow_42 : decode cX10_awaitsLastRow 42 = .ok (.aload_n 0, 1) := by decide +kernel
theorem dX10_awaitsLastRow_43 : decode cX10_awaitsLastRow 43 = .ok (.getfield 37, 3) := by decide +kernel
theorem dX10_awaitsLastRow_46 : decode cX10_awaitsLastRow 46 = .ok (.iload_n 1, 1) := by decide +kernel
theorem dX10_awaitsLastRow_47 : decode cX10_awaitsLastRow 47 = .ok (.baload, 1) := by decide +kernel
theorem dX10_awaitsLastRow_48 : decode cX10_awaitsLastRow 48 = .ok (.ifCond .ne 7, 3) := by decide +kernel
theorem dX10_awaitsLastRow_51 : decode cX10_awaitsLastRow 51 = .ok (.iconst 1, 1) := by decide +kernel
theorem dX10_awaitsLastRow_52 : decode cX10_awaitsLastRow 52 = .ok (.goto 4, 3) := by decide +kernel
theorem dX10_awaitsLastRow_55 : decode cX10_awaitsLastRow 55 = .ok (.iconst 0, 1) := by decide +kernel
theorem dX10_awaitsLastRow_56 : decode cX10_awaitsLastRow 56 = .ok (.ireturn, 1) := by decide +kernel
theorem dX10_referentOf_0 : decode cX10_referentOf 0 = .ok (.aload_n 0, 1) := by decide +kernel
theorem dX10_referentOf_1 : decode cX10_referentOf 1 = .ok (.getfield 46, 3) := by decide +kernel
theorem dX10_referentOf_4 : decode cX10_referentOf 4 = .ok (.aload_n 0, 1) := by decide +kernel
theorem dX10_referentOf_5 : decode cX10_referentOf 5 = .ok (.getfield 27, 3) := by decide +kernel
theorem dX10_referentOf_8 : decode cX10_referentOf 8 = .ok (.iload_n 1, 1) := by decide +kernel
theorem dX10_referentOf_9 : decode cX10_referentOf 9 = .ok (.iaload, 1) := by decide +kernel
theorem dX10_referentOf_10 : decode cX10_referentOf 10 = .ok (.iaload, 1) := by decide +kernel
theorem dX10_referentOf_11 : decode cX10_referentOf 11 = .ok (.ireturn, 1) := by decide +kernel
theorem dX10_setReferent_0 : decode cX10_setReferent 0 = .ok (.aload_n 0, 1) := by decide +kernel
theorem dX10_setReferent_1 : decode cX10_setReferent 1 = .ok (.getfield 46, 3) := by decide +kernel
theorem dX10_setReferent_4 : decode cX10_setReferent 4 = .ok (.aload_n 0, 1) := by decide +kernel
theorem dX10_setReferent_5 : decode cX10_setReferent 5 = .ok (.getfield 27, 3) := by decide +kernel
theorem dX10_setReferent_8 : decode cX10_setReferent 8 = .ok (.iload_n 1, 1) := by decide +kernel
theorem dX10_setReferent_9 : decode cX10_setReferent 9 = .ok (.iaload, 1) := by decide +kernel
theorem dX10_setReferent_10 : decode cX10_setReferent 10 = .ok (.iload_n 2, 1) := by decide +kernel
theorem dX10_setReferent_11 : decode cX10_setReferent 11 = .ok (.iastore, 1) := by decide +kernel
theorem dX10_setReferent_12 : decode cX10_setReferent 12 = .ok (.return_, 1) := by decide +kernel
theorem dX10_entryWith_0 : decode cX10_entryWith 0 = .ok (.iconst 0, 1) := by decide +kernel
theorem dX10_entryWith_1 : decode cX10_entryWith 1 = .ok (.istore_n 3, 1) := by decide +kernel
theorem dX10_entryWith_2 : decode cX10_entryWith 2 = .ok (.iload_n 3, 1) := by decide +kernel
theorem dX10_entryWith_3 : decode cX10_entryWith 3 = .ok (.aload_n 0, 1) := by decide +kernel
theorem dX10_entryWith_4 : decode cX10_entryWith 4 = .ok (.getfield 21, 3) := by decide +kernel
theorem dX10_entryWith_7 : decode cX10_entryWith 7 = .ok (.iload_n 1, 1) := by decide +kernel
theorem dX10_entryWith_8 : decode cX10_entryWith 8 = .ok (.iaload, 1) := by decide +kernel
theorem dX10_entryWith_9 : decode cX10_entryWith 9 = .ok (.if_icmp .ge 35, 3) := by decide +kernel
theorem dX10_entryWith_12 : decode cX10_entryWith 12 = .ok (.aload_n 0, 1) := by decide +kernel
theorem dX10_entryWith_13 : decode cX10_entryWith 13 = .ok (.getfield 27, 3) := by decide +kernel
theorem dX10_entryWith_16 : decode cX10_entryWith 16 = .ok (.iload_n 1, 1) := by decide +kernel
theorem dX10_entryWith_17 : decode cX10_entryWith 17 = .ok (.iaload, 1) := by decide +kernel
theorem dX10_entryWith_18 : decode cX10_entryWith 18 = .ok (.iconst 2, 1) := by decide +kernel
theorem dX10_entryWith_19 : decode cX10_entryWith 19 = .ok (.iload_n 3, 1) := by decide +kernel
theorem dX10_entryWith_20 : decode cX10_entryWith 20 = .ok (.imul, 1) := by decide +kernel
theorem dX10_entryWith_21 : decode cX10_entryWith 21 = .ok (.iadd, 1) := by decide +kernel
theorem dX10_entryWith_22 : decode cX10_entryWith 22 = .ok (.istore 4, 2) := by decide +kernel
theorem dX10_entryWith_24 : decode cX10_entryWith 24 = .ok (.aload_n 0, 1) := by decide +kernel
theorem dX10_entryWith_25 : decode cX10_entryWith 25 = .ok (.getfield 46, 3) := by decide +kernel
theorem dX10_entryWith_28 : decode cX10_entryWith 28 = .ok (.iload 4, 2) := by decide +kernel
theorem dX10_entryWith_30 : decode cX10_entryWith 30 = .ok (.iaload, 1) := by decide +kernel
theorem dX10_entryWith_31 : decode cX10_entryWith 31 = .ok (.iload_n 2, 1) := by decide +kernel
theorem dX10_entryWith_32 : decode cX10_entryWith 32 = .ok (.if_icmp .ne 6, 3) := by decide +kernel
theorem dX10_entryWith_35 : decode cX10_entryWith 35 = .ok (.iload 4, 2) := by decide +kernel
theorem dX10_entryWith_37 : decode cX10_entryWith 37 = .ok (.ireturn, 1) := by decide +kernel
theorem dX10_entryWith_38 : decode cX10_entryWith 38 = .ok (.iinc 3 1, 3) := by decide +kernel
theorem dX10_entryWith_41 : decode cX10_entryWith 41 = .ok (.goto (-39), 3) := by decide +kernel
theorem dX10_entryWith_44 : decode cX10_entryWith 44 = .ok (.iconst (-1), 1) := by decide +kernel
theorem dX10_entryWith_45 : decode cX10_entryWith 45 = .ok (.ireturn, 1) := by decide +kernel
theorem dX10_setEntry_0 : decode cX10_setEntry 0 = .ok (.aload_n 0, 1) := by decide +kernel
theorem dX10_setEntry_1 : decode cX10_setEntry 1 = .ok (.getfield 46, 3) := by decide +kernel
theorem dX10_setEntry_4 : decode cX10_setEntry 4 = .ok (.iload_n 1, 1) := by decide +kernel
theorem dX10_setEntry_5 : decode cX10_setEntry 5 = .ok (.iload_n 2, 1) := by decide +kernel
theorem dX10_setEntry_6 : decode cX10_setEntry 6 = .ok (.iastore, 1) := by decide +kernel
theorem dX10_setEntry_7 : decode cX10_setEntry 7 = .ok (.aload_n 0, 1) := by decide +kernel
theorem dX10_setEntry_8 : decode cX10_setEntry 8 = .ok (.getfield 46, 3) := by decide +kernel
theorem dX10_setEntry_11 : decode cX10_setEntry 11 = .ok (.iload_n 1, 1) := by decide +kernel
theorem dX10_setEntry_12 : decode cX10_setEntry 12 = .ok (.iconst 1, 1) := by decide +kernel
theorem dX10_setEntry_13 : decode cX10_setEntry 13 = .ok (.iadd, 1) := by decide +kernel
theorem dX10_setEntry_14 : decode cX10_setEntry 14 = .ok (.iload_n 3, 1) := by decide +kernel
theorem dX10_setEntry_15 : decode cX10_setEntry 15 = .ok (.iastore, 1) := by decide +kernel
theorem dX10_setEntry_16 : decode cX10_setEntry 16 = .ok (.return_, 1) := by decide +kernel
theorem dX10_countEntries_0 : decode cX10_countEntries 0 = .ok (.iconst 0, 1) := by decide +kernel
theorem dX10_countEntries_1 : decode cX10_countEntries 1 = .ok (.istore_n 2, 1) := by decide +kernel
theorem dX10_countEntries_2 : decode cX10_countEntries 2 = .ok (.iconst 0, 1) := by decide +kernel
theorem dX10_countEntries_3 : decode cX10_countEntries 3 = .ok (.istore_n 3, 1) := by decide +kernel
theorem dX10_countEntries_4 : decode cX10_countEntries 4 = .ok (.iload_n 3, 1) := by decide +kernel
theorem dX10_countEntries_5 : decode cX10_countEntries 5 = .ok (.aload_n 0, 1) := by decide +kernel
theorem dX10_countEntries_6 : decode cX10_countEntries 6 = .ok (.getfield 21, 3) := by decide +kernel
theorem dX10_countEntries_9 : decode cX10_countEntries 9 = .ok (.iload_n 1, 1) := by decide +kernel
theorem dX10_countEntries_10 : decode cX10_countEntries 10 = .ok (.iaload, 1) := by decide +kernel
theorem dX10_countEntries_11 : decode cX10_countEntries 11 = .ok (.if_icmp .ge 31, 3) := by decide +kernel
theorem dX10_countEntries_14 : decode cX10_countEntries 14 = .ok (.aload_n 0, 1) := by decide +kernel
theorem dX10_countEntries_15 : decode cX10_countEntries 15 = .ok (.getfield 46, 3) := by decide +kernel
theorem dX10_countEntries_18 : decode cX10_countEntries 18 = .ok (.aload_n 0, 1) := by decide +kernel
theorem dX10_countEntries_19 : decode cX10_countEntries 19 = .ok (.getfield 27, 3) := by decide +kernel
theorem dX10_countEntries_22 : decode cX10_countEntries 22 = .ok (.iload_n 1, 1) := by decide +kernel
theorem dX10_countEntries_23 : decode cX10_countEntries 23 = .ok (.iaload, 1) := by decide +kernel
theorem dX10_countEntries_24 : decode cX10_countEntries 24 = .ok (.iconst 2, 1) := by decide +kernel
theorem dX10_countEntries_25 : decode cX10_countEntries 25 = .ok (.iload_n 3, 1) := by decide +kernel
theorem dX10_countEntries_26 : decode cX10_countEntries 26 = .ok (.imul, 1) := by decide +kernel
theorem dX10_countEntries_27 : decode cX10_countEntries 27 = .ok (.iadd, 1) := by decide +kernel
theorem dX10_countEntries_28 : decode cX10_countEntries 28 = .ok (.iaload, 1) := by decide +kernel
theorem dX10_countEntries_29 : decode cX10_countEntries 29 = .ok (.iconst (-1), 1) := by decide +kernel
theorem dX10_countEntries_30 : decode cX10_countEntries 30 = .ok (.if_icmp .eq 6, 3) := by decide +kernel
theorem dX10_countEntries_33 : decode cX10_countEntries 33 = .ok (.iinc 2 1, 3) := by decide +kernel
theorem dX10_countEntries_36 : decode cX10_countEntries 36 = .ok (.iinc 3 1, 3) := by decide +kernel
theorem dX10_countEntries_39 : decode cX10_countEntries 39 = .ok (.goto (-35), 3) := by decide +kernel
theorem dX10_countEntries_42 : decode cX10_countEntries 42 = .ok (.iload_n 2, 1) := by decide +kernel
theorem dX10_countEntries_43 : decode cX10_countEntries 43 = .ok (.ireturn, 1) := by decide +kernel
theorem dX10_findInterned_0 : decode cX10_findInterned 0 = .ok (.iconst 0, 1) := by decide +kernel
theorem dX10_findInterned_1 : decode cX10_findInterned 1 = .ok (.istore 4, 2) := by decide +kernel
theorem dX10_findInterned_3 : decode cX10_findInterned 3 = .ok (.iload 4, 2) := by decide +kernel
theorem dX10_findInterned_5 : decode cX10_findInterned 5 = .ok (.aload_n 0, 1) := by decide +kernel
theorem dX10_findInterned_6 : decode cX10_findInterned 6 = .ok (.getfield 70, 3) := by decide +kernel
theorem dX10_findInterned_9 : decode cX10_findInterned 9 = .ok (.if_icmp .ge 53, 3) := by decide +kernel
theorem dX10_findInterned_12 : decode cX10_findInterned 12 = .ok (.aload_n 0, 1) := by decide +kernel
theorem dX10_findInterned_13 : decode cX10_findInterned 13 = .ok (.getfield 49, 3) := by decide +kernel
theorem dX10_findInterned_16 : decode cX10_findInterned 16 = .ok (.iload 4, 2) := by decide +kernel
theorem dX10_findInterned_18 : decode cX10_findInterned 18 = .ok (.iaload, 1) := by decide +kernel
theorem dX10_findInterned_19 : decode cX10_findInterned 19 = .ok (.istore 5, 2) := by decide +kernel
theorem dX10_findInterned_21 : decode cX10_findInterned 21 = .ok (.aload_n 0, 1) := by decide +kernel
theorem dX10_findInterned_22 : decode cX10_findInterned 22 = .ok (.getfield 40, 3) := by decide +kernel
theorem dX10_findInterned_25 : decode cX10_findInterned 25 = .ok (.iload 5, 2) := by decide +kernel
theorem dX10_findInterned_27 : decode cX10_findInterned 27 = .ok (.baload, 1) := by decide +kernel
theorem dX10_findInterned_28 : decode cX10_findInterned 28 = .ok (.ifCond .eq 28, 3) := by decide +kernel
theorem dX10_findInterned_31 : decode cX10_findInterned 31 = .ok (.aload_n 0, 1) := by decide +kernel
theorem dX10_findInterned_32 : decode cX10_findInterned 32 = .ok (.getfield 21, 3) := by decide +kernel
theorem dX10_findInterned_35 : decode cX10_findInterned 35 = .ok (.iload 5, 2) := by decide +kernel
theorem dX10_findInterned_37 : decode cX10_findInterned 37 = .ok (.iaload, 1) := by decide +kernel
theorem dX10_findInterned_38 : decode cX10_findInterned 38 = .ok (.iload_n 3, 1) := by decide +kernel
theorem dX10_findInterned_39 : decode cX10_findInterned 39 = .ok (.if_icmp .ne 17, 3) := by decide +kernel
theorem dX10_findInterned_42 : decode cX10_findInterned 42 = .ok (.aload_n 0, 1) := by decide +kernel
theorem dX10_findInterned_43 : decode cX10_findInterned 43 = .ok (.iload 5, 2) := by decide +kernel
theorem dX10_findInterned_45 : decode cX10_findInterned 45 = .ok (.aload_n 1, 1) := by decide +kernel
theorem dX10_findInterned_46 : decode cX10_findInterned 46 = .ok (.iload_n 2, 1) := by decide +kernel
theorem dX10_findInterned_47 : decode cX10_findInterned 47 = .ok (.invokevirtual 97, 3) := by decide +kernel
theorem dX10_findInterned_50 : decode cX10_findInterned 50 = .ok (.ifCond .eq 6, 3) := by decide +kernel
theorem dX10_findInterned_53 : decode cX10_findInterned 53 = .ok (.iload 5, 2) := by decide +kernel
theorem dX10_findInterned_55 : decode cX10_findInterned 55 = .ok (.ireturn, 1) := by decide +kernel
theorem dX10_findInterned_56 : decode cX10_findInterned 56 = .ok (.iinc 4 1, 3) := by decide +kernel
theorem dX10_findInterned_59 : decode cX10_findInterned 59 = .ok (.goto (-56), 3) := by decide +kernel
theorem dX10_findInterned_62 : decode cX10_findInterned 62 = .ok (.iconst (-1), 1) := by decide +kernel
theorem dX10_findInterned_63 : decode cX10_findInterned 63 = .ok (.ireturn, 1) := by decide +kernel
theorem dX10_isLike_0 : decode cX10_isLike 0 = .ok (.iconst 0, 1) := by decide +kernel
theorem dX10_isLike_1 : decode cX10_isLike 1 = .ok (.istore 4, 2) := by decide +kernel
theorem dX10_isLike_3 : decode cX10_isLike 3 = .ok (.iload 4, 2) := by decide +kernel
theorem dX10_isLike_5 : decode cX10_isLike 5 = .ok (.aload_n 0, 1) := by decide +kernel
theorem dX10_isLike_6 : decode cX10_isLike 6 = .ok (.getfield 21, 3) := by decide +kernel
theorem dX10_isLike_9 : decode cX10_isLike 9 = .ok (.iload_n 1, 1) := by decide +kernel
theorem dX10_isLike_10 : decode cX10_isLike 10 = .ok (.iaload, 1) := by decide +kernel
theorem dX10_isLike_11 : decode cX10_isLike 11 = .ok (.if_icmp .ge 34, 3) := by decide +kernel
theorem dX10_isLike_14 : decode cX10_isLike 14 = .ok (.aload_n 0, 1) := by decide +kernel
theorem dX10_isLike_15 : decode cX10_isLike 15 = .ok (.getfield 46, 3) := by decide +kernel
theorem dX10_isLike_18 : decode cX10_isLike 18 = .ok (.aload_n 0, 1) := by decide +kernel
theorem dX10_isLike_19 : decode cX10_isLike 19 = .ok (.getfield 27, 3) := by decide +kernel
theorem dX10_isLike_22 : decode cX10_isLike 22 = .ok (.iload_n 1, 1) := by decide +kernel
theorem dX10_isLike_23 : decode cX10_isLike 23 = .ok (.iaload, 1) := by decide +kernel
theorem dX10_isLike_24 : decode cX10_isLike 24 = .ok (.iload 4, 2) := by decide +kernel
theorem dX10_isLike_26 : decode cX10_isLike 26 = .ok (.iadd, 1) := by decide +kernel
theorem dX10_isLike_27 : decode cX10_isLike 27 = .ok (.iaload, 1) := by decide +kernel
theorem dX10_isLike_28 : decode cX10_isLike 28 = .ok (.aload_n 2, 1) := by decide +kernel
theorem dX10_isLike_29 : decode cX10_isLike 29 = .ok (.iload_n 3, 1) := by decide +kernel
theorem dX10_isLike_30 : decode cX10_isLike 30 = .ok (.iload 4, 2) := by decide +kernel
theorem dX10_isLike_32 : decode cX10_isLike 32 = .ok (.iadd, 1) := by decide +kernel
theorem dX10_isLike_33 : decode cX10_isLike 33 = .ok (.iaload, 1) := by decide +kernel
theorem dX10_isLike_34 : decode cX10_isLike 34 = .ok (.if_icmp .eq 5, 3) := by decide +kernel
theorem dX10_isLike_37 : decode cX10_isLike 37 = .ok (.iconst 0, 1) := by decide +kernel
theorem dX10_isLike_38 : decode cX10_isLike 38 = .ok (.ireturn, 1) := by decide +kernel
theorem dX10_isLike_39 : decode cX10_isLike 39 = .ok (.iinc 4 1, 3) := by decide +kernel
theorem dX10_isLike_42 : decode cX10_isLike 42 = .ok (.goto (-39), 3) := by decide +kernel
theorem dX10_isLike_45 : decode cX10_isLike 45 = .ok (.iconst 1, 1) := by decide +kernel
theorem dX10_isLike_46 : decode cX10_isLike 46 = .ok (.ireturn, 1) := by decide +kernel
theorem dX10_countYoung_0 : decode cX10_countYoung 0 = .ok (.iconst 0, 1) := by decide +kernel
theorem dX10_countYoung_1 : decode cX10_countYoung 1 = .ok (.istore_n 1, 1) := by decide +kernel
theorem dX10_countYoung_2 : decode cX10_countYoung 2 = .ok (.iconst 0, 1) := by decide +kernel
theorem dX10_countYoung_3 : decode cX10_countYoung 3 = .ok (.istore_n 2, 1) := by decide +kernel
theorem dX10_countYoung_4 : decode cX10_countYoung 4 = .ok (.iload_n 2, 1) := by decide +kernel
theorem dX10_countYoung_5 : decode cX10_countYoung 5 = .ok (.aload_n 0, 1) := by decide +kernel
theorem dX10_countYoung_6 : decode cX10_countYoung 6 = .ok (.getfield 70, 3) := by decide +kernel
theorem dX10_countYoung_9 : decode cX10_countYoung 9 = .ok (.if_icmp .ge 26, 3) := by decide +kernel
theorem dX10_countYoung_12 : decode cX10_countYoung 12 = .ok (.aload_n 0, 1) := by decide +kernel
theorem dX10_countYoung_13 : decode cX10_countYoung 13 = .ok (.getfield 33, 3) := by decide +kernel
theorem dX10_countYoung_16 : decode cX10_countYoung 16 = .ok (.aload_n 0, 1) := by decide +kernel
theorem dX10_countYoung_17 : decode cX10_countYoung 17 = .ok (.getfield 49, 3) := by decide +kernel
theorem dX10_countYoung_20 : decode cX10_countYoung 20 = .ok (.iload_n 2, 1) := by decide +kernel
theorem dX10_countYoung_21 : decode cX10_countYoung 21 = .ok (.iaload, 1) := by decide +kernel
theorem dX10_countYoung_22 : decode cX10_countYoung 22 = .ok (.baload, 1) := by decide +kernel
theorem dX10_countYoung_23 : decode cX10_countYoung 23 = .ok (.ifCond .ne 6, 3) := by decide +kernel
theorem dX10_countYoung_26 : decode cX10_countYoung 26 = .ok (.iinc 1 1, 3) := by decide +kernel
theorem dX10_countYoung_29 : decode cX10_countYoung 29 = .ok (.iinc 2 1, 3) := by decide +kernel
theorem dX10_countYoung_32 : decode cX10_countYoung 32 = .ok (.goto (-28), 3) := by decide +kernel
theorem dX10_countYoung_35 : decode cX10_countYoung 35 = .ok (.iload_n 1, 1) := by decide +kernel
theorem dX10_countYoung_36 : decode cX10_countYoung 36 = .ok (.ireturn, 1) := by decide +kernel
theorem dX10_countInterned_0 : decode cX10_countInterned 0 = .ok (.iconst 0, 1) := by decide +kernel
theorem dX10_countInterned_1 : decode cX10_countInterned 1 = .ok (.istore_n 1, 1) := by decide +kernel
theorem dX10_countInterned_2 : decode cX10_countInterned 2 = .ok (.iconst 0, 1) := by decide +kernel
theorem dX10_countInterned_3 : decode cX10_countInterned 3 = .ok (.istore_n 2, 1) := by decide +kernel
theorem dX10_countInterned_4 : decode cX10_countInterned 4 = .ok (.iload_n 2, 1) := by decide +kernel
theorem dX10_countInterned_5 : decode cX10_countInterned 5 = .ok (.aload_n 0, 1) := by decide +kernel
theorem dX10_countInterned_6 : decode cX10_countInterned 6 = .ok (.getfield 70, 3) := by decide +kernel
theorem dX10_countInterned_9 : decode cX10_countInterned 9 = .ok (.if_icmp .ge 26, 3) := by decide +kernel
theorem dX10_countInterned_12 : decode cX10_countInterned 12 = .ok (.aload_n 0, 1) := by decide +kernel
theorem dX10_countInterned_13 : decode cX10_countInterned 13 = .ok (.getfield 40, 3) := by decide +kernel
theorem dX10_countInterned_16 : decode cX10_countInterned 16 = .ok (.aload_n 0, 1) := by decide +kernel
theorem dX10_countInterned_17 : decode cX10_countInterned 17 = .ok (.getfield 49, 3) := by decide +kernel
theorem dX10_countInterned_20 : decode cX10_countInterned 20 = .ok (.iload_n 2, 1) := by decide +kernel
theorem dX10_countInterned_21 : decode cX10_countInterned 21 = .ok (.iaload, 1) := by decide +kernel
theorem dX10_countInterned_22 : decode cX10_countInterned 22 = .ok (.baload, 1) := by decide +kernel
theorem dX10_countInterned_23 : decode cX10_countInterned 23 = .ok (.ifCond .eq 6, 3) := by decide +kernel
theorem dX10_countInterned_26 : decode cX10_countInterned 26 = .ok (.iinc 1 1, 3) := by decide +kernel
theorem dX10_countInterned_29 : decode cX10_countInterned 29 = .ok (.iinc 2 1, 3) := by decide +kernel
theorem dX10_countInterned_32 : decode cX10_countInterned 32 = .ok (.goto (-28), 3) := by decide +kernel
theorem dX10_countInterned_35 : decode cX10_countInterned 35 = .ok (.iload_n 1, 1) := by decide +kernel
theorem dX10_countInterned_36 : decode cX10_countInterned 36 = .ok (.ireturn, 1) := by decide +kernel
theorem dX10_removeAllBut_0 : decode cX10_removeAllBut 0 = .ok (.iconst 0, 1) := by decide +kernel
theorem dX10_removeAllBut_1 : decode cX10_removeAllBut 1 = .ok (.istore_n 2, 1) := by decide +kernel
theorem dX10_removeAllBut_2 : decode cX10_removeAllBut 2 = .ok (.iconst 0, 1) := by decide +kernel
theorem dX10_removeAllBut_3 : decode cX10_removeAllBut 3 = .ok (.istore_n 3, 1) := by decide +kernel
theorem dX10_removeAllBut_4 : decode cX10_removeAllBut 4 = .ok (.aload_n 0, 1) := by decide +kernel
theorem dX10_removeAllBut_5 : decode cX10_removeAllBut 5 = .ok (.iconst 0, 1) := by decide +kernel
theorem dX10_removeAllBut_6 : decode cX10_removeAllBut 6 = .ok (.putfield 74, 3) := by decide +kernel
theorem dX10_removeAllBut_9 : decode cX10_removeAllBut 9 = .ok (.iconst 0, 1) := by decide +kernel
theorem dX10_removeAllBut_10 : decode cX10_removeAllBut 10 = .ok (.istore 4, 2) := by decide +kernel
theorem dX10_removeAllBut_12 : decode cX10_removeAllBut 12 = .ok (.iload 4, 2) := by decide +kernel
theorem dX10_removeAllBut_14 : decode cX10_removeAllBut 14 = .ok (.aload_n 0, 1) := by decide +kernel
theorem dX10_removeAllBut_15 : decode cX10_removeAllBut 15 = .ok (.getfield 70, 3) := by decide +kernel
theorem dX10_removeAllBut_18 : decode cX10_removeAllBut 18 = .ok (.if_icmp .ge 77, 3) := by decide +kernel
theorem dX10_removeAllBut_21 : decode cX10_removeAllBut 21 = .ok (.aload_n 0, 1) := by decide +kernel
theorem dX10_removeAllBut_22 : decode cX10_removeAllBut 22 = .ok (.getfield 49, 3) := by decide +kernel
theorem dX10_removeAllBut_25 : decode cX10_removeAllBut 25 = .ok (.iload 4, 2) := by decide +kernel
theorem dX10_removeAllBut_27 : decode cX10_removeAllBut 27 = .ok (.iaload, 1) := by decide +kernel
theorem dX10_removeAllBut_28 : decode cX10_removeAllBut 28 = .ok (.istore 5, 2) := by decide +kernel
theorem dX10_removeAllBut_30 : decode cX10_removeAllBut 30 = .ok (.aload_n 1, 1) := by decide +kernel
theorem dX10_removeAllBut_31 : decode cX10_removeAllBut 31 = .ok (.iload 5, 2) := by decide +kernel
theorem dX10_removeAllBut_33 : decode cX10_removeAllBut 33 = .ok (.invokevirtual 101, 3) := by decide +kernel
theorem dX10_removeAllBut_36 : decode cX10_removeAllBut 36 = .ok (.ifCond .eq 23, 3) := by decide +kernel
theorem dX10_removeAllBut_39 : decode cX10_removeAllBut 39 = .ok (.aload_n 0, 1) := by decide +kernel
theorem dX10_removeAllBut_40 : decode cX10_removeAllBut 40 = .ok (.iload 5, 2) := by decide +kernel
theorem dX10_removeAllBut_42 : decode cX10_removeAllBut 42 = .ok (.invokevirtual 106, 3) := by decide +kernel
theorem dX10_removeAllBut_45 : decode cX10_removeAllBut 45 = .ok (.aload_n 0, 1) := by decide +kernel
theorem dX10_removeAllBut_46 : decode cX10_removeAllBut 46 = .ok (.getfield 49, 3) := by decide +kernel
theorem dX10_removeAllBut_49 : decode cX10_removeAllBut 49 = .ok (.iload_n 2, 1) := by decide +kernel
theorem dX10_removeAllBut_50 : decode cX10_removeAllBut 50 = .ok (.iload 5, 2) := by decide +kernel
theorem dX10_removeAllBut_52 : decode cX10_removeAllBut 52 = .ok (.iastore, 1) := by decide +kernel
theorem dX10_removeAllBut_53 : decode cX10_removeAllBut 53 = .ok (.iinc 2 1, 3) := by decide +kernel
theorem dX10_removeAllBut_56 : decode cX10_removeAllBut 56 = .ok (.goto 33, 3) := by decide +kernel
theorem dX10_removeAllBut_59 : decode cX10_removeAllBut 59 = .ok (.aload_n 0, 1) := by decide +kernel
theorem dX10_removeAllBut_60 : decode cX10_removeAllBut 60 = .ok (.aload_n 0, 1) := by decide +kernel
theorem dX10_removeAllBut_61 : decode cX10_removeAllBut 61 = .ok (.getfield 33, 3) := by decide +kernel
theorem dX10_removeAllBut_64 : decode cX10_removeAllBut 64 = .ok (.iload 5, 2) := by decide +kernel
theorem dX10_removeAllBut_66 : decode cX10_removeAllBut 66 = .ok (.baload, 1) := by decide +kernel
theorem dX10_removeAllBut_67 : decode cX10_removeAllBut 67 = .ok (.aload_n 0, 1) := by decide +kernel
theorem dX10_removeAllBut_68 : decode cX10_removeAllBut 68 = .ok (.getfield 24, 3) := by decide +kernel
theorem dX10_removeAllBut_71 : decode cX10_removeAllBut 71 = .ok (.iload 5, 2) := by decide +kernel
theorem dX10_removeAllBut_73 : decode cX10_removeAllBut 73 = .ok (.iaload, 1) := by decide +kernel
theorem dX10_removeAllBut_74 : decode cX10_removeAllBut 74 = .ok (.ineg, 1) := by decide +kernel
theorem dX10_removeAllBut_75 : decode cX10_removeAllBut 75 = .ok (.invokevirtual 84, 3) := by decide +kernel
theorem dX10_removeAllBut_78 : decode cX10_removeAllBut 78 = .ok (.aload_n 0, 1) := by decide +kernel
theorem dX10_removeAllBut_79 : decode cX10_removeAllBut 79 = .ok (.getfield 52, 3) := by decide +kernel
theorem dX10_removeAllBut_82 : decode cX10_removeAllBut 82 = .ok (.iload_n 3, 1) := by decide +kernel
theorem dX10_removeAllBut_83 : decode cX10_removeAllBut 83 = .ok (.iload 5, 2) := by decide +kernel
theorem dX10_removeAllBut_85 : decode cX10_removeAllBut 85 = .ok (.iastore, 1) := by decide +kernel
theorem dX10_removeAllBut_86 : decode cX10_removeAllBut 86 = .ok (.iinc 3 1, 3) := by decide +kernel
theorem dX10_removeAllBut_89 : decode cX10_removeAllBut 89 = .ok (.iinc 4 1, 3) := by decide +kernel
theorem dX10_removeAllBut_92 : decode cX10_removeAllBut 92 = .ok (.goto (-80), 3) := by decide +kernel
theorem dX10_removeAllBut_95 : decode cX10_removeAllBut 95 = .ok (.aload_n 0, 1) := by decide +kernel
theorem dX10_removeAllBut_96 : decode cX10_removeAllBut 96 = .ok (.getfield 52, 3) := by decide +kernel
theorem dX10_removeAllBut_99 : decode cX10_removeAllBut 99 = .ok (.iconst 0, 1) := by decide +kernel
theorem dX10_removeAllBut_100 : decode cX10_removeAllBut 100 = .ok (.aload_n 0, 1) := by decide +kernel
theorem dX10_removeAllBut_101 : decode cX10_removeAllBut 101 = .ok (.getfield 49, 3) := by decide +kernel
theorem dX10_removeAllBut_104 : decode cX10_removeAllBut 104 = .ok (.iload_n 2, 1) := by decide +kernel
theorem dX10_removeAllBut_105 : decode cX10_removeAllBut 105 = .ok (.iload_n 3, 1) := by decide +kernel
theorem dX10_removeAllBut_106 : decode cX10_removeAllBut 106 = .ok (.invokestatic 110, 3) := by decide +kernel
theorem dX10_removeAllBut_109 : decode cX10_removeAllBut 109 = .ok (.aload_n 0, 1) := by decide +kernel
theorem dX10_removeAllBut_110 : decode cX10_removeAllBut 110 = .ok (.iload_n 2, 1) := by decide +kernel
theorem dX10_removeAllBut_111 : decode cX10_removeAllBut 111 = .ok (.putfield 70, 3) := by decide +kernel
theorem dX10_removeAllBut_114 : decode cX10_removeAllBut 114 = .ok (.return_, 1) := by decide +kernel
theorem dX10_slideDown_0 : decode cX10_slideDown 0 = .ok (.aload_n 0, 1) := by decide +kernel
theorem dX10_slideDown_1 : decode cX10_slideDown 1 = .ok (.iload_n 1, 1) := by decide +kernel
theorem dX10_slideDown_2 : decode cX10_slideDown 2 = .ok (.invokevirtual 116, 3) := by decide +kernel
theorem dX10_slideDown_5 : decode cX10_slideDown 5 = .ok (.istore_n 2, 1) := by decide +kernel
theorem dX10_slideDown_6 : decode cX10_slideDown 6 = .ok (.aload_n 0, 1) := by decide +kernel
theorem dX10_slideDown_7 : decode cX10_slideDown 7 = .ok (.getfield 46, 3) := by decide +kernel
theorem dX10_slideDown_10 : decode cX10_slideDown 10 = .ok (.aload_n 0, 1) := by decide +kernel
theorem dX10_slideDown_11 : decode cX10_slideDown 11 = .ok (.getfield 27, 3) := by decide +kernel
theorem dX10_slideDown_14 : decode cX10_slideDown 14 = .ok (.iload_n 1, 1) := by decide +kernel
theorem dX10_slideDown_15 : decode cX10_slideDown 15 = .ok (.iaload, 1) := by decide +kernel
theorem dX10_slideDown_16 : decode cX10_slideDown 16 = .ok (.aload_n 0, 1) := by decide +kernel
theorem dX10_slideDown_17 : decode cX10_slideDown 17 = .ok (.getfield 46, 3) := by decide +kernel
theorem dX10_slideDown_20 : decode cX10_slideDown 20 = .ok (.aload_n 0, 1) := by decide +kernel
theorem dX10_slideDown_21 : decode cX10_slideDown 21 = .ok (.getfield 74, 3) := by decide +kernel
theorem dX10_slideDown_24 : decode cX10_slideDown 24 = .ok (.iload_n 2, 1) := by decide +kernel
theorem dX10_slideDown_25 : decode cX10_slideDown 25 = .ok (.invokestatic 110, 3) := by decide +kernel
theorem dX10_slideDown_28 : decode cX10_slideDown 28 = .ok (.aload_n 0, 1) := by decide +kernel
theorem dX10_slideDown_29 : decode cX10_slideDown 29 = .ok (.getfield 27, 3) := by decide +kernel
theorem dX10_slideDown_32 : decode cX10_slideDown 32 = .ok (.iload_n 1, 1) := by decide +kernel
theorem dX10_slideDown_33 : decode cX10_slideDown 33 = .ok (.aload_n 0, 1) := by decide +kernel
theorem dX10_slideDown_34 : decode cX10_slideDown 34 = .ok (.getfield 74, 3) := by decide +kernel
theorem dX10_slideDown_37 : decode cX10_slideDown 37 = .ok (.iastore, 1) := by decide +kernel
theorem dX10_slideDown_38 : decode cX10_slideDown 38 = .ok (.aload_n 0, 1) := by decide +kernel
theorem dX10_slideDown_39 : decode cX10_slideDown 39 = .ok (.dup, 1) := by decide +kernel
theorem dX10_slideDown_40 : decode cX10_slideDown 40 = .ok (.getfield 74, 3) := by decide +kernel
theorem dX10_slideDown_43 : decode cX10_slideDown 43 = .ok (.iload_n 2, 1) := by decide +kernel
theorem dX10_slideDown_44 : decode cX10_slideDown 44 = .ok (.iadd, 1) := by decide +kernel
theorem dX10_slideDown_45 : decode cX10_slideDown 45 = .ok (.putfield 74, 3) := by decide +kernel
theorem dX10_slideDown_48 : decode cX10_slideDown 48 = .ok (.return_, 1) := by decide +kernel
theorem dX10_makeOlder_0 : decode cX10_makeOlder 0 = .ok (.iconst 0, 1) := by decide +kernel
theorem dX10_makeOlder_1 : decode cX10_makeOlder 1 = .ok (.istore_n 2, 1) := by decide +kernel
theorem dX10_makeOlder_2 : decode cX10_makeOlder 2 = .ok (.iload_n 2, 1) := by decide +kernel
theorem dX10_makeOlder_3 : decode cX10_makeOlder 3 = .ok (.aload_n 0, 1) := by decide +kernel
theorem dX10_makeOlder_4 : decode cX10_makeOlder 4 = .ok (.getfield 70, 3) := by decide +kernel
theorem dX10_makeOlder_7 : decode cX10_makeOlder 7 = .ok (.if_icmp .ge 50, 3) := by decide +kernel
theorem dX10_makeOlder_10 : decode cX10_makeOlder 10 = .ok (.aload_n 0, 1) := by decide +kernel
theorem dX10_makeOlder_11 : decode cX10_makeOlder 11 = .ok (.getfield 49, 3) := by decide +kernel
theorem dX10_makeOlder_14 : decode cX10_makeOlder 14 = .ok (.iload_n 2, 1) := by decide +kernel
theorem dX10_makeOlder_15 : decode cX10_makeOlder 15 = .ok (.iaload, 1) := by decide +kernel
theorem dX10_makeOlder_16 : decode cX10_makeOlder 16 = .ok (.istore_n 3, 1) := by decide +kernel
theorem dX10_makeOlder_17 : decode cX10_makeOlder 17 = .ok (.aload_n 0, 1) := by decide +kernel
theorem dX10_makeOlder_18 : decode cX10_makeOlder 18 = .ok (.getfield 33, 3) := by decide +kernel
theorem dX10_makeOlder_21 : decode cX10_makeOlder 21 = .ok (.iload_n 3, 1) := by decide +kernel
theorem dX10_makeOlder_22 : decode cX10_makeOlder 22 = .ok (.baload, 1) := by decide +kernel
theorem dX10_makeOlder_23 : decode cX10_makeOlder 23 = .ok (.ifCond .ne 28, 3) := by decide +kernel
theorem dX10_makeOlder_26 : decode cX10_makeOlder 26 = .ok (.aload_n 0, 1) := by decide +kernel
theorem dX10_makeOlder_27 : decode cX10_makeOlder 27 = .ok (.getfield 30, 3) := by decide +kernel
theorem dX10_makeOlder_30 : decode cX10_makeOlder 30 = .ok (.iload_n 3, 1) := by decide +kernel
theorem dX10_makeOlder_31 : decode cX10_makeOlder 31 = .ok (.dup2, 1) := by decide +kernel
theorem dX10_makeOlder_32 : decode cX10_makeOlder 32 = .ok (.iaload, 1) := by decide +kernel
theorem dX10_makeOlder_33 : decode cX10_makeOlder 33 = .ok (.iconst 1, 1) := by decide +kernel
theorem dX10_makeOlder_34 : decode cX10_makeOlder 34 = .ok (.iadd, 1) := by decide +kernel
theorem dX10_makeOlder_35 : decode cX10_makeOlder 35 = .ok (.iastore, 1) := by decide +kernel
theorem dX10_makeOlder_36 : decode cX10_makeOlder 36 = .ok (.aload_n 0, 1) := by decide +kernel
theorem dX10_makeOlder_37 : decode cX10_makeOlder 37 = .ok (.getfield 30, 3) := by decide +kernel
theorem dX10_makeOlder_40 : decode cX10_makeOlder 40 = .ok (.iload_n 3, 1) := by decide +kernel
theorem dX10_makeOlder_41 : decode cX10_makeOlder 41 = .ok (.iaload, 1) := by decide +kernel
theorem dX10_makeOlder_42 : decode cX10_makeOlder 42 = .ok (.iload_n 1, 1) := by decide +kernel
theorem dX10_makeOlder_43 : decode cX10_makeOlder 43 = .ok (.if_icmp .lt 8, 3) := by decide +kernel
theorem dX10_makeOlder_46 : decode cX10_makeOlder 46 = .ok (.aload_n 0, 1) := by decide +kernel
theorem dX10_makeOlder_47 : decode cX10_makeOlder 47 = .ok (.iload_n 3, 1) := by decide +kernel
theorem dX10_makeOlder_48 : decode cX10_makeOlder 48 = .ok (.invokevirtual 120, 3) := by decide +kernel
theorem dX10_makeOlder_51 : decode cX10_makeOlder 51 = .ok (.iinc 2 1, 3) := by decide +kernel
theorem dX10_makeOlder_54 : decode cX10_makeOlder 54 = .ok (.goto (-52), 3) := by decide +kernel
theorem dX10_makeOlder_57 : decode cX10_makeOlder 57 = .ok (.return_, 1) := by decide +kernel
theorem dX10_makeOldAsFarAsTheyFit_0 : decode cX10_makeOldAsFarAsTheyFit 0 = .ok (.iconst 0, 1) := by decide +kernel
theorem dX10_makeOldAsFarAsTheyFit_1 : decode cX10_makeOldAsFarAsTheyFit 1 = .ok (.istore_n 1, 1) := by decide +kernel
theorem dX10_makeOldAsFarAsTheyFit_2 : decode cX10_makeOldAsFarAsTheyFit 2 = .ok (.iload_n 1, 1) := by decide +kernel
theorem dX10_makeOldAsFarAsTheyFit_3 : decode cX10_makeOldAsFarAsTheyFit 3 = .ok (.aload_n 0, 1) := by decide +kernel
theorem dX10_makeOldAsFarAsTheyFit_4 : decode cX10_makeOldAsFarAsTheyFit 4 = .ok (.getfield 70, 3) := by decide +kernel
theorem dX10_makeOldAsFarAsTheyFit_7 : decode cX10_makeOldAsFarAsTheyFit 7 = .ok (.if_icmp .ge 47, 3) := by decide +kernel
theorem dX10_makeOldAsFarAsTheyFit_10 : decode cX10_makeOldAsFarAsTheyFit 10 = .ok (.aload_n 0, 1) := by decide +kernel
theorem dX10_makeOldAsFarAsTheyFit_11 : decode cX10_makeOldAsFarAsTheyFit 11 = .ok (.getfield 49, 3) := by decide +kernel
theorem dX10_makeOldAsFarAsTheyFit_14 : decode cX10_makeOldAsFarAsTheyFit 14 = .ok (.iload_n 1, 1) := by decide +kernel
theorem dX10_makeOldAsFarAsTheyFit_15 : decode cX10_makeOldAsFarAsTheyFit 15 = .ok (.iaload, 1) := by decide +kernel
theorem dX10_makeOldAsFarAsTheyFit_16 : decode cX10_makeOldAsFarAsTheyFit 16 = .ok (.istore_n 2, 1) := by decide +kernel
theorem dX10_makeOldAsFarAsTheyFit_17 : decode cX10_makeOldAsFarAsTheyFit 17 = .ok (.aload_n 0, 1) := by decide +kernel
theorem dX10_makeOldAsFarAsTheyFit_18 : decode cX10_makeOldAsFarAsTheyFit 18 = .ok (.getfield 33, 3) := by decide +kernel
theorem dX10_makeOldAsFarAsTheyFit_21 : decode cX10_makeOldAsFarAsTheyFit 21 = .ok (.iload_n 2, 1) := by decide +kernel
theorem dX10_makeOldAsFarAsTheyFit_22 : decode cX10_makeOldAsFarAsTheyFit 22 = .ok (.baload, 1) := by decide +kernel
theorem dX10_makeOldAsFarAsTheyFit_23 : decode cX10_makeOldAsFarAsTheyFit 23 = .ok (.ifCond .ne 25, 3) := by decide +kernel
theorem dX10_makeOldAsFarAsTheyFit_26 : decode cX10_makeOldAsFarAsTheyFit 26 = .ok (.aload_n 0, 1) := by decide +kernel
theorem dX10_makeOldAsFarAsTheyFit_27 : decode cX10_makeOldAsFarAsTheyFit 27 = .ok (.getfield 88, 3) := by decide +kernel
theorem dX10_makeOldAsFarAsTheyFit_30 : decode cX10_makeOldAsFarAsTheyFit 30 = .ok (.aload_n 0, 1) := by decide +kernel
theorem dX10_makeOldAsFarAsTheyFit_31 : decode cX10_makeOldAsFarAsTheyFit 31 = .ok (.getfield 24, 3) := by decide +kernel
theorem dX10_makeOldAsFarAsTheyFit_34 : decode cX10_makeOldAsFarAsTheyFit 34 = .ok (.iload_n 2, 1) := by decide +kernel
theorem dX10_makeOldAsFarAsTheyFit_35 : decode cX10_makeOldAsFarAsTheyFit 35 = .ok (.iaload, 1) := by decide +kernel
theorem dX10_makeOldAsFarAsTheyFit_36 : decode cX10_makeOldAsFarAsTheyFit 36 = .ok (.iadd, 1) := by decide +kernel
theorem dX10_makeOldAsFarAsTheyFit_37 : decode cX10_makeOldAsFarAsTheyFit 37 = .ok (.sipush 320, 3) := by decide +kernel
theorem dX10_makeOldAsFarAsTheyFit_40 : decode cX10_makeOldAsFarAsTheyFit 40 = .ok (.if_icmp .gt 8, 3) := by decide +kernel
theorem dX10_makeOldAsFarAsTheyFit_43 : decode cX10_makeOldAsFarAsTheyFit 43 = .ok (.aload_n 0, 1) := by decide +kernel
theorem dX10_makeOldAsFarAsTheyFit_44 : decode cX10_makeOldAsFarAsTheyFit 44 = .ok (.iload_n 2, 1) := by decide +kernel
theorem dX10_makeOldAsFarAsTheyFit_45 : decode cX10_makeOldAsFarAsTheyFit 45 = .ok (.invokevirtual 120, 3) := by decide +kernel
theorem dX10_makeOldAsFarAsTheyFit_48 : decode cX10_makeOldAsFarAsTheyFit 48 = .ok (.iinc 1 1, 3) := by decide +kernel
theorem dX10_makeOldAsFarAsTheyFit_51 : decode cX10_makeOldAsFarAsTheyFit 51 = .ok (.goto (-49), 3) := by decide +kernel
theorem dX10_makeOldAsFarAsTheyFit_54 : decode cX10_makeOldAsFarAsTheyFit 54 = .ok (.return_, 1) := by decide +kernel
theorem dX10_makeOld_0 : decode cX10_makeOld 0 = .ok (.aload_n 0, 1) := by decide +kernel
theorem dX10_makeOld_1 : decode cX10_makeOld 1 = .ok (.getfield 33, 3) := by decide +kernel
theorem dX10_makeOld_4 : decode cX10_makeOld 4 = .ok (.iload_n 1, 1) := by decide +kernel
theorem dX10_makeOld_5 : decode cX10_makeOld 5 = .ok (.iconst 1, 1) := by decide +kernel
theorem dX10_makeOld_6 : decode cX10_makeOld 6 = .ok (.bastore, 1) := by decide +kernel
theorem dX10_makeOld_7 : decode cX10_makeOld 7 = .ok (.aload_n 0, 1) := by decide +kernel
theorem dX10_makeOld_8 : decode cX10_makeOld 8 = .ok (.dup, 1) := by decide +kernel
theorem dX10_makeOld_9 : decode cX10_makeOld 9 = .ok (.getfield 91, 3) := by decide +kernel
theorem dX10_makeOld_12 : decode cX10_makeOld 12 = .ok (.aload_n 0, 1) := by decide +kernel
theorem dX10_makeOld_13 : decode cX10_makeOld 13 = .ok (.getfield 24, 3) := by decide +kernel
theorem dX10_makeOld_16 : decode cX10_makeOld 16 = .ok (.iload_n 1, 1) := by decide +kernel
theorem dX10_makeOld_17 : decode cX10_makeOld 17 = .ok (.iaload, 1) := by decide +kernel
theorem dX10_makeOld_18 : decode cX10_makeOld 18 = .ok (.isub, 1) := by decide +kernel
theorem dX10_makeOld_19 : decode cX10_makeOld 19 = .ok (.putfield 91, 3) := by decide +kernel
theorem dX10_makeOld_22 : decode cX10_makeOld 22 = .ok (.aload_n 0, 1) := by decide +kernel
theorem dX10_makeOld_23 : decode cX10_makeOld 23 = .ok (.dup, 1) := by decide +kernel
theorem dX10_makeOld_24 : decode cX10_makeOld 24 = .ok (.getfield 88, 3) := by decide +kernel
theorem dX10_makeOld_27 : decode cX10_makeOld 27 = .ok (.aload_n 0, 1) := by decide +kernel
theorem dX10_makeOld_28 : decode cX10_makeOld 28 = .ok (.getfield 24, 3) := by decide +kernel
theorem dX10_makeOld_31 : decode cX10_makeOld 31 = .ok (.iload_n 1, 1) := by decide +kernel
theorem dX10_makeOld_32 : decode cX10_makeOld 32 = .ok (.iaload, 1) := by decide +kernel
theorem dX10_makeOld_33 : decode cX10_makeOld 33 = .ok (.iadd, 1) := by decide +kernel
theorem dX10_makeOld_34 : decode cX10_makeOld 34 = .ok (.putfield 88, 3) := by decide +kernel
theorem dX10_makeOld_37 : decode cX10_makeOld 37 = .ok (.return_, 1) := by decide +kernel
theorem dX11_init_0 : decode cX11_init 0 = .ok (.aload_n 0, 1) := by decide +kernel
theorem dX11_init_1 : decode cX11_init 1 = .ok (.invokespecial 3, 3) := by decide +kernel
theorem dX11_init_4 : decode cX11_init 4 = .ok (.aload_n 0, 1) := by decide +kernel
theorem dX11_init_5 : decode cX11_init 5 = .ok (.new 9, 3) := by decide +kernel
theorem dX11_init_8 : decode cX11_init 8 = .ok (.dup, 1) := by decide +kernel
theorem dX11_init_9 : decode cX11_init 9 = .ok (.invokespecial 11, 3) := by decide +kernel
theorem dX11_init_12 : decode cX11_init 12 = .ok (.putfield 12, 3) := by decide +kernel
theorem dX11_init_15 : decode cX11_init 15 = .ok (.aload_n 0, 1) := by decide +kernel
theorem dX11_init_16 : decode cX11_init 16 = .ok (.new 16, 3) := by decide +kernel
theorem dX11_init_19 : decode cX11_init 19 = .ok (.dup, 1) := by decide +kernel
theorem dX11_init_20 : decode cX11_init 20 = .ok (.aload_n 0, 1) := by decide +kernel
theorem dX11_init_21 : decode cX11_init 21 = .ok (.getfield 12, 3) := by decide +kernel
theorem dX11_init_24 : decode cX11_init 24 = .ok (.invokespecial 18, 3) := by decide +kernel
theorem dX11_init_27 : decode cX11_init 27 = .ok (.putfield 21, 3) := by decide +kernel
theorem dX11_init_30 : decode cX11_init 30 = .ok (.aload_n 0, 1) := by decide +kernel
theorem dX11_init_31 : decode cX11_init 31 = .ok (.new 25, 3) := by decide +kernel
theorem dX11_init_34 : decode cX11_init 34 = .ok (.dup, 1) := by decide +kernel
theorem dX11_init_35 : decode cX11_init 35 = .ok (.invokespecial 27, 3) := by decide +kernel
theorem dX11_init_38 : decode cX11_init 38 = .ok (.putfield 28, 3) := by decide +kernel
theorem dX11_init_41 : decode cX11_init 41 = .ok (.aload_n 0, 1) := by decide +kernel
theorem dX11_init_42 : decode cX11_init 42 = .ok (.new 32, 3) := by decide +kernel
theorem dX11_init_45 : decode cX11_init 45 = .ok (.dup, 1) := by decide +kernel
theorem dX11_init_46 : decode cX11_init 46 = .ok (.aload_n 0, 1) := by decide +kernel
theorem dX11_init_47 : decode cX11_init 47 = .ok (.getfield 21, 3) := by decide +kernel
theorem dX11_init_50 : decode cX11_init 50 = .ok (.invokespecial 34, 3) := by decide +kernel
theorem dX11_init_53 : decode cX11_init 53 = .ok (.putfield 37, 3) := by decide +kernel
theorem dX11_init_56 : decode cX11_init 56 = .ok (.aload_n 0, 1) := by decide +kernel
theorem dX11_init_57 : decode cX11_init 57 = .ok (.new 41, 3) := by decide +kernel
theorem dX11_init_60 : decode cX11_init 60 = .ok (.dup, 1) := by decide +kernel
theorem dX11_init_61 : decode cX11_init 61 = .ok (.aload_n 0, 1) := by decide +kernel
theorem dX11_init_62 : decode cX11_init 62 = .ok (.getfield 21, 3) := by decide +kernel
theorem dX11_init_65 : decode cX11_init 65 = .ok (.aload_n 0, 1) := by decide +kernel
theorem dX11_init_66 : decode cX11_init 66 = .ok (.getfield 28, 3) := by decide +kernel
theorem dX11_init_69 : decode cX11_init 69 = .ok (.aload_n 0, 1) := by decide +kernel
theorem dX11_init_70 : decode cX11_init 70 = .ok (.getfield 37, 3) := by decide +kernel
theorem dX11_init_73 : decode cX11_init 73 = .ok (.invokespecial 43, 3) := by decide +kernel
theorem dX11_init_76 : decode cX11_init 76 = .ok (.putfield 46, 3) := by decide +kernel
theorem dX11_init_79 : decode cX11_init 79 = .ok (.aload_n 0, 1) := by decide +kernel
theorem dX11_init_80 : decode cX11_init 80 = .ok (.new 50, 3) := by decide +kernel
theorem dX11_init_83 : decode cX11_init 83 = .ok (.dup, 1) := by decide +kernel
theorem dX11_init_84 : decode cX11_init 84 = .ok (.aload_n 0, 1) := by decide +kernel
theorem dX11_init_85 : decode cX11_init 85 = .ok (.getfield 21, 3) := by decide +kernel
theorem dX11_init_88 : decode cX11_init 88 = .ok (.aload_n 0, 1) := by decide +kernel
theorem dX11_init_89 : decode cX11_init 89 = .ok (.getfield 28, 3) := by decide +kernel
theorem dX11_init_92 : decode cX11_init 92 = .ok (.aload_n 0, 1) := by decide +kernel
theorem dX11_init_93 : decode cX11_init 93 = .ok (.getfield 37, 3) := by decide +kernel
theorem dX11_init_96 : decode cX11_init 96 = .ok (.aload_n 0, 1) := by decide +kernel
theorem dX11_init_97 : decode cX11_init 97 = .ok (.getfield 46, 3) := by decide +kernel
theorem dX11_init_100 : decode cX11_init 100 = .ok (.invokespecial 52, 3) := by decide +kernel
theorem dX11_init_103 : decode cX11_init 103 = .ok (.putfield 55, 3) := by decide +kernel
theorem dX11_init_106 : decode cX11_init 106 = .ok (.aload_n 0, 1) := by decide +kernel
theorem dX11_init_107 : decode cX11_init 107 = .ok (.new 59, 3) := by decide +kernel
theorem dX11_init_110 : decode cX11_init 110 = .ok (.dup, 1) := by decide +kernel
theorem dX11_init_111 : decode cX11_init 111 = .ok (.aload_n 0, 1) := by decide +kernel
theorem dX11_init_112 : decode cX11_init 112 = .ok (.getfield 21, 3) := by decide +kernel
theorem dX11_init_115 : decode cX11_init 115 = .ok (.aload_n 0, 1) := by decide +kernel
theorem dX11_init_116 : decode cX11_init 116 = .ok (.getfield 37, 3) := by decide +kernel
theorem dX11_init_119 : decode cX11_init 119 = .ok (.aload_n 0, 1) := by decide +kernel
theorem dX11_init_120 : decode cX11_init 120 = .ok (.getfield 55, 3) := by decide +kernel
theorem dX11_init_123 : decode cX11_init 123 = .ok (.invokespecial 61, 3) := by decide +kernel
theorem dX11_init_126 : decode cX11_init 126 = .ok (.putfield 64, 3) := by decide +kernel
theorem dX11_init_129 : decode cX11_init 129 = .ok (.aload_n 0, 1) := by decide +kernel
theorem dX11_init_130 : decode cX11_init 130 = .ok (.new 68, 3) := by decide +kernel
theorem dX11_init_133 : decode cX11_init 133 = .ok (.dup, 1) := by decide +kernel
theorem dX11_init_134 : decode cX11_init 134 = .ok (.aload_n 0, 1) := by decide +kernel
theorem dX11_init_135 : decode cX11_init 135 = .ok (.getfield 21, 3) := by decide +kernel
theorem dX11_init_138 : decode cX11_init 138 = .ok (.aload_n 0, 1) := by decide +kernel
theorem dX11_init_139 : decode cX11_init 139 = .ok (.getfield 37, 3) := by decide +kernel
theorem dX11_init_142 : decode cX11_init 142 = .ok (.aload_n 0, 1) := by decide +kernel
theorem dX11_init_143 : decode cX11_init 143 = .ok (.getfield 55, 3) := by decide +kernel
theorem dX11_init_146 : decode cX11_init 146 = .ok (.aload_n 0, 1) := by decide +kernel
theorem dX11_init_147 : decode cX11_init 147 = .ok (.getfield 46, 3) := by decide +kernel
theorem dX11_init_150 : decode cX11_init 150 = .ok (.invokespecial 70, 3) := by decide +kernel
theorem dX11_init_153 : decode cX11_init 153 = .ok (.putfield 73, 3) := by decide +kernel
theorem dX11_init_156 : decode cX11_init 156 = .ok (.aload_n 0, 1) := by decide +kernel
theorem dX11_init_157 : decode cX11_init 157 = .ok (.new 77, 3) := by decide +kernel
theorem dX11_init_160 : decode cX11_init 160 = .ok (.dup, 1) := by decide +kernel
theorem dX11_init_161 : decode cX11_init 161 = .ok (.aload_n 0, 1) := by decide +kernel
theorem dX11_init_162 : decode cX11_init 162 = .ok (.getfield 21, 3) := by decide +kernel
theorem dX11_init_165 : decode cX11_init 165 = .ok (.aload_n 0, 1) := by decide +kernel
theorem dX11_init_166 : decode cX11_init 166 = .ok (.getfield 28, 3) := by decide +kernel
theorem dX11_init_169 : decode cX11_init 169 = .ok (.aload_n 0, 1) := by decide +kernel
theorem dX11_init_170 : decode cX11_init 170 = .ok (.getfield 37, 3) := by decide +kernel
theorem dX11_init_173 : decode cX11_init 173 = .ok (.invokespecial 79, 3) := by decide +kernel
theorem dX11_init_176 : decode cX11_init 176 = .ok (.putfield 80, 3) := by decide +kernel
theorem dX11_init_179 : decode cX11_init 179 = .ok (.return_, 1) := by decide +kernel
theorem dX11_defineKind_0 : decode cX11_defineKind 0 = .ok (.iload_n 1, 1) := by decide +kernel
theorem dX11_defineKind_1 : decode cX11_defineKind 1 = .ok (.iconst (-1), 1) := by decide +kernel
theorem dX11_defineKind_2 : decode cX11_defineKind 2 = .ok (.if_icmp .eq 8, 3) := by decide +kernel
theorem dX11_defineKind_5 : decode cX11_defineKind 5 = .ok (.aload_n 0, 1) := by decide +kernel
theorem dX11_defineKind_6 : decode cX11_defineKind 6 = .ok (.iload_n 1, 1) := by decide +kernel
theorem dX11_defineKind_7 : decode cX11_defineKind 7 = .ok (.invokevirtual 84, 3) := by decide +kernel
theorem dX11_defineKind_10 : decode cX11_defineKind 10 = .ok (.iload_n 2, 1) := by decide +kernel
theorem dX11_defineKind_11 : decode cX11_defineKind 11 = .ok (.ifCond .lt 21, 3) := by decide +kernel
theorem dX11_defineKind_14 : decode cX11_defineKind 14 = .ok (.iload_n 2, 1) := by decide +kernel
theorem dX11_defineKind_15 : decode cX11_defineKind 15 = .ok (.iconst 4, 1) := by decide +kernel
theorem dX11_defineKind_16 : decode cX11_defineKind 16 = .ok (.if_icmp .gt 16, 3) := by decide +kernel
theorem dX11_defineKind_19 : decode cX11_defineKind 19 = .ok (.iload_n 3, 1) := by decide +kernel
theorem dX11_defineKind_20 : decode cX11_defineKind 20 = .ok (.ifCond .lt 12, 3) := by decide +kernel
theorem dX11_defineKind_23 : decode cX11_defineKind 23 = .ok (.iload_n 3, 1) := by decide +kernel
theorem dX11_defineKind_24 : decode cX11_defineKind 24 = .ok (.iconst 4, 1) := by decide +kernel
theorem dX11_defineKind_25 : decode cX11_defineKind 25 = .ok (.if_icmp .gt 7, 3) := by decide +kernel
theorem dX11_defineKind_28 : decode cX11_defineKind 28 = .ok (.iconst 1, 1) := by decide +kernel
theorem dX11_defineKind_29 : decode cX11_defineKind 29 = .ok (.goto 4, 3) := by decide +kernel
theorem dX11_defineKind_32 : decode cX11_defineKind 32 = .ok (.iconst 0, 1) := by decide +kernel
theorem dX11_defineKind_33 : decode cX11_defineKind 33 = .ok (.istore 5, 2) := by decide +kernel
theorem dX11_defineKind_35 : decode cX11_defineKind 35 = .ok (.iload 5, 2) := by decide +kernel
theorem dX11_defineKind_37 : decode cX11_defineKind 37 = .ok (.ifCond .eq 31, 3) := by decide +kernel
theorem dX11_defineKind_40 : decode cX11_defineKind 40 = .ok (.aload_n 0, 1) := by decide +kernel
theorem dX11_defineKind_41 : decode cX11_defineKind 41 = .ok (.getfield 12, 3) := by decide +kernel
theorem dX11_defineKind_44 : decode cX11_defineKind 44 = .ok (.iload_n 1, 1) := by decide +kernel
theorem dX11_defineKind_45 : decode cX11_defineKind 45 = .ok (.iload_n 2, 1) := by decide +kernel
theorem dX11_defineKind_46 : decode cX11_defineKind 46 = .ok (.invokevirtual 88, 3) := by decide +kernel
theorem dX11_defineKind_49 : decode cX11_defineKind 49 = .ok (.bipush 8, 2) := by decide +kernel
theorem dX11_defineKind_51 : decode cX11_defineKind 51 = .ok (.if_icmp .gt 17, 3) := by decide +kernel
theorem dX11_defineKind_54 : decode cX11_defineKind 54 = .ok (.aload_n 0, 1) := by decide +kernel
theorem dX11_defineKind_55 : decode cX11_defineKind 55 = .ok (.getfield 12, 3) := by decide +kernel
theorem dX11_defineKind_58 : decode cX11_defineKind 58 = .ok (.iload_n 1, 1) := by decide +kernel
theorem dX11_defineKind_59 : decode cX11_defineKind 59 = .ok (.iload_n 3, 1) := by decide +kernel
theorem dX11_defineKind_60 : decode cX11_defineKind 60 = .ok (.invokevirtual 92, 3) := by decide +kernel
theorem dX11_defineKind_63 : decode cX11_defineKind 63 = .ok (.bipush 8, 2) := by decide +kernel
theorem dX11_defineKind_65 : decode cX11_defineKind 65 = .ok (.if_icmp .le 13, 3) := by decide +kernel
theorem dX11_defineKind_68 : decode cX11_defineKind 68 = .ok (.new 95, 3) := by decide +kernel
theorem dX11_defineKind_71 : decode cX11_defineKind 71 = .ok (.dup, 1) := by decide +kernel
theorem dX11_defineKind_72 : decode cX11_defineKind 72 = .ok (.ldc 97, 2) := by decide +kernel
theorem dX11_defineKind_74 : decode cX11_defineKind 74 = .ok (.invokespecial 99, 3) := by decide +kernel
theorem dX11_defineKind_77 : decode cX11_defineKind 77 = .ok (.athrow, 1) := by decide +kernel
theorem dX11_defineKind_78 : decode cX11_defineKind 78 = .ok (.aload_n 0, 1) := by decide +kernel
theorem dX11_defineKind_79 : decode cX11_defineKind 79 = .ok (.getfield 12, 3) := by decide +kernel
theorem dX11_defineKind_82 : decode cX11_defineKind 82 = .ok (.getfield 102, 3) := by decide +kernel
theorem dX11_defineKind_85 : decode cX11_defineKind 85 = .ok (.bipush 12, 2) := by decide +kernel
theorem dX11_defineKind_87 : decode cX11_defineKind 87 = .ok (.if_icmp .lt 13, 3) := by decide +kernel
theorem dX11_defineKind_90 : decode cX11_defineKind 90 = .ok (.new 106, 3) := by decide +kernel
theorem dX11_defineKind_93 : decode cX11_defineKind 93 = .ok (.dup, 1) := by decide +kernel
theorem dX11_defineKind_94 : decode cX11_defineKind 94 = .ok (.ldc 108, 2) := by decide +kernel
theorem dX11_defineKind_96 : decode cX11_defineKind 96 = .ok (.invokespecial 110, 3) := by decide +kernel
theorem dX11_defineKind_99 : decode cX11_defineKind 99 = .ok (.athrow, 1) := by decide +kernel
theorem dX11_defineKind_100 : decode cX11_defineKind 100 = .ok (.aload_n 0, 1) := by decide +kernel
theorem dX11_defineKind_101 : decode cX11_defineKind 101 = .ok (.getfield 12, 3) := by decide +kernel
theorem dX11_defineKind_104 : decode cX11_defineKind 104 = .ok (.iload_n 1, 1) := by decide +kernel
theorem dX11_defineKind_105 : decode cX11_defineKind 105 = .ok (.iload_n 2, 1) := by decide +kernel
theorem dX11_defineKind_106 : decode cX11_defineKind 106 = .ok (.iload_n 3, 1) := by decide +kernel
theorem dX11_defineKind_107 : decode cX11_defineKind 107 = .ok (.iload 4, 2) := by decide +kernel
theorem dX11_defineKind_109 : decode cX11_defineKind 109 = .ok (.invokevirtual 111, 3) := by decide +kernel
theorem dX11_defineKind_112 : decode cX11_defineKind 112 = .ok (.ireturn, 1) := by decide +kernel
theorem dX11_push_0 : decode cX11_push 0 = .ok (.iload_n 1, 1) := by decide +kernel
theorem dX11_push_1 : decode cX11_push 1 = .ok (.iconst 1, 1) := by decide +kernel
theorem dX11_push_2 : decode cX11_push 2 = .ok (.if_icmp .lt 9, 3) := by decide +kernel
theorem dX11_push_5 : decode cX11_push 5 = .ok (.iload_n 1, 1) := by decide +kernel
theorem dX11_push_6 : decode cX11_push 6 = .ok (.bipush 8, 2) := by decide +kernel
theorem dX11_push_8 : decode cX11_push 8 = .ok (.if_icmp .le 13, 3) := by decide +kernel
theorem dX11_push_11 : decode cX11_push 11 = .ok (.new 95, 3) := by decide +kernel
theorem dX11_push_14 : decode cX11_push 14 = .ok (.dup, 1) := by decide +kernel
theorem dX11_push_15 : decode cX11_push 15 = .ok (.ldc 115, 2) := by decide +kernel
theorem dX11_push_17 : decode cX11_push 17 = .ok (.invokespecial 99, 3) := by decide +kernel
theorem dX11_push_20 : decode cX11_push 20 = .ok (.athrow, 1) := by decide +kernel
theorem dX11_push_21 : decode cX11_push 21 = .ok (.aload_n 0, 1) := by decide +kernel
theorem dX11_push_22 : decode cX11_push 22 = .ok (.getfield 28, 3) := by decide +kernel
theorem dX11_push_25 : decode cX11_push 25 = .ok (.getfield 117, 3) := by decide +kernel
theorem dX11_push_28 : decode cX11_push 28 = .ok (.bipush 8, 2) := by decide +kernel
theorem dX11_push_30 : decode cX11_push 30 = .ok (.if_icmp .lt 13, 3) := by decide +kernel
theorem dX11_push_33 : decode cX11_push 33 = .ok (.new 106, 3) := by decide +kernel
theorem dX11_push_36 : decode cX11_push 36 = .ok (.dup, 1) := by decide +kernel
theorem dX11_push_37 : decode cX11_push 37 = .ok (.ldc 120, 2) := by decide +kernel
theorem dX11_push_39 : decode cX11_push 39 = .ok (.invokespecial 110, 3) := by decide +kernel
theorem dX11_push_42 : decode cX11_push 42 = .ok (.athrow, 1) := by decide +kernel
theorem dX11_push_43 : decode cX11_push 43 = .ok (.aload_n 0, 1) := by decide +kernel
theorem dX11_push_44 : decode cX11_push 44 = .ok (.getfield 28, 3) := by decide +kernel
theorem dX11_push_47 : decode cX11_push 47 = .ok (.iload_n 1, 1) := by decide +kernel
theorem dX11_push_48 : decode cX11_push 48 = .ok (.invokevirtual 122, 3) := by decide +kernel
theorem dX11_push_51 : decode cX11_push 51 = .ok (.aload_n 0, 1) := by decide +kernel
theorem dX11_push_52 : decode cX11_push 52 = .ok (.getfield 28, 3) := by decide +kernel
theorem dX11_push_55 : decode cX11_push 55 = .ok (.getfield 117, 3) := by decide +kernel
theorem dX11_push_58 : decode cX11_push 58 = .ok (.ireturn, 1) := by decide +kernel
theorem dX11_pop_0 : decode cX11_pop 0 = .ok (.aload_n 0, 1) := by decide +kernel
theorem dX11_pop_1 : decode cX11_pop 1 = .ok (.iload_n 1, 1) := by decide +kernel
theorem dX11_pop_2 : decode cX11_pop 2 = .ok (.invokevirtual 125, 3) := by decide +kernel
theorem dX11_pop_5 : decode cX11_pop 5 = .ok (.aload_n 0, 1) := by decide +kernel
theorem dX11_pop_6 : decode cX11_pop 6 = .ok (.getfield 28, 3) := by decide +kernel
theorem dX11_pop_9 : decode cX11_pop 9 = .ok (.getfield 117, 3) := by decide +kernel
theorem dX11_pop_12 : decode cX11_pop 12 = .ok (.iconst 1, 1) := by decide +kernel
theorem dX11_pop_13 : decode cX11_pop 13 = .ok (.if_icmp .gt 13, 3) := by decide +kernel
theorem dX11_pop_16 : decode cX11_pop 16 = .ok (.new 106, 3) := by decide +kernel
theorem dX11_pop_19 : decode cX11_pop 19 = .ok (.dup, 1) := by decide +kernel
theorem dX11_pop_20 : decode cX11_pop 20 = .ok (.ldc 128, 2) := by decide +kernel
theorem dX11_pop_22 : decode cX11_pop 22 = .ok (.invokespecial 110, 3) := by decide +kernel
theorem dX11_pop_25 : decode cX11_pop 25 = .ok (.athrow, 1) := by decide +kernel
theorem dX11_pop_26 : decode cX11_pop 26 = .ok (.aload_n 0, 1) := by decide +kernel
theorem dX11_pop_27 : decode cX11_pop 27 = .ok (.getfield 28, 3) := by decide +kernel
theorem dX11_pop_30 : decode cX11_pop 30 = .ok (.iload_n 1, 1) := by decide +kernel
theorem dX11_pop_31 : decode cX11_pop 31 = .ok (.invokevirtual 130, 3) := by decide +kernel
theorem dX11_pop_34 : decode cX11_pop 34 = .ok (.istore_n 2, 1) := by decide +kernel
theorem dX11_pop_35 : decode cX11_pop 35 = .ok (.aload_n 0, 1) := by decide +kernel
theorem dX11_pop_36 : decode cX11_pop 36 = .ok (.getfield 28, 3) := by decide +kernel
theorem dX11_pop_39 : decode cX11_pop 39 = .ok (.invokevirtual 134, 3) := by decide +kernel
theorem dX11_pop_42 : decode cX11_pop 42 = .ok (.aload_n 0, 1) := by decide +kernel
theorem dX11_pop_43 : decode cX11_pop 43 = .ok (.getfield 28, 3) := by decide +kernel
theorem dX11_pop_46 : decode cX11_pop 46 = .ok (.iconst 0, 1) := by decide +kernel
theorem dX11_pop_47 : decode cX11_pop 47 = .ok (.iload_n 2, 1) := by decide +kernel
theorem dX11_pop_48 : decode cX11_pop 48 = .ok (.invokevirtual 137, 3) := by decide +kernel
theorem dX11_pop_51 : decode cX11_pop 51 = .ok (.aload_n 0, 1) := by decide +kernel
theorem dX11_pop_52 : decode cX11_pop 52 = .ok (.getfield 21, 3) := by decide +kernel
theorem dX11_pop_55 : decode cX11_pop 55 = .ok (.iload_n 2, 1) := by decide +kernel
theorem dX11_pop_56 : decode cX11_pop 56 = .ok (.invokevirtual 141, 3) := by decide +kernel
theorem dX11_pop_59 : decode cX11_pop 59 = .ok (.ireturn, 1) := by decide +kernel
theorem dX11_assign_0 : decode cX11_assign 0 = .ok (.aload_n 0, 1) := by decide +kernel
theorem dX11_assign_1 : decode cX11_assign 1 = .ok (.iload_n 1, 1) := by decide +kernel
theorem dX11_assign_2 : decode cX11_assign 2 = .ok (.invokevirtual 125, 3) := by decide +kernel
theorem dX11_assign_5 : decode cX11_assign 5 = .ok (.aload_n 0, 1) := by decide +kernel
theorem dX11_assign_6 : decode cX11_assign 6 = .ok (.iload_n 2, 1) := by decide +kernel
theorem dX11_assign_7 : decode cX11_assign 7 = .ok (.invokevirtual 125, 3) := by decide +kernel
theorem dX11_assign_10 : decode cX11_assign 10 = .ok (.aload_n 0, 1) := by decide +kernel
theorem dX11_assign_11 : decode cX11_assign 11 = .ok (.iload_n 1, 1) := by decide +kernel
theorem dX11_assign_12 : decode cX11_assign 12 = .ok (.aload_n 0, 1) := by decide +kernel
theorem dX11_assign_13 : decode cX11_assign 13 = .ok (.getfield 28, 3) := by decide +kernel
theorem dX11_assign_16 : decode cX11_assign 16 = .ok (.iload_n 2, 1) := by decide +kernel
theorem dX11_assign_17 : decode cX11_assign 17 = .ok (.invokevirtual 130, 3) := by decide +kernel
theorem dX11_assign_20 : decode cX11_assign 20 = .ok (.invokevirtual 144, 3) := by decide +kernel
theorem dX11_assign_23 : decode cX11_assign 23 = .ok (.ireturn, 1) := by decide +kernel
theorem dX11_clear_0 : decode cX11_clear 0 = .ok (.aload_n 0, 1) := by decide +kernel
theorem dX11_clear_1 : decode cX11_clear 1 = .ok (.iload_n 1, 1) := by decide +kernel
theorem dX11_clear_2 : decode cX11_clear 2 = .ok (.invokevirtual 125, 3) := by decide +kernel
theorem dX11_clear_5 : decode cX11_clear 5 = .ok (.aload_n 0, 1) := by decide +kernel
theorem dX11_clear_6 : decode cX11_clear 6 = .ok (.getfield 28, 3) := by decide +kernel
theorem dX11_clear_9 : decode cX11_clear 9 = .ok (.iload_n 1, 1) := by decide +kernel
theorem dX11_clear_10 : decode cX11_clear 10 = .ok (.invokevirtual 130, 3) := by decide +kernel
theorem dX11_clear_13 : decode cX11_clear 13 = .ok (.istore_n 2, 1) := by decide +kernel
theorem dX11_clear_14 : decode cX11_clear 14 = .ok (.aload_n 0, 1) := by decide +kernel
theorem dX11_clear_15 : decode cX11_clear 15 = .ok (.getfield 28, 3) := by decide +kernel
theorem dX11_clear_18 : decode cX11_clear 18 = .ok (.iload_n 1, 1) := by decide +kernel
theorem dX11_clear_19 : decode cX11_clear 19 = .ok (.iconst (-1), 1) := by decide +kernel
theorem dX11_clear_20 : decode cX11_clear 20 = .ok (.invokevirtual 137, 3) := by decide +kernel
theorem dX11_clear_23 : decode cX11_clear 23 = .ok (.aload_n 0, 1) := by decide +kernel
theorem dX11_clear_24 : decode cX11_clear 24 = .ok (.getfield 21, 3) := by decide +kernel
theorem dX11_clear_27 : decode cX11_clear 27 = .ok (.iload_n 2, 1) := by decide +kernel
theorem dX11_clear_28 : decode cX11_clear 28 = .ok (.invokevirtual 141, 3) := by decide +kernel
theorem dX11_clear_31 : decode cX11_clear 31 = .ok (.ireturn, 1) := by decide +kernel
theorem dX11_toGlobal_0 : decode cX11_toGlobal 0 = .ok (.aload_n 0, 1) := by decide +kernel
theorem dX11_toGlobal_1 : decode cX11_toGlobal 1 = .ok (.iload_n 1, 1) := by decide +kernel
theorem dX11_toGlobal_2 : decode cX11_toGlobal 2 = .ok (.invokevirtual 147, 3) := by decide +kernel
theorem dX11_toGlobal_5 : decode cX11_toGlobal 5 = .ok (.aload_n 0, 1) := by decide +kernel
theorem dX11_toGlobal_6 : decode cX11_toGlobal 6 = .ok (.iload_n 2, 1) := by decide +kernel
theorem dX11_toGlobal_7 : decode cX11_toGlobal 7 = .ok (.invokevirtual 125, 3) := by decide +kernel
theorem dX11_toGlobal_10 : decode cX11_toGlobal 10 = .ok (.aload_n 0, 1) := by decide +kernel
theorem dX11_toGlobal_11 : decode cX11_toGlobal 11 = .ok (.getfield 28, 3) := by decide +kernel
theorem dX11_toGlobal_14 : decode cX11_toGlobal 14 = .ok (.getfield 150, 3) := by decide +kernel
theorem dX11_toGlobal_17 : decode cX11_toGlobal 17 = .ok (.iload_n 1, 1) := by decide +kernel
theorem dX11_toGlobal_18 : decode cX11_toGlobal 18 = .ok (.iaload, 1) := by decide +kernel
theorem dX11_toGlobal_19 : decode cX11_toGlobal 19 = .ok (.istore_n 3, 1) := by decide +kernel
theorem dX11_toGlobal_20 : decode cX11_toGlobal 20 = .ok (.aload_n 0, 1) := by decide +kernel
theorem dX11_toGlobal_21 : decode cX11_toGlobal 21 = .ok (.getfield 28, 3) := by decide +kernel
theorem dX11_toGlobal_24 : decode cX11_toGlobal 24 = .ok (.getfield 150, 3) := by decide +kernel
theorem dX11_toGlobal_27 : decode cX11_toGlobal 27 = .ok (.iload_n 1, 1) := by decide +kernel
theorem dX11_toGlobal_28 : decode cX11_toGlobal 28 = .ok (.aload_n 0, 1) := by decide +kernel
theorem dX11_toGlobal_29 : decode cX11_toGlobal 29 = .ok (.getfield 28, 3) := by decide +kernel
theorem dX11_toGlobal_32 : decode cX11_toGlobal 32 = .ok (.iload_n 2, 1) := by decide +kernel
theorem dX11_toGlobal_33 : decode cX11_toGlobal 33 = .ok (.invokevirtual 130, 3) := by decide +kernel
theorem dX11_toGlobal_36 : decode cX11_toGlobal 36 = .ok (.iastore, 1) := by decide +kernel
theorem dX11_toGlobal_37 : decode cX11_toGlobal 37 = .ok (.aload_n 0, 1) := by decide +kernel
theorem dX11_toGlobal_38 : decode cX11_toGlobal 38 = .ok (.getfield 21, 3) := by decide +kernel
theorem dX11_toGlobal_41 : decode cX11_toGlobal 41 = .ok (.iload_n 3, 1) := by decide +kernel
theorem dX11_toGlobal_42 : decode cX11_toGlobal 42 = .ok (.invokevirtual 141, 3) := by decide +kernel
theorem dX11_toGlobal_45 : decode cX11_toGlobal 45 = .ok (.ireturn, 1) := by decide +kernel
theorem dX11_fromGlobal_0 : decode cX11_fromGlobal 0 = .ok (.aload_n 0, 1) := by decide +kernel
theorem dX11_fromGlobal_1 : decode cX11_fromGlobal 1 = .ok (.iload_n 1, 1) := by decide +kernel
theorem dX11_fromGlobal_2 : decode cX11_fromGlobal 2 = .ok (.invokevirtual 125, 3) := by decide +kernel
theorem dX11_fromGlobal_5 : decode cX11_fromGlobal 5 = .ok (.aload_n 0, 1) := by decide +kernel
theorem dX11_fromGlobal_6 : decode cX11_fromGlobal 6 = .ok (.iload_n 2, 1) := by decide +kernel
theorem dX11_fromGlobal_7 : decode cX11_fromGlobal 7 = .ok (.invokevirtual 147, 3) := by decide +kernel
theorem dX11_fromGlobal_10 : decode cX11_fromGlobal 10 = .ok (.aload_n 0, 1) := by decide +kernel
theorem dX11_fromGlobal_11 : decode cX11_fromGlobal 11 = .ok (.iload_n 1, 1) := by decide +kernel
theorem dX11_fromGlobal_12 : decode cX11_fromGlobal 12 = .ok (.aload_n 0, 1) := by decide +kernel
theorem dX11_fromGlobal_13 : decode cX11_fromGlobal 13 = .ok (.getfield 28, 3) := by decide +kernel
theorem dX11_fromGlobal_16 : decode cX11_fromGlobal 16 = .ok (.getfield 150, 3) := by decide +kernel
theorem dX11_fromGlobal_19 : decode cX11_fromGlobal 19 = .ok (.iload_n 2, 1) := by decide +kernel
theorem dX11_fromGlobal_20 : decode cX11_fromGlobal 20 = .ok (.iaload, 1) := by decide +kernel
theorem dX11_fromGlobal_21 : decode cX11_fromGlobal 21 = .ok (.invokevirtual 144, 3) := by decide +kernel
theorem dX11_fromGlobal_24 : decode cX11_fromGlobal 24 = .ok (.ireturn, 1) := by decide +kernel
theorem dX11_newObject_0 : decode cX11_newObject 0 = .ok (.aload_n 0, 1) := by decide +kernel
theorem dX11_newObject_1 : decode cX11_newObject 1 = .ok (.iload_n 1, 1) := by decide +kernel
theorem dX11_newObject_2 : decode cX11_newObject 2 = .ok (.invokevirtual 125, 3) := by decide +kernel
theorem dX11_newObject_5 : decode cX11_newObject 5 = .ok (.aload_n 0, 1) := by decide +kernel
theorem dX11_newObject_6 : decode cX11_newObject 6 = .ok (.getfield 12, 3) := by decide +kernel
theorem dX11_newObject_9 : decode cX11_newObject 9 = .ok (.iload_n 2, 1) := by decide +kernel
theorem dX11_newObject_10 : decode cX11_newObject 10 = .ok (.invokevirtual 154, 3) := by decide +kernel
theorem dX11_newObject_13 : decode cX11_newObject 13 = .ok (.ifCond .ne 13, 3) := by decide +kernel
theorem dX11_newObject_16 : decode cX11_newObject 16 = .ok (.new 95, 3) := by decide +kernel
theorem dX11_newObject_19 : decode cX11_newObject 19 = .ok (.dup, 1) := by decide +kernel
theorem dX11_newObject_20 : decode cX11_newObject 20 = .ok (.ldc 158, 2) := by decide +kernel
theorem dX11_newObject_22 : decode cX11_newObject 22 = .ok (.invokespecial 99, 3) := by decide +kernel
theorem dX11_newObject_25 : decode cX11_newObject 25 = .ok (.athrow, 1) := by decide +kernel
theorem dX11_newObject_26 : decode cX11_newObject 26 = .ok (.aload_n 0, 1) := by decide +kernel
theorem dX11_newObject_27 : decode cX11_newObject 27 = .ok (.getfield 21, 3) := by decide +kernel
theorem dX11_newObject_30 : decode cX11_newObject 30 = .ok (.aload_n 0, 1) := by decide +kernel
theorem dX11_newObject_31 : decode cX11_newObject 31 = .ok (.iload_n 1, 1) := by decide +kernel
theorem dX11_newObject_32 : decode cX11_newObject 32 = .ok (.iconst 0, 1) := by decide +kernel
theorem dX11_newObject_33 : decode cX11_newObject 33 = .ok (.iload_n 2, 1) := by decide +kernel
theorem dX11_newObject_34 : decode cX11_newObject 34 = .ok (.aload_n 0, 1) := by decide +kernel
theorem dX11_newObject_35 : decode cX11_newObject 35 = .ok (.getfield 12, 3) := by decide +kernel
theorem dX11_newObject_38 : decode cX11_newObject 38 = .ok (.getfield 160, 3) := by decide +kernel
theorem dX11_newObject_41 : decode cX11_newObject 41 = .ok (.iload_n 2, 1) := by decide +kernel
theorem dX11_newObject_42 : decode cX11_newObject 42 = .ok (.iaload, 1) := by decide +kernel
theorem dX11_newObject_43 : decode cX11_newObject 43 = .ok (.invokevirtual 163, 3) := by decide +kernel
theorem dX11_newObject_46 : decode cX11_newObject 46 = .ok (.invokevirtual 141, 3) := by decide +kernel
theorem dX11_newObject_49 : decode cX11_newObject 49 = .ok (.ireturn, 1) := by decide +kernel
theorem dX11_newRow_0 : decode cX11_newRow 0 = .ok (.aload_n 0, 1) := by decide +kernel
theorem dX11_newRow_1 : decode cX11_newRow 1 = .ok (.iload_n 1, 1) := by decide +kernel
theorem dX11_newRow_2 : decode cX11_newRow 2 = .ok (.invokevirtual 125, 3) := by decide +kernel
theorem dX11_newRow_5 : decode cX11_newRow 5 = .ok (.aload_n 0, 1) := by decide +kernel
theorem dX11_newRow_6 : decode cX11_newRow 6 = .ok (.iload_n 2, 1) := by decide +kernel
theorem dX11_newRow_7 : decode cX11_newRow 7 = .ok (.iconst 0, 1) := by decide +kernel
theorem dX11_newRow_8 : decode cX11_newRow 8 = .ok (.bipush 40, 2) := by decide +kernel
theorem dX11_newRow_10 : decode cX11_newRow 10 = .ok (.invokevirtual 167, 3) := by decide +kernel
theorem dX11_newRow_13 : decode cX11_newRow 13 = .ok (.aload_n 0, 1) := by decide +kernel
theorem dX11_newRow_14 : decode cX11_newRow 14 = .ok (.getfield 21, 3) := by decide +kernel
theorem dX11_newRow_17 : decode cX11_newRow 17 = .ok (.aload_n 0, 1) := by decide +kernel
theorem dX11_newRow_18 : decode cX11_newRow 18 = .ok (.iload_n 1, 1) := by decide +kernel
theorem dX11_newRow_19 : decode cX11_newRow 19 = .ok (.iconst 1, 1) := by decide +kernel
theorem dX11_newRow_20 : decode cX11_newRow 20 = .ok (.iconst (-1), 1) := by decide +kernel
theorem dX11_newRow_21 : decode cX11_newRow 21 = .ok (.iload_n 2, 1) := by decide +kernel
theorem dX11_newRow_22 : decode cX11_newRow 22 = .ok (.invokevirtual 163, 3) := by decide +kernel
theorem dX11_newRow_25 : decode cX11_newRow 25 = .ok (.invokevirtual 141, 3) := by decide +kernel
theorem dX11_newRow_28 : decode cX11_newRow 28 = .ok (.ireturn, 1) := by decide +kernel
theorem dX11_newText_0 : decode cX11_newText 0 = .ok (.aload_n 0, 1) := by decide +kernel
theorem dX11_newText_1 : decode cX11_newText 1 = .ok (.iload_n 1, 1) := by decide +kernel
theorem dX11_newText_2 : decode cX11_newText 2 = .ok (.invokevirtual 125, 3) := by decide +kernel
theorem dX11_newText_5 : decode cX11_newText 5 = .ok (.aload_n 0, 1) := by decide +kernel
theorem dX11_newText_6 : decode cX11_newText 6 = .ok (.iload_n 2, 1) := by decide +kernel
theorem dX11_newText_7 : decode cX11_newText 7 = .ok (.iconst 0, 1) := by decide +kernel
theorem dX11_newText_8 : decode cX11_newText 8 = .ok (.bipush 120, 2) := by decide +kernel
theorem dX11_newText_10 : decode cX11_newText 10 = .ok (.invokevirtual 167, 3) := by decide +kernel
theorem dX11_newText_13 : decode cX11_newText 13 = .ok (.aload_n 0, 1) := by decide +kernel
theorem dX11_newText_14 : decode cX11_newText 14 = .ok (.getfield 21, 3) := by decide +kernel
theorem dX11_newText_17 : decode cX11_newText 17 = .ok (.aload_n 0, 1) := by decide +kernel
theorem dX11_newText_18 : decode cX11_newText 18 = .ok (.iload_n 1, 1) := by decide +kernel
theorem dX11_newText_19 : decode cX11_newText 19 = .ok (.iconst 2, 1) := by decide +kernel
theorem dX11_newText_20 : decode cX11_newText 20 = .ok (.iconst (-1), 1) := by decide +kernel
theorem dX11_newText_21 : decode cX11_newText 21 = .ok (.iload_n 2, 1) := by decide +kernel
theorem dX11_newText_22 : decode cX11_newText 22 = .ok (.invokevirtual 163, 3) := by decide +kernel
theorem dX11_newText_25 : decode cX11_newText 25 = .ok (.invokevirtual 141, 3) := by decide +kernel
theorem dX11_newText_28 : decode cX11_newText 28 = .ok (.ireturn, 1) := by decide +kernel
theorem dX11_newWeak_0 : decode cX11_newWeak 0 = .ok (.aload_n 0, 1) := by decide +kernel
theorem dX11_newWeak_1 : decode cX11_newWeak 1 = .ok (.iload_n 1, 1) := by decide +kernel
theorem dX11_newWeak_2 : decode cX11_newWeak 2 = .ok (.invokevirtual 125, 3) := by decide +kernel
theorem dX11_newWeak_5 : decode cX11_newWeak 5 = .ok (.aload_n 0, 1) := by decide +kernel
theorem dX11_newWeak_6 : decode cX11_newWeak 6 = .ok (.iload_n 2, 1) := by decide +kernel
theorem dX11_newWeak_7 : decode cX11_newWeak 7 = .ok (.invokevirtual 171, 3) := by decide +kernel
theorem dX11_newWeak_10 : decode cX11_newWeak 10 = .ok (.istore 4, 2) := by decide +kernel
theorem dX11_newWeak_12 : decode cX11_newWeak 12 = .ok (.aload_n 0, 1) := by decide +kernel
theorem dX11_newWeak_13 : decode cX11_newWeak 13 = .ok (.aload_n 0, 1) := by decide +kernel
theorem dX11_newWeak_14 : decode cX11_newWeak 14 = .ok (.iload_n 1, 1) := by decide +kernel
theorem dX11_newWeak_15 : decode cX11_newWeak 15 = .ok (.iconst 3, 1) := by decide +kernel
theorem dX11_newWeak_16 : decode cX11_newWeak 16 = .ok (.iconst (-1), 1) := by decide +kernel
theorem dX11_newWeak_17 : decode cX11_newWeak 17 = .ok (.iconst 1, 1) := by decide +kernel
theorem dX11_newWeak_18 : decode cX11_newWeak 18 = .ok (.invokevirtual 163, 3) := by decide +kernel
theorem dX11_newWeak_21 : decode cX11_newWeak 21 = .ok (.iload 4, 2) := by decide +kernel
theorem dX11_newWeak_23 : decode cX11_newWeak 23 = .ok (.iload_n 3, 1) := by decide +kernel
theorem dX11_newWeak_24 : decode cX11_newWeak 24 = .ok (.invokevirtual 174, 3) := by decide +kernel
theorem dX11_newWeak_27 : decode cX11_newWeak 27 = .ok (.ireturn, 1) := by decide +kernel
theorem dX11_newSoft_0 : decode cX11_newSoft 0 = .ok (.aload_n 0, 1) := by decide +kernel
theorem dX11_newSoft_1 : decode cX11_newSoft 1 = .ok (.iload_n 1, 1) := by decide +kernel
theorem dX11_newSoft_2 : decode cX11_newSoft 2 = .ok (.invokevirtual 125, 3) := by decide +kernel
theorem dX11_newSoft_5 : decode cX11_newSoft 5 = .ok (.aload_n 0, 1) := by decide +kernel
theorem dX11_newSoft_6 : decode cX11_newSoft 6 = .ok (.iload_n 2, 1) := by decide +kernel
theorem dX11_newSoft_7 : decode cX11_newSoft 7 = .ok (.invokevirtual 171, 3) := by decide +kernel
theorem dX11_newSoft_10 : decode cX11_newSoft 10 = .ok (.istore 4, 2) := by decide +kernel
theorem dX11_newSoft_12 : decode cX11_newSoft 12 = .ok (.aload_n 0, 1) := by decide +kernel
theorem dX11_newSoft_13 : decode cX11_newSoft 13 = .ok (.aload_n 0, 1) := by decide +kernel
theorem dX11_newSoft_14 : decode cX11_newSoft 14 = .ok (.iload_n 1, 1) := by decide +kernel
theorem dX11_newSoft_15 : decode cX11_newSoft 15 = .ok (.iconst 4, 1) := by decide +kernel
theorem dX11_newSoft_16 : decode cX11_newSoft 16 = .ok (.iconst (-1), 1) := by decide +kernel
theorem dX11_newSoft_17 : decode cX11_newSoft 17 = .ok (.iconst 1, 1) := by decide +kernel
theorem dX11_newSoft_18 : decode cX11_newSoft 18 = .ok (.invokevirtual 163, 3) := by decide +kernel
theorem dX11_newSoft_21 : decode cX11_newSoft 21 = .ok (.iload 4, 2) := by decide +kernel
theorem dX11_newSoft_23 : decode cX11_newSoft 23 = .ok (.iload_n 3, 1) := by decide +kernel
theorem dX11_newSoft_24 : decode cX11_newSoft 24 = .ok (.invokevirtual 174, 3) := by decide +kernel
theorem dX11_newSoft_27 : decode cX11_newSoft 27 = .ok (.ireturn, 1) := by decide +kernel
theorem dX11_newPhantom_0 : decode cX11_newPhantom 0 = .ok (.aload_n 0, 1) := by decide +kernel
theorem dX11_newPhantom_1 : decode cX11_newPhantom 1 = .ok (.iload_n 1, 1) := by decide +kernel
theorem dX11_newPhantom_2 : decode cX11_newPhantom 2 = .ok (.invokevirtual 125, 3) := by decide +kernel
theorem dX11_newPhantom_5 : decode cX11_newPhantom 5 = .ok (.aload_n 0, 1) := by decide +kernel
theorem dX11_newPhantom_6 : decode cX11_newPhantom 6 = .ok (.iload_n 2, 1) := by decide +kernel
theorem dX11_newPhantom_7 : decode cX11_newPhantom 7 = .ok (.invokevirtual 171, 3) := by decide +kernel
theorem dX11_newPhantom_10 : decode cX11_newPhantom 10 = .ok (.istore_n 3, 1) := by decide +kernel
theorem dX11_newPhantom_11 : decode cX11_newPhantom 11 = .ok (.aload_n 0, 1) := by decide +kernel
theorem dX11_newPhantom_12 : decode cX11_newPhantom 12 = .ok (.aload_n 0, 1) := by decide +kernel
theorem dX11_newPhantom_13 : decode cX11_newPhantom 13 = .ok (.iload_n 1, 1) := by decide +kernel
theorem dX11_newPhantom_14 : decode cX11_newPhantom 14 = .ok (.iconst 5, 1) := by decide +kernel
theorem dX11_newPhantom_15 : decode cX11_newPhantom 15 = .ok (.iconst (-1), 1) := by decide +kernel
theorem dX11_newPhantom_16 : decode cX11_newPhantom 16 = .ok (.iconst 1, 1) := by decide +kernel
theorem dX11_newPhantom_17 : decode cX11_newPhantom 17 = .ok (.invokevirtual 163, 3) := by decide +kernel
theorem dX11_newPhantom_20 : decode cX11_newPhantom 20 = .ok (.iload_n 3, 1) := by decide +kernel
theorem dX11_newPhantom_21 : decode cX11_newPhantom 21 = .ok (.iconst 1, 1) := by decide +kernel
theorem dX11_newPhantom_22 : decode cX11_newPhantom 22 = .ok (.invokevirtual 174, 3) := by decide +kernel
theorem dX11_newPhantom_25 : decode cX11_newPhantom 25 = .ok (.ireturn, 1) := by decide +kernel
theorem dX11_newTable_0 : decode cX11_newTable 0 = .ok (.aload_n 0, 1) := by decide +kernel
theorem dX11_newTable_1 : decode cX11_newTable 1 = .ok (.iload_n 1, 1) := by decide +kernel
theorem dX11_newTable_2 : decode cX11_newTable 2 = .ok (.invokevirtual 125, 3) := by decide +kernel
theorem dX11_newTable_5 : decode cX11_newTable 5 = .ok (.aload_n 0, 1) := by decide +kernel
theorem dX11_newTable_6 : decode cX11_newTable 6 = .ok (.iload_n 2, 1) := by decide +kernel
theorem dX11_newTable_7 : decode cX11_newTable 7 = .ok (.iconst 1, 1) := by decide +kernel
theorem dX11_newTable_8 : decode cX11_newTable 8 = .ok (.bipush 16, 2) := by decide +kernel
theorem dX11_newTable_10 : decode cX11_newTable 10 = .ok (.invokevirtual 167, 3) := by decide +kernel
theorem dX11_newTable_13 : decode cX11_newTable 13 = .ok (.aload_n 0, 1) := by decide +kernel
theorem dX11_newTable_14 : decode cX11_newTable 14 = .ok (.getfield 21, 3) := by decide +kernel
theorem dX11_newTable_17 : decode cX11_newTable 17 = .ok (.aload_n 0, 1) := by decide +kernel
theorem dX11_newTable_18 : decode cX11_newTable 18 = .ok (.iload_n 1, 1) := by decide +kernel
theorem dX11_newTable_19 : decode cX11_newTable 19 = .ok (.bipush 6, 2) := by decide +kernel
theorem dX11_newTable_21 : decode cX11_newTable 21 = .ok (.iconst (-1), 1) := by decide +kernel
theorem dX11_newTable_22 : decode cX11_newTable 22 = .ok (.iload_n 2, 1) := by decide +kernel
theorem dX11_newTable_23 : decode cX11_newTable 23 = .ok (.invokevirtual 163, 3) := by decide +kernel
theorem dX11_newTable_26 : decode cX11_newTable 26 = .ok (.invokevirtual 141, 3) := by decide +kernel
theorem dX11_newTable_29 : decode cX11_newTable 29 = .ok (.ireturn, 1) := by decide +kernel
theorem dX11_load_0 : decode cX11_load 0 = .ok (.aload_n 0, 1) := by decide +kernel
theorem dX11_load_1 : decode cX11_load 1 = .ok (.iload_n 1, 1) := by decide +kernel
theorem dX11_load_2 : decode cX11_load 2 = .ok (.invokevirtual 125, 3) := by decide +kernel
theorem dX11_load_5 : decode cX11_load 5 = .ok (.aload_n 0, 1) := by decide +kernel
theorem dX11_load_6 : decode cX11_load 6 = .ok (.iload_n 2, 1) := by decide +kernel
theorem dX11_load_7 : decode cX11_load 7 = .ok (.invokevirtual 125, 3) := by decide +kernel
theorem dX11_load_10 : decode cX11_load 10 = .ok (.aload_n 0, 1) := by decide +kernel
theorem dX11_load_11 : decode cX11_load 11 = .ok (.iload_n 1, 1) := by decide +kernel
theorem dX11_load_12 : decode cX11_load 12 = .ok (.aload_n 0, 1) := by decide +kernel
theorem dX11_load_13 : decode cX11_load 13 = .ok (.getfield 21, 3) := by decide +kernel
theorem dX11_load_16 : decode cX11_load 16 = .ok (.getfield 178, 3) := by decide +kernel
theorem dX11_load_19 : decode cX11_load 19 = .ok (.aload_n 0, 1) := by decide +kernel
theorem dX11_load_20 : decode cX11_load 20 = .ok (.iload_n 2, 1) := by decide +kernel
theorem dX11_load_21 : decode cX11_load 21 = .ok (.iload_n 3, 1) := by decide +kernel
theorem dX11_load_22 : decode cX11_load 22 = .ok (.invokevirtual 181, 3) := by decide +kernel
theorem dX11_load_25 : decode cX11_load 25 = .ok (.iaload, 1) := by decide +kernel
theorem dX11_load_26 : decode cX11_load 26 = .ok (.invokevirtual 144, 3) := by decide +kernel
theorem dX11_load_29 : decode cX11_load 29 = .ok (.ireturn, 1) := by decide +kernel
theorem dX11_store_0 : decode cX11_store 0 = .ok (.aload_n 0, 1) := by decide +kernel
theorem dX11_store_1 : decode cX11_store 1 = .ok (.iload_n 1, 1) := by decide +kernel
theorem dX11_store_2 : decode cX11_store 2 = .ok (.invokevirtual 125, 3) := by decide +kernel
theorem dX11_store_5 : decode cX11_store 5 = .ok (.aload_n 0, 1) := by decide +kernel
theorem dX11_store_6 : decode cX11_store 6 = .ok (.iload_n 3, 1) := by decide +kernel
theorem dX11_store_7 : decode cX11_store 7 = .ok (.invokevirtual 125, 3) := by decide +kernel
theorem dX11_store_10 : decode cX11_store 10 = .ok (.aload_n 0, 1) := by decide +kernel
theorem dX11_store_11 : decode cX11_store 11 = .ok (.iload_n 1, 1) := by decide +kernel
theorem dX11_store_12 : decode cX11_store 12 = .ok (.iload_n 2, 1) := by decide +kernel
theorem dX11_store_13 : decode cX11_store 13 = .ok (.invokevirtual 181, 3) := by decide +kernel
theorem dX11_store_16 : decode cX11_store 16 = .ok (.istore 4, 2) := by decide +kernel
theorem dX11_store_18 : decode cX11_store 18 = .ok (.aload_n 0, 1) := by decide +kernel
theorem dX11_store_19 : decode cX11_store 19 = .ok (.getfield 21, 3) := by decide +kernel
theorem dX11_store_22 : decode cX11_store 22 = .ok (.getfield 178, 3) := by decide +kernel
theorem dX11_store_25 : decode cX11_store 25 = .ok (.iload 4, 2) := by decide +kernel
theorem dX11_store_27 : decode cX11_store 27 = .ok (.iaload, 1) := by decide +kernel
theorem dX11_store_28 : decode cX11_store 28 = .ok (.istore 5, 2) := by decide +kernel
theorem dX11_store_30 : decode cX11_store 30 = .ok (.aload_n 0, 1) := by decide +kernel
theorem dX11_store_31 : decode cX11_store 31 = .ok (.getfield 21, 3) := by decide +kernel
theorem dX11_store_34 : decode cX11_store 34 = .ok (.getfield 178, 3) := by decide +kernel
theorem dX11_store_37 : decode cX11_store 37 = .ok (.iload 4, 2) := by decide +kernel
theorem dX11_store_39 : decode cX11_store 39 = .ok (.aload_n 0, 1) := by decide +kernel
theorem dX11_store_40 : decode cX11_store 40 = .ok (.getfield 28, 3) := by decide +kernel
theorem dX11_store_43 : decode cX11_store 43 = .ok (.iload_n 3, 1) := by decide +kernel
theorem dX11_store_44 : decode cX11_store 44 = .ok (.invokevirtual 130, 3) := by decide +kernel
theorem dX11_store_47 : decode cX11_store 47 = .ok (.iastore, 1) := by decide +kernel
theorem dX11_store_48 : decode cX11_store 48 = .ok (.aload_n 0, 1) := by decide +kernel
theorem dX11_store_49 : decode cX11_store 49 = .ok (.getfield 21, 3) := by decide +kernel
theorem dX11_store_52 : decode cX11_store 52 = .ok (.iload 5, 2) := by decide +kernel
theorem dX11_store_54 : decode cX11_store 54 = .ok (.invokevirtual 141, 3) := by decide +kernel
theorem dX11_store_57 : decode cX11_store 57 = .ok (.ireturn, 1) := by decide +kernel
theorem dX11_getNumber_0 : decode cX11_getNumber 0 = .ok (.aload_n 0, 1) := by decide +kernel
theorem dX11_getNumber_1 : decode cX11_getNumber 1 = .ok (.iload_n 1, 1) := by decide +kernel
theorem dX11_getNumber_2 : decode cX11_getNumber 2 = .ok (.invokevirtual 125, 3) := by decide +kernel
theorem dX11_getNumber_5 : decode cX11_getNumber 5 = .ok (.aload_n 0, 1) := by decide +kernel
theorem dX11_getNumber_6 : decode cX11_getNumber 6 = .ok (.getfield 21, 3) := by decide +kernel
theorem dX11_getNumber_9 : decode cX11_getNumber 9 = .ok (.getfield 178, 3) := by decide +kernel
theorem dX11_getNumber_12 : decode cX11_getNumber 12 = .ok (.aload_n 0, 1) := by decide +kernel
theorem dX11_getNumber_13 : decode cX11_getNumber 13 = .ok (.iload_n 1, 1) := by decide +kernel
theorem dX11_getNumber_14 : decode cX11_getNumber 14 = .ok (.iload_n 2, 1) := by decide +kernel
theorem dX11_getNumber_15 : decode cX11_getNumber 15 = .ok (.invokevirtual 184, 3) := by decide +kernel
theorem dX11_getNumber_18 : decode cX11_getNumber 18 = .ok (.iaload, 1) := by decide +kernel
theorem dX11_getNumber_19 : decode cX11_getNumber 19 = .ok (.ireturn, 1) := by decide +kernel
theorem dX11_setNumber_0 : decode cX11_setNumber 0 = .ok (.aload_n 0, 1) := by decide +kernel
theorem dX11_setNumber_1 : decode cX11_setNumber 1 = .ok (.iload_n 1, 1) := by decide +kernel
theorem dX11_setNumber_2 : decode cX11_setNumber 2 = .ok (.invokevirtual 125, 3) := by decide +kernel
theorem dX11_setNumber_5 : decode cX11_setNumber 5 = .ok (.aload_n 0, 1) := by decide +kernel
theorem dX11_setNumber_6 : decode cX11_setNumber 6 = .ok (.iload_n 1, 1) := by decide +kernel
theorem dX11_setNumber_7 : decode cX11_setNumber 7 = .ok (.iload_n 2, 1) := by decide +kernel
theorem dX11_setNumber_8 : decode cX11_setNumber 8 = .ok (.invokevirtual 184, 3) := by decide +kernel
theorem dX11_setNumber_11 : decode cX11_setNumber 11 = .ok (.istore 4, 2) := by decide +kernel
theorem dX11_setNumber_13 : decode cX11_setNumber 13 = .ok (.aload_n 0, 1) := by decide +kernel
theorem dX11_setNumber_14 : decode cX11_setNumber 14 = .ok (.getfield 21, 3) := by decide +kernel
theorem dX11_setNumber_17 : decode cX11_setNumber 17 = .ok (.getfield 178, 3) := by decide +kernel
theorem dX11_setNumber_20 : decode cX11_setNumber 20 = .ok (.iload 4, 2) := by decide +kernel
theorem dX11_setNumber_22 : decode cX11_setNumber 22 = .ok (.iaload, 1) := by decide +kernel
theorem dX11_setNumber_23 : decode cX11_setNumber 23 = .ok (.istore 5, 2) := by decide +kernel
theorem dX11_setNumber_25 : decode cX11_setNumber 25 = .ok (.aload_n 0, 1) := by decide +kernel
theorem dX11_setNumber_26 : decode cX11_setNumber 26 = .ok (.getfield 21, 3) := by decide +kernel
theorem dX11_setNumber_29 : decode cX11_setNumber 29 = .ok (.getfield 178, 3) := by decide +kernel
theorem dX11_setNumber_32 : decode cX11_setNumber 32 = .ok (.iload 4, 2) := by decide +kernel
theorem dX11_setNumber_34 : decode cX11_setNumber 34 = .ok (.iload_n 3, 1) := by decide +kernel
theorem dX11_setNumber_35 : decode cX11_setNumber 35 = .ok (.iastore, 1) := by decide +kernel
theorem dX11_setNumber_36 : decode cX11_setNumber 36 = .ok (.iload 5, 2) := by decide +kernel
theorem dX11_setNumber_38 : decode cX11_setNumber 38 = .ok (.ireturn, 1) := by decide +kernel
theorem dX11_getByte_0 : decode cX11_getByte 0 = .ok (.aload_n 0, 1) := by decide +kernel
theorem dX11_getByte_1 : decode cX11_getByte 1 = .ok (.iload_n 1, 1) := by decide +kernel
theorem dX11_getByte_2 : decode cX11_getByte 2 = .ok (.invokevirtual 125, 3) := by decide +kernel
theorem dX11_getByte_5 : decode cX11_getByte 5 = .ok (.aload_n 0, 1) := by decide +kernel
theorem dX11_getByte_6 : decode cX11_getByte 6 = .ok (.getfield 21, 3) := by decide +kernel
theorem dX11_getByte_9 : decode cX11_getByte 9 = .ok (.getfield 178, 3) := by decide +kernel
theorem dX11_getByte_12 : decode cX11_getByte 12 = .ok (.aload_n 0, 1) := by decide +kernel
theorem dX11_getByte_13 : decode cX11_getByte 13 = .ok (.iload_n 1, 1) := by decide +kernel
theorem dX11_getByte_14 : decode cX11_getByte 14 = .ok (.iload_n 2, 1) := by decide +kernel
theorem dX11_getByte_15 : decode cX11_getByte 15 = .ok (.invokevirtual 187, 3) := by decide +kernel
theorem dX11_getByte_18 : decode cX11_getByte 18 = .ok (.iaload, 1) := by decide +kernel
theorem dX11_getByte_19 : decode cX11_getByte 19 = .ok (.ireturn, 1) := by decide +kernel
theorem dX11_setByte_0 : decode cX11_setByte 0 = .ok (.aload_n 0, 1) := by decide +kernel
theorem dX11_setByte_1 : decode cX11_setByte 1 = .ok (.iload_n 1, 1) := by decide +kernel
theorem dX11_setByte_2 : decode cX11_setByte 2 = .ok (.invokevirtual 125, 3) := by decide +kernel
theorem dX11_setByte_5 : decode cX11_setByte 5 = .ok (.aload_n 0, 1) := by decide +kernel
theorem dX11_setByte_6 : decode cX11_setByte 6 = .ok (.iload_n 1, 1) := by decide +kernel
theorem dX11_setByte_7 : decode cX11_setByte 7 = .ok (.iload_n 2, 1) := by decide +kernel
theorem dX11_setByte_8 : decode cX11_setByte 8 = .ok (.invokevirtual 187, 3) := by decide +kernel
theorem dX11_setByte_11 : decode cX11_setByte 11 = .ok (.istore 4, 2) := by decide +kernel
theorem dX11_setByte_13 : decode cX11_setByte 13 = .ok (.aload_n 0, 1) := by decide +kernel
theorem dX11_setByte_14 : decode cX11_setByte 14 = .ok (.iload_n 3, 1) := by decide +kernel
theorem dX11_setByte_15 : decode cX11_setByte 15 = .ok (.iconst 0, 1) := by decide +kernel
theorem dX11_setByte_16 : decode cX11_setByte 16 = .ok (.sipush 255, 3) := by decide +kernel
theorem dX11_setByte_19 : decode cX11_setByte 19 = .ok (.invokevirtual 167, 3) := by decide +kernel
theorem dX11_setByte_22 : decode cX11_setByte 22 = .ok (.aload_n 0, 1) := by decide +kernel
theorem dX11_setByte_23 : decode cX11_setByte 23 = .ok (.iload_n 1, 1) := by decide +kernel
theorem dX11_setByte_24 : decode cX11_setByte 24 = .ok (.invokevirtual 190, 3) := by decide +kernel
theorem dX11_setByte_27 : decode cX11_setByte 27 = .ok (.ifCond .eq 13, 3) := by decide +kernel
theorem dX11_setByte_30 : decode cX11_setByte 30 = .ok (.new 106, 3) := by decide +kernel
theorem dX11_setByte_33 : decode cX11_setByte 33 = .ok (.dup, 1) := by decide +kernel
theorem dX11_setByte_34 : decode cX11_setByte 34 = .ok (.ldc 193, 2) := by decide +kernel
theorem dX11_setByte_36 : decode cX11_setByte 36 = .ok (.invokespecial 110, 3) := by decide +kernel
theorem dX11_setByte_39 : decode cX11_setByte 39 = .ok (.athrow, 1) := by decide +kernel
theorem dX11_setByte_40 : decode cX11_setByte 40 = .ok (.aload_n 0, 1) := by decide +kernel
theorem dX11_setByte_41 : decode cX11_setByte 41 = .ok (.getfield 21, 3) := by decide +kernel
theorem dX11_setByte_44 : decode cX11_setByte 44 = .ok (.getfield 178, 3) := by decide +kernel
theorem dX11_setByte_47 : decode cX11_setByte 47 = .ok (.iload 4, 2) := by decide +kernel
theorem dX11_setByte_49 : decode cX11_setByte 49 = .ok (.iaload, 1) := by decide +kernel
theorem dX11_setByte_50 : decode cX11_setByte 50 = .ok (.istore 5, 2) := by decide +kernel
theorem dX11_setByte_52 : decode cX11_setByte 52 = .ok (.aload_n 0, 1) := by decide +kernel
theorem dX11_setByte_53 : decode cX11_setByte 53 = .ok (.getfield 21, 3) := by decide +kernel
theorem dX11_setByte_56 : decode cX11_setByte 56 = .ok (.getfield 178, 3) := by decide +kernel
theorem dX11_setByte_59 : decode cX11_setByte 59 = .ok (.iload 4, 2) := by decide +kernel
theorem dX11_setByte_61 : decode cX11_setByte 61 = .ok (.iload_n 3, 1) := by decide +kernel
theorem dX11_setByte_62 : decode cX11_setByte 62 = .ok (.iastore, 1) := by decide +kernel
theorem dX11_setByte_63 : decode cX11_setByte 63 = .ok (.iload 5, 2) := by decide +kernel
theorem dX11_setByte_65 : decode cX11_setByte 65 = .ok (.ireturn, 1) := by decide +kernel
theorem dX11_read_0 : decode cX11_read 0 = .ok (.aload_n 0, 1) := by decide +kernel
theorem dX11_read_1 : decode cX11_read 1 = .ok (.iload_n 1, 1) := by decide +kernel
theorem dX11_read_2 : decode cX11_read 2 = .ok (.invokevirtual 125, 3) := by decide +kernel
theorem dX11_read_5 : decode cX11_read 5 = .ok (.aload_n 0, 1) := by decide +kernel
theorem dX11_read_6 : decode cX11_read 6 = .ok (.iload_n 2, 1) := by decide +kernel
theorem dX11_read_7 : decode cX11_read 7 = .ok (.iconst 4, 1) := by decide +kernel
theorem dX11_read_8 : decode cX11_read 8 = .ok (.invokevirtual 195, 3) := by decide +kernel
theorem dX11_read_11 : decode cX11_read 11 = .ok (.istore_n 3, 1) := by decide +kernel
theorem dX11_read_12 : decode cX11_read 12 = .ok (.aload_n 0, 1) := by decide +kernel
theorem dX11_read_13 : decode cX11_read 13 = .ok (.getfield 21, 3) := by decide +kernel
theorem dX11_read_16 : decode cX11_read 16 = .ok (.iload_n 3, 1) := by decide +kernel
theorem dX11_read_17 : decode cX11_read 17 = .ok (.invokevirtual 198, 3) := by decide +kernel
theorem dX11_read_20 : decode cX11_read 20 = .ok (.istore 4, 2) := by decide +kernel
theorem dX11_read_22 : decode cX11_read 22 = .ok (.aload_n 0, 1) := by decide +kernel
theorem dX11_read_23 : decode cX11_read 23 = .ok (.getfield 46, 3) := by decide +kernel
theorem dX11_read_26 : decode cX11_read 26 = .ok (.iload 4, 2) := by decide +kernel
theorem dX11_read_28 : decode cX11_read 28 = .ok (.invokevirtual 201, 3) := by decide +kernel
theorem dX11_read_31 : decode cX11_read 31 = .ok (.aload_n 0, 1) := by decide +kernel
theorem dX11_read_32 : decode cX11_read 32 = .ok (.iload_n 1, 1) := by decide +kernel
theorem dX11_read_33 : decode cX11_read 33 = .ok (.iload 4, 2) := by decide +kernel
theorem dX11_read_35 : decode cX11_read 35 = .ok (.invokevirtual 144, 3) := by decide +kernel
theorem dX11_read_38 : decode cX11_read 38 = .ok (.ireturn, 1) := by decide +kernel
theorem dX11_refersTo_0 : decode cX11_refersTo 0 = .ok (.aload_n 0, 1) := by decide +kernel
theorem dX11_refersTo_1 : decode cX11_refersTo 1 = .ok (.iload_n 2, 1) := by decide +kernel
theorem dX11_refersTo_2 : decode cX11_refersTo 2 = .ok (.invokevirtual 125, 3) := by decide +kernel
theorem dX11_refersTo_5 : decode cX11_refersTo 5 = .ok (.aload_n 0, 1) := by decide +kernel
theorem dX11_refersTo_6 : decode cX11_refersTo 6 = .ok (.getfield 21, 3) := by decide +kernel
theorem dX11_refersTo_9 : decode cX11_refersTo 9 = .ok (.aload_n 0, 1) := by decide +kernel
theorem dX11_refersTo_10 : decode cX11_refersTo 10 = .ok (.iload_n 1, 1) := by decide +kernel
theorem dX11_refersTo_11 : decode cX11_refersTo 11 = .ok (.iconst 5, 1) := by decide +kernel
theorem dX11_refersTo_12 : decode cX11_refersTo 12 = .ok (.invokevirtual 195, 3) := by decide +kernel
theorem dX11_refersTo_15 : decode cX11_refersTo 15 = .ok (.invokevirtual 198, 3) := by decide +kernel
theorem dX11_refersTo_18 : decode cX11_refersTo 18 = .ok (.istore_n 3, 1) := by decide +kernel
theorem dX11_refersTo_19 : decode cX11_refersTo 19 = .ok (.iload_n 3, 1) := by decide +kernel
theorem dX11_refersTo_20 : decode cX11_refersTo 20 = .ok (.iconst (-1), 1) := by decide +kernel
theorem dX11_refersTo_21 : decode cX11_refersTo 21 = .ok (.if_icmp .eq 19, 3) := by decide +kernel
theorem dX11_refersTo_24 : decode cX11_refersTo 24 = .ok (.iload_n 3, 1) := by decide +kernel
theorem dX11_refersTo_25 : decode cX11_refersTo 25 = .ok (.aload_n 0, 1) := by decide +kernel
theorem dX11_refersTo_26 : decode cX11_refersTo 26 = .ok (.getfield 28, 3) := by decide +kernel
theorem dX11_refersTo_29 : decode cX11_refersTo 29 = .ok (.iload_n 2, 1) := by decide +kernel
theorem dX11_refersTo_30 : decode cX11_refersTo 30 = .ok (.invokevirtual 130, 3) := by decide +kernel
theorem dX11_refersTo_33 : decode cX11_refersTo 33 = .ok (.if_icmp .ne 7, 3) := by decide +kernel
theorem dX11_refersTo_36 : decode cX11_refersTo 36 = .ok (.iconst 1, 1) := by decide +kernel
theorem dX11_refersTo_37 : decode cX11_refersTo 37 = .ok (.goto 4, 3) := by decide +kernel
theorem dX11_refersTo_40 : decode cX11_refersTo 40 = .ok (.iconst 0, 1) := by decide +kernel
theorem dX11_refersTo_41 : decode cX11_refersTo 41 = .ok (.ireturn, 1) := by decide +kernel
theorem dX11_forget_0 : decode cX11_forget 0 = .ok (.aload_n 0, 1) := by decide +kernel
theorem dX11_forget_1 : decode cX11_forget 1 = .ok (.iload_n 1, 1) := by decide +kernel
theorem dX11_forget_2 : decode cX11_forget 2 = .ok (.iconst 5, 1) := by decide +kernel
theorem dX11_forget_3 : decode cX11_forget 3 = .ok (.invokevirtual 195, 3) := by decide +kernel
theorem dX11_forget_6 : decode cX11_forget 6 = .ok (.istore_n 2, 1) := by decide +kernel
theorem dX11_forget_7 : decode cX11_forget 7 = .ok (.aload_n 0, 1) := by decide +kernel
theorem dX11_forget_8 : decode cX11_forget 8 = .ok (.getfield 21, 3) := by decide +kernel
theorem dX11_forget_11 : decode cX11_forget 11 = .ok (.iload_n 2, 1) := by decide +kernel
theorem dX11_forget_12 : decode cX11_forget 12 = .ok (.invokevirtual 198, 3) := by decide +kernel
theorem dX11_forget_15 : decode cX11_forget 15 = .ok (.iconst (-1), 1) := by decide +kernel
theorem dX11_forget_16 : decode cX11_forget 16 = .ok (.if_icmp .eq 7, 3) := by decide +kernel
theorem dX11_forget_19 : decode cX11_forget 19 = .ok (.iconst 1, 1) := by decide +kernel
theorem dX11_forget_20 : decode cX11_forget 20 = .ok (.goto 4, 3) := by decide +kernel
theorem dX11_forget_23 : decode cX11_forget 23 = .ok (.iconst 0, 1) := by decide +kernel
theorem dX11_forget_24 : decode cX11_forget 24 = .ok (.istore_n 3, 1) := by decide +kernel
theorem dX11_forget_25 : decode cX11_forget 25 = .ok (.aload_n 0, 1) := by decide +kernel
theorem dX11_forget_26 : decode cX11_forget 26 = .ok (.getfield 21, 3) := by decide +kernel
theorem dX11_forget_29 : decode cX11_forget 29 = .ok (.iload_n 2, 1) := by decide +kernel
theorem dX11_forget_30 : decode cX11_forget 30 = .ok (.iconst (-1), 1) := by decide +kernel
theorem dX11_forget_31 : decode cX11_forget 31 = .ok (.invokevirtual 204, 3) := by decide +kernel
theorem dX11_forget_34 : decode cX11_forget 34 = .ok (.iload_n 3, 1) := by decide +kernel
theorem dX11_forget_35 : decode cX11_forget 35 = .ok (.ireturn, 1) := by decide +kernel
theorem dX11_poll_0 : decode cX11_poll 0 = .ok (.aload_n 0, 1) := by decide +kernel
theorem dX11_poll_1 : decode cX11_poll 1 = .ok (.iload_n 1, 1) := by decide +kernel
theorem dX11_poll_2 : decode cX11_poll 2 = .ok (.invokevirtual 125, 3) := by decide +kernel
theorem dX11_poll_5 : decode cX11_poll 5 = .ok (.aload_n 0, 1) := by decide +kernel
theorem dX11_poll_6 : decode cX11_poll 6 = .ok (.aload_n 0, 1) := by decide +kernel
theorem dX11_poll_7 : decode cX11_poll 7 = .ok (.getfield 28, 3) := by decide +kernel
theorem dX11_poll_10 : decode cX11_poll 10 = .ok (.getfield 207, 3) := by decide +kernel
theorem dX11_poll_13 : decode cX11_poll 13 = .ok (.iload_n 1, 1) := by decide +kernel
theorem dX11_poll_14 : decode cX11_poll 14 = .ok (.invokevirtual 211, 3) := by decide +kernel
theorem dX11_poll_17 : decode cX11_poll 17 = .ok (.ireturn, 1) := by decide +kernel
theorem dX11_takeLast_0 : decode cX11_takeLast 0 = .ok (.aload_n 0, 1) := by decide +kernel
theorem dX11_takeLast_1 : decode cX11_takeLast 1 = .ok (.iload_n 1, 1) := by decide +kernel
theorem dX11_takeLast_2 : decode cX11_takeLast 2 = .ok (.invokevirtual 125, 3) := by decide +kernel
theorem dX11_takeLast_5 : decode cX11_takeLast 5 = .ok (.aload_n 0, 1) := by decide +kernel
theorem dX11_takeLast_6 : decode cX11_takeLast 6 = .ok (.aload_n 0, 1) := by decide +kernel
theorem dX11_takeLast_7 : decode cX11_takeLast 7 = .ok (.getfield 28, 3) := by decide +kernel
theorem dX11_takeLast_10 : decode cX11_takeLast 10 = .ok (.getfield 215, 3) := by decide +kernel
theorem dX11_takeLast_13 : decode cX11_takeLast 13 = .ok (.iload_n 1, 1) := by decide +kernel
theorem dX11_takeLast_14 : decode cX11_takeLast 14 = .ok (.invokevirtual 211, 3) := by decide +kernel
theorem dX11_takeLast_17 : decode cX11_takeLast 17 = .ok (.ireturn, 1) := by decide +kernel
theorem dX11_put_0 : decode cX11_put 0 = .ok (.aload_n 0, 1) := by decide +kernel
theorem dX11_put_1 : decode cX11_put 1 = .ok (.iload_n 3, 1) := by decide +kernel
theorem dX11_put_2 : decode cX11_put 2 = .ok (.invokevirtual 125, 3) := by decide +kernel
theorem dX11_put_5 : decode cX11_put 5 = .ok (.aload_n 0, 1) := by decide +kernel
theorem dX11_put_6 : decode cX11_put 6 = .ok (.iload_n 1, 1) := by decide +kernel
theorem dX11_put_7 : decode cX11_put 7 = .ok (.iload_n 2, 1) := by decide +kernel
theorem dX11_put_8 : decode cX11_put 8 = .ok (.invokevirtual 218, 3) := by decide +kernel
theorem dX11_put_11 : decode cX11_put 11 = .ok (.istore 4, 2) := by decide +kernel
theorem dX11_put_13 : decode cX11_put 13 = .ok (.aload_n 0, 1) := by decide +kernel
theorem dX11_put_14 : decode cX11_put 14 = .ok (.getfield 28, 3) := by decide +kernel
theorem dX11_put_17 : decode cX11_put 17 = .ok (.iload_n 2, 1) := by decide +kernel
theorem dX11_put_18 : decode cX11_put 18 = .ok (.invokevirtual 130, 3) := by decide +kernel
theorem dX11_put_21 : decode cX11_put 21 = .ok (.istore 5, 2) := by decide +kernel
theorem dX11_put_23 : decode cX11_put 23 = .ok (.aload_n 0, 1) := by decide +kernel
theorem dX11_put_24 : decode cX11_put 24 = .ok (.getfield 21, 3) := by decide +kernel
theorem dX11_put_27 : decode cX11_put 27 = .ok (.iload 4, 2) := by decide +kernel
theorem dX11_put_29 : decode cX11_put 29 = .ok (.iload 5, 2) := by decide +kernel
theorem dX11_put_31 : decode cX11_put 31 = .ok (.invokevirtual 221, 3) := by decide +kernel
theorem dX11_put_34 : decode cX11_put 34 = .ok (.istore 6, 2) := by decide +kernel
theorem dX11_put_36 : decode cX11_put 36 = .ok (.iload 6, 2) := by decide +kernel
theorem dX11_put_38 : decode cX11_put 38 = .ok (.iconst (-1), 1) := by decide +kernel
theorem dX11_put_39 : decode cX11_put 39 = .ok (.if_icmp .ne 15, 3) := by decide +kernel
theorem dX11_put_42 : decode cX11_put 42 = .ok (.aload_n 0, 1) := by decide +kernel
theorem dX11_put_43 : decode cX11_put 43 = .ok (.getfield 21, 3) := by decide +kernel
theorem dX11_put_46 : decode cX11_put 46 = .ok (.iload 4, 2) := by decide +kernel
theorem dX11_put_48 : decode cX11_put 48 = .ok (.iconst (-1), 1) := by decide +kernel
theorem dX11_put_49 : decode cX11_put 49 = .ok (.invokevirtual 221, 3) := by decide +kernel
theorem dX11_put_52 : decode cX11_put 52 = .ok (.istore 6, 2) := by decide +kernel
theorem dX11_put_54 : decode cX11_put 54 = .ok (.iload 6, 2) := by decide +kernel
theorem dX11_put_56 : decode cX11_put 56 = .ok (.iconst (-1), 1) := by decide +kernel
theorem dX11_put_57 : decode cX11_put 57 = .ok (.if_icmp .ne 5, 3) := by decide +kernel
theorem dX11_put_60 : decode cX11_put 60 = .ok (.iconst 0, 1) := by decide +kernel
theorem dX11_put_61 : decode cX11_put 61 = .ok (.ireturn, 1) := by decide +kernel
theorem dX11_put_62 : decode cX11_put 62 = .ok (.aload_n 0, 1) := by decide +kernel
theorem dX11_put_63 : decode cX11_put 63 = .ok (.getfield 21, 3) := by decide +kernel
theorem dX11_put_66 : decode cX11_put 66 = .ok (.iload 6, 2) := by decide +kernel
theorem dX11_put_68 : decode cX11_put 68 = .ok (.iload 5, 2) := by decide +kernel
theorem dX11_put_70 : decode cX11_put 70 = .ok (.aload_n 0, 1) := by decide +kernel
theorem dX11_put_71 : decode cX11_put 71 = .ok (.getfield 28, 3) := by decide +kernel
theorem dX11_put_74 : decode cX11_put 74 = .ok (.iload_n 3, 1) := by decide +kernel
theorem dX11_put_75 : decode cX11_put 75 = .ok (.invokevirtual 130, 3) := by decide +kernel
theorem dX11_put_78 : decode cX11_put 78 = .ok (.invokevirtual 224, 3) := by decide +kernel
theorem dX11_put_81 : decode cX11_put 81 = .ok (.iconst 1, 1) := by decide +kernel
theorem dX11_put_82 : decode cX11_put 82 = .ok (.ireturn, 1) := by decide +kernel
theorem dX11_get_0 : decode cX11_get 0 = .ok (.aload_n 0, 1) := by decide +kernel
theorem dX11_get_1 : decode cX11_get 1 = .ok (.iload_n 1, 1) := by decide +kernel
theorem dX11_get_2 : decode cX11_get 2 = .ok (.invokevirtual 125, 3) := by decide +kernel
theorem dX11_get_5 : decode cX11_get 5 = .ok (.aload_n 0, 1) := by decide +kernel
theorem dX11_get_6 : decode cX11_get 6 = .ok (.getfield 21, 3) := by decide +kernel
theorem dX11_get_9 : decode cX11_get 9 = .ok (.aload_n 0, 1) := by decide +kernel
theorem dX11_get_10 : decode cX11_get 10 = .ok (.iload_n 2, 1) := by decide +kernel
theorem dX11_get_11 : decode cX11_get 11 = .ok (.iload_n 3, 1) := by decide +kernel
theorem dX11_get_12 : decode cX11_get 12 = .ok (.invokevirtual 218, 3) := by decide +kernel
theorem dX11_get_15 : decode cX11_get 15 = .ok (.aload_n 0, 1) := by decide +kernel
theorem dX11_get_16 : decode cX11_get 16 = .ok (.getfield 28, 3) := by decide +kernel
theorem dX11_get_19 : decode cX11_get 19 = .ok (.iload_n 3, 1) := by decide +kernel
theorem dX11_get_20 : decode cX11_get 20 = .ok (.invokevirtual 130, 3) := by decide +kernel
theorem dX11_get_23 : decode cX11_get 23 = .ok (.invokevirtual 221, 3) := by decide +kernel
theorem dX11_get_26 : decode cX11_get 26 = .ok (.istore 4, 2) := by decide +kernel
theorem dX11_get_28 : decode cX11_get 28 = .ok (.aload_n 0, 1) := by decide +kernel
theorem dX11_get_29 : decode cX11_get 29 = .ok (.iload_n 1, 1) := by decide +kernel
theorem dX11_get_30 : decode cX11_get 30 = .ok (.iload 4, 2) := by decide +kernel
theorem dX11_get_32 : decode cX11_get 32 = .ok (.iconst (-1), 1) := by decide +kernel
theorem dX11_get_33 : decode cX11_get 33 = .ok (.if_icmp .ne 7, 3) := by decide +kernel
theorem dX11_get_36 : decode cX11_get 36 = .ok (.iconst (-1), 1) := by decide +kernel
theorem dX11_get_37 : decode cX11_get 37 = .ok (.goto 15, 3) := by decide +kernel
theorem dX11_get_40 : decode cX11_get 40 = .ok (.aload_n 0, 1) := by decide +kernel
theorem dX11_get_41 : decode cX11_get 41 = .ok (.getfield 21, 3) := by decide +kernel
theorem dX11_get_44 : decode cX11_get 44 = .ok (.getfield 178, 3) := by decide +kernel
theorem dX11_get_47 : decode cX11_get 47 = .ok (.iload 4, 2) := by decide +kernel
theorem dX11_get_49 : decode cX11_get 49 = .ok (.iconst 1, 1) := by decide +kernel
theorem dX11_get_50 : decode cX11_get 50 = .ok (.iadd, 1) := by decide +kernel
theorem dX11_get_51 : decode cX11_get 51 = .ok (.iaload, 1) := by decide +kernel
theorem dX11_get_52 : decode cX11_get 52 = .ok (.invokevirtual 144, 3) := by decide +kernel
theorem dX11_get_55 : decode cX11_get 55 = .ok (.ireturn, 1) := by decide +kernel
theorem dX11_remove_0 : decode cX11_remove 0 = .ok (.aload_n 0, 1) := by decide +kernel
theorem dX11_remove_1 : decode cX11_remove 1 = .ok (.getfield 21, 3) := by decide +kernel
theorem dX11_remove_4 : decode cX11_remove 4 = .ok (.aload_n 0, 1) := by decide +kernel
theorem dX11_remove_5 : decode cX11_remove 5 = .ok (.iload_n 1, 1) := by decide +kernel
theorem dX11_remove_6 : decode cX11_remove 6 = .ok (.iload_n 2, 1) := by decide +kernel
theorem dX11_remove_7 : decode cX11_remove 7 = .ok (.invokevirtual 218, 3) := by decide +kernel
theorem dX11_remove_10 : decode cX11_remove 10 = .ok (.aload_n 0, 1) := by decide +kernel
theorem dX11_remove_11 : decode cX11_remove 11 = .ok (.getfield 28, 3) := by decide +kernel
theorem dX11_remove_14 : decode cX11_remove 14 = .ok (.iload_n 2, 1) := by decide +kernel
theorem dX11_remove_15 : decode cX11_remove 15 = .ok (.invokevirtual 130, 3) := by decide +kernel
theorem dX11_remove_18 : decode cX11_remove 18 = .ok (.invokevirtual 221, 3) := by decide +kernel
theorem dX11_remove_21 : decode cX11_remove 21 = .ok (.istore_n 3, 1) := by decide +kernel
theorem dX11_remove_22 : decode cX11_remove 22 = .ok (.iload_n 3, 1) := by decide +kernel
theorem dX11_remove_23 : decode cX11_remove 23 = .ok (.iconst (-1), 1) := by decide +kernel
theorem dX11_remove_24 : decode cX11_remove 24 = .ok (.if_icmp .ne 5, 3) := by decide +kernel
theorem dX11_remove_27 : decode cX11_remove 27 = .ok (.iconst 0, 1) := by decide +kernel
theorem dX11_remove_28 : decode cX11_remove 28 = .ok (.ireturn, 1) := by decide +kernel
theorem dX11_remove_29 : decode cX11_remove 29 = .ok (.aload_n 0, 1) := by decide +kernel
theorem dX11_remove_30 : decode cX11_remove 30 = .ok (.getfield 21, 3) := by decide +kernel
theorem dX11_remove_33 : decode cX11_remove 33 = .ok (.iload_n 3, 1) := by decide +kernel
theorem dX11_remove_34 : decode cX11_remove 34 = .ok (.iconst (-1), 1) := by decide +kernel
theorem dX11_remove_35 : decode cX11_remove 35 = .ok (.iconst (-1), 1) := by decide +kernel
theorem dX11_remove_36 : decode cX11_remove 36 = .ok (.invokevirtual 224, 3) := by decide +kernel
theorem dX11_remove_39 : decode cX11_remove 39 = .ok (.iconst 1, 1) := by decide +kernel
theorem dX11_remove_40 : decode cX11_remove 40 = .ok (.ireturn, 1) := by decide +kernel
theorem dX11_intern_0 : decode cX11_intern 0 = .ok (.aload_n 0, 1) := by decide +kernel
theorem dX11_intern_1 : decode cX11_intern 1 = .ok (.iload_n 1, 1) := by decide +kernel
theorem dX11_intern_2 : decode cX11_intern 2 = .ok (.invokevirtual 125, 3) := by decide +kernel
theorem dX11_intern_5 : decode cX11_intern 5 = .ok (.aload_n 0, 1) := by decide +kernel
theorem dX11_intern_6 : decode cX11_intern 6 = .ok (.iload_n 2, 1) := by decide +kernel
theorem dX11_intern_7 : decode cX11_intern 7 = .ok (.invokevirtual 227, 3) := by decide +kernel
theorem dX11_intern_10 : decode cX11_intern 10 = .ok (.iconst 2, 1) := by decide +kernel
theorem dX11_intern_11 : decode cX11_intern 11 = .ok (.if_icmp .eq 13, 3) := by decide +kernel
theorem dX11_intern_14 : decode cX11_intern 14 = .ok (.new 95, 3) := by decide +kernel
theorem dX11_intern_17 : decode cX11_intern 17 = .ok (.dup, 1) := by decide +kernel
theorem dX11_intern_18 : decode cX11_intern 18 = .ok (.ldc 230, 2) := by decide +kernel
theorem dX11_intern_20 : decode cX11_intern 20 = .ok (.invokespecial 99, 3) := by decide +kernel
theorem dX11_intern_23 : decode cX11_intern 23 = .ok (.athrow, 1) := by decide +kernel
theorem dX11_intern_24 : decode cX11_intern 24 = .ok (.aload_n 0, 1) := by decide +kernel
theorem dX11_intern_25 : decode cX11_intern 25 = .ok (.getfield 28, 3) := by decide +kernel
theorem dX11_intern_28 : decode cX11_intern 28 = .ok (.iload_n 2, 1) := by decide +kernel
theorem dX11_intern_29 : decode cX11_intern 29 = .ok (.invokevirtual 130, 3) := by decide +kernel
theorem dX11_intern_32 : decode cX11_intern 32 = .ok (.istore_n 3, 1) := by decide +kernel
theorem dX11_intern_33 : decode cX11_intern 33 = .ok (.aload_n 0, 1) := by decide +kernel
theorem dX11_intern_34 : decode cX11_intern 34 = .ok (.getfield 21, 3) := by decide +kernel
theorem dX11_intern_37 : decode cX11_intern 37 = .ok (.aload_n 0, 1) := by decide +kernel
theorem dX11_intern_38 : decode cX11_intern 38 = .ok (.getfield 21, 3) := by decide +kernel
theorem dX11_intern_41 : decode cX11_intern 41 = .ok (.getfield 178, 3) := by decide +kernel
theorem dX11_intern_44 : decode cX11_intern 44 = .ok (.aload_n 0, 1) := by decide +kernel
theorem dX11_intern_45 : decode cX11_intern 45 = .ok (.getfield 21, 3) := by decide +kernel
theorem dX11_intern_48 : decode cX11_intern 48 = .ok (.getfield 232, 3) := by decide +kernel
theorem dX11_intern_51 : decode cX11_intern 51 = .ok (.iload_n 3, 1) := by decide +kernel
theorem dX11_intern_52 : decode cX11_intern 52 = .ok (.iaload, 1) := by decide +kernel
theorem dX11_intern_53 : decode cX11_intern 53 = .ok (.aload_n 0, 1) := by decide +kernel
theorem dX11_intern_54 : decode cX11_intern 54 = .ok (.getfield 21, 3) := by decide +kernel
theorem dX11_intern_57 : decode cX11_intern 57 = .ok (.getfield 235, 3) := by decide +kernel
theorem dX11_intern_60 : decode cX11_intern 60 = .ok (.iload_n 3, 1) := by decide +kernel
theorem dX11_intern_61 : decode cX11_intern 61 = .ok (.iaload, 1) := by decide +kernel
theorem dX11_intern_62 : decode cX11_intern 62 = .ok (.invokevirtual 238, 3) := by decide +kernel
theorem dX11_intern_65 : decode cX11_intern 65 = .ok (.istore 4, 2) := by decide +kernel
theorem dX11_intern_67 : decode cX11_intern 67 = .ok (.iload 4, 2) := by decide +kernel
theorem dX11_intern_69 : decode cX11_intern 69 = .ok (.iconst (-1), 1) := by decide +kernel
theorem dX11_intern_70 : decode cX11_intern 70 = .ok (.if_icmp .ne 20, 3) := by decide +kernel
theorem dX11_intern_73 : decode cX11_intern 73 = .ok (.aload_n 0, 1) := by decide +kernel
theorem dX11_intern_74 : decode cX11_intern 74 = .ok (.getfield 21, 3) := by decide +kernel
theorem dX11_intern_77 : decode cX11_intern 77 = .ok (.getfield 242, 3) := by decide +kernel
theorem dX11_intern_80 : decode cX11_intern 80 = .ok (.iload_n 3, 1) := by decide +kernel
theorem dX11_intern_81 : decode cX11_intern 81 = .ok (.iconst 1, 1) := by decide +kernel
theorem dX11_intern_82 : decode cX11_intern 82 = .ok (.bastore, 1) := by decide +kernel
theorem dX11_intern_83 : decode cX11_intern 83 = .ok (.aload_n 0, 1) := by decide +kernel
theorem dX11_intern_84 : decode cX11_intern 84 = .ok (.iload_n 1, 1) := by decide +kernel
theorem dX11_intern_85 : decode cX11_intern 85 = .ok (.iload_n 3, 1) := by decide +kernel
theorem dX11_intern_86 : decode cX11_intern 86 = .ok (.invokevirtual 144, 3) := by decide +kernel
theorem dX11_intern_89 : decode cX11_intern 89 = .ok (.ireturn, 1) := by decide +kernel
theorem dX11_intern_90 : decode cX11_intern 90 = .ok (.aload_n 0, 1) := by decide +kernel
theorem dX11_intern_91 : decode cX11_intern 91 = .ok (.getfield 46, 3) := by decide +kernel
theorem dX11_intern_94 : decode cX11_intern 94 = .ok (.iload 4, 2) := by decide +kernel
theorem dX11_intern_96 : decode cX11_intern 96 = .ok (.invokevirtual 201, 3) := by decide +kernel
theorem dX11_intern_99 : decode cX11_intern 99 = .ok (.aload_n 0, 1) := by decide +kernel
theorem dX11_intern_100 : decode cX11_intern 100 = .ok (.iload_n 1, 1) := by decide +kernel
theorem dX11_intern_101 : decode cX11_intern 101 = .ok (.iload 4, 2) := by decide +kernel
theorem dX11_intern_103 : decode cX11_intern 103 = .ok (.invokevirtual 144, 3) := by decide +kernel
theorem dX11_intern_106 : decode cX11_intern 106 = .ok (.ireturn, 1) := by decide +kernel
theorem dX11_deepCopy_0 : decode cX11_deepCopy 0 = .ok (.aload_n 0, 1) := by decide +kernel
theorem dX11_deepCopy_1 : decode cX11_deepCopy 1 = .ok (.iload_n 1, 1) := by decide +kernel
theorem dX11_deepCopy_2 : decode cX11_deepCopy 2 = .ok (.invokevirtual 125, 3) := by decide +kernel
theorem dX11_deepCopy_5 : decode cX11_deepCopy 5 = .ok (.aload_n 0, 1) := by decide +kernel
theorem dX11_deepCopy_6 : decode cX11_deepCopy 6 = .ok (.iload_n 2, 1) := by decide +kernel
theorem dX11_deepCopy_7 : decode cX11_deepCopy 7 = .ok (.invokevirtual 125, 3) := by decide +kernel
theorem dX11_deepCopy_10 : decode cX11_deepCopy 10 = .ok (.aload_n 0, 1) := by decide +kernel
theorem dX11_deepCopy_11 : decode cX11_deepCopy 11 = .ok (.iload_n 2, 1) := by decide +kernel
theorem dX11_deepCopy_12 : decode cX11_deepCopy 12 = .ok (.invokevirtual 246, 3) := by decide +kernel
theorem dX11_deepCopy_15 : decode cX11_deepCopy 15 = .ok (.istore_n 3, 1) := by decide +kernel
theorem dX11_deepCopy_16 : decode cX11_deepCopy 16 = .ok (.aload_n 0, 1) := by decide +kernel
theorem dX11_deepCopy_17 : decode cX11_deepCopy 17 = .ok (.getfield 21, 3) := by decide +kernel
theorem dX11_deepCopy_20 : decode cX11_deepCopy 20 = .ok (.getfield 242, 3) := by decide +kernel
theorem dX11_deepCopy_23 : decode cX11_deepCopy 23 = .ok (.iload_n 3, 1) := by decide +kernel
theorem dX11_deepCopy_24 : decode cX11_deepCopy 24 = .ok (.baload, 1) := by decide +kernel
theorem dX11_deepCopy_25 : decode cX11_deepCopy 25 = .ok (.ifCond .eq 7, 3) := by decide +kernel
theorem dX11_deepCopy_28 : decode cX11_deepCopy 28 = .ok (.iload_n 3, 1) := by decide +kernel
theorem dX11_deepCopy_29 : decode cX11_deepCopy 29 = .ok (.goto 11, 3) := by decide +kernel
theorem dX11_deepCopy_32 : decode cX11_deepCopy 32 = .ok (.aload_n 0, 1) := by decide +kernel
theorem dX11_deepCopy_33 : decode cX11_deepCopy 33 = .ok (.getfield 64, 3) := by decide +kernel
theorem dX11_deepCopy_36 : decode cX11_deepCopy 36 = .ok (.iload_n 3, 1) := by decide +kernel
theorem dX11_deepCopy_37 : decode cX11_deepCopy 37 = .ok (.invokevirtual 249, 3) := by decide +kernel
theorem dX11_deepCopy_40 : decode cX11_deepCopy 40 = .ok (.istore 4, 2) := by decide +kernel
theorem dX11_deepCopy_42 : decode cX11_deepCopy 42 = .ok (.iload 4, 2) := by decide +kernel
theorem dX11_deepCopy_44 : decode cX11_deepCopy 44 = .ok (.iconst (-1), 1) := by decide +kernel
theorem dX11_deepCopy_45 : decode cX11_deepCopy 45 = .ok (.if_icmp .ne 5, 3) := by decide +kernel
theorem dX11_deepCopy_48 : decode cX11_deepCopy 48 = .ok (.iconst (-1), 1) := by decide +kernel
theorem dX11_deepCopy_49 : decode cX11_deepCopy 49 = .ok (.ireturn, 1) := by decide +kernel
theorem dX11_deepCopy_50 : decode cX11_deepCopy 50 = .ok (.aload_n 0, 1) := by decide +kernel
theorem dX11_deepCopy_51 : decode cX11_deepCopy 51 = .ok (.iload_n 1, 1) := by decide +kernel
theorem dX11_deepCopy_52 : decode cX11_deepCopy 52 = .ok (.iload 4, 2) := by decide +kernel
theorem dX11_deepCopy_54 : decode cX11_deepCopy 54 = .ok (.invokevirtual 144, 3) := by decide +kernel
theorem dX11_deepCopy_57 : decode cX11_deepCopy 57 = .ok (.ireturn, 1) := by decide +kernel
theorem dX11_writeImage_0 : decode cX11_writeImage 0 = .ok (.aload_n 0, 1) := by decide +kernel
theorem dX11_writeImage_1 : decode cX11_writeImage 1 = .ok (.iload_n 1, 1) := by decide +kernel
theorem dX11_writeImage_2 : decode cX11_writeImage 2 = .ok (.invokevirtual 125, 3) := by decide +kernel
theorem dX11_writeImage_5 : decode cX11_writeImage 5 = .ok (.aload_n 0, 1) := by decide +kernel
theorem dX11_writeImage_6 : decode cX11_writeImage 6 = .ok (.getfield 73, 3) := by decide +kernel
theorem dX11_writeImage_9 : decode cX11_writeImage 9 = .ok (.aload_n 0, 1) := by decide +kernel
theorem dX11_writeImage_10 : decode cX11_writeImage 10 = .ok (.iload_n 1, 1) := by decide +kernel
theorem dX11_writeImage_11 : decode cX11_writeImage 11 = .ok (.invokevirtual 246, 3) := by decide +kernel
theorem dX11_writeImage_14 : decode cX11_writeImage 14 = .ok (.invokevirtual 252, 3) := by decide +kernel
theorem dX11_writeImage_17 : decode cX11_writeImage 17 = .ok (.ireturn, 1) := by decide +kernel
theorem dX11_setImage_0 : decode cX11_setImage 0 = .ok (.aload_n 0, 1) := by decide +kernel
theorem dX11_setImage_1 : decode cX11_setImage 1 = .ok (.iload_n 1, 1) := by decide +kernel
theorem dX11_setImage_2 : decode cX11_setImage 2 = .ok (.invokevirtual 255, 3) := by decide +kernel
theorem dX11_setImage_5 : decode cX11_setImage 5 = .ok (.aload_n 0, 1) := by decide +kernel
theorem dX11_setImage_6 : decode cX11_setImage 6 = .ok (.getfield 73, 3) := by decide +kernel
theorem dX11_setImage_9 : decode cX11_setImage 9 = .ok (.getfield 258, 3) := by decide +kernel
theorem dX11_setImage_12 : decode cX11_setImage 12 = .ok (.iload_n 1, 1) := by decide +kernel
theorem dX11_setImage_13 : decode cX11_setImage 13 = .ok (.iaload, 1) := by decide +kernel
theorem dX11_setImage_14 : decode cX11_setImage 14 = .ok (.istore_n 3, 1) := by decide +kernel
theorem dX11_setImage_15 : decode cX11_setImage 15 = .ok (.aload_n 0, 1) := by decide +kernel
theorem dX11_setImage_16 : decode cX11_setImage 16 = .ok (.getfield 73, 3) := by decide +kernel
theorem dX11_setImage_19 : decode cX11_setImage 19 = .ok (.getfield 258, 3) := by decide +kernel
theorem dX11_setImage_22 : decode cX11_setImage 22 = .ok (.iload_n 1, 1) := by decide +kernel
theorem dX11_setImage_23 : decode cX11_setImage 23 = .ok (.iload_n 2, 1) := by decide +kernel
theorem dX11_setImage_24 : decode cX11_setImage 24 = .ok (.iastore, 1) := by decide +kernel
theorem dX11_setImage_25 : decode cX11_setImage 25 = .ok (.iload_n 3, 1) := by decide +kernel
theorem dX11_setImage_26 : decode cX11_setImage 26 = .ok (.ireturn, 1) := by decide +kernel
theorem dX11_readImage_0 : decode cX11_readImage 0 = .ok (.aload_n 0, 1) := by decide +kernel
theorem dX11_readImage_1 : decode cX11_readImage 1 = .ok (.iload_n 1, 1) := by decide +kernel
theorem dX11_readImage_2 : decode cX11_readImage 2 = .ok (.invokevirtual 125, 3) := by decide +kernel
theorem dX11_readImage_5 : decode cX11_readImage 5 = .ok (.aload_n 0, 1) := by decide +kernel
theorem dX11_readImage_6 : decode cX11_readImage 6 = .ok (.getfield 73, 3) := by decide +kernel
theorem dX11_readImage_9 : decode cX11_readImage 9 = .ok (.invokevirtual 261, 3) := by decide +kernel
theorem dX11_readImage_12 : decode cX11_readImage 12 = .ok (.istore_n 2, 1) := by decide +kernel
theorem dX11_readImage_13 : decode cX11_readImage 13 = .ok (.iload_n 2, 1) := by decide +kernel
theorem dX11_readImage_14 : decode cX11_readImage 14 = .ok (.iconst (-1), 1) := by decide +kernel
theorem dX11_readImage_15 : decode cX11_readImage 15 = .ok (.if_icmp .ne 6, 3) := by decide +kernel
theorem dX11_readImage_18 : decode cX11_readImage 18 = .ok (.bipush (-2), 2) := by decide +kernel
theorem dX11_readImage_20 : decode cX11_readImage 20 = .ok (.ireturn, 1) := by decide +kernel
theorem dX11_readImage_21 : decode cX11_readImage 21 = .ok (.aload_n 0, 1) := by decide +kernel
theorem dX11_readImage_22 : decode cX11_readImage 22 = .ok (.getfield 55, 3) := by decide +kernel
theorem dX11_readImage_25 : decode cX11_readImage 25 = .ok (.iload_n 2, 1) := by decide +kernel
theorem dX11_readImage_26 : decode cX11_readImage 26 = .ok (.invokevirtual 265, 3) := by decide +kernel
theorem dX11_readImage_29 : decode cX11_readImage 29 = .ok (.ifCond .ne 5, 3) := by decide +kernel
theorem dX11_readImage_32 : decode cX11_readImage 32 = .ok (.iconst (-1), 1) := by decide +kernel
theorem dX11_readImage_33 : decode cX11_readImage 33 = .ok (.ireturn, 1) := by decide +kernel
theorem dX11_readImage_34 : decode cX11_readImage 34 = .ok (.aload_n 0, 1) := by decide +kernel
theorem dX11_readImage_35 : decode cX11_readImage 35 = .ok (.iload_n 1, 1) := by decide +kernel
theorem dX11_readImage_36 : decode cX11_readImage 36 = .ok (.aload_n 0, 1) := by decide +kernel
theorem dX11_readImage_37 : decode cX11_readImage 37 = .ok (.getfield 73, 3) := by decide +kernel
theorem dX11_readImage_40 : decode cX11_readImage 40 = .ok (.iload_n 2, 1) := by decide +kernel
theorem dX11_readImage_41 : decode cX11_readImage 41 = .ok (.bipush 32, 2) := by decide +kernel
theorem dX11_readImage_43 : decode cX11_readImage 43 = .ok (.if_icmp .le 7, 3) := by decide +kernel
theorem dX11_readImage_46 : decode cX11_readImage 46 = .ok (.iconst 1, 1) := by decide +kernel
theorem dX11_readImage_47 : decode cX11_readImage 47 = .ok (.goto 4, 3) := by decide +kernel
theorem dX11_readImage_50 : decode cX11_readImage 50 = .ok (.iconst 0, 1) := by decide +kernel
theorem dX11_readImage_51 : decode cX11_readImage 51 = .ok (.invokevirtual 268, 3) := by decide +kernel
theorem dX11_readImage_54 : decode cX11_readImage 54 = .ok (.invokevirtual 144, 3) := by decide +kernel
theorem dX11_readImage_57 : decode cX11_readImage 57 = .ok (.ireturn, 1) := by decide +kernel
theorem dX11_setTenure_0 : decode cX11_setTenure 0 = .ok (.aload_n 0, 1) := by decide +kernel
theorem dX11_setTenure_1 : decode cX11_setTenure 1 = .ok (.iload_n 1, 1) := by decide +kernel
theorem dX11_setTenure_2 : decode cX11_setTenure 2 = .ok (.iconst 1, 1) := by decide +kernel
theorem dX11_setTenure_3 : decode cX11_setTenure 3 = .ok (.iconst 4, 1) := by decide +kernel
theorem dX11_setTenure_4 : decode cX11_setTenure 4 = .ok (.invokevirtual 167, 3) := by decide +kernel
theorem dX11_setTenure_7 : decode cX11_setTenure 7 = .ok (.aload_n 0, 1) := by decide +kernel
theorem dX11_setTenure_8 : decode cX11_setTenure 8 = .ok (.getfield 55, 3) := by decide +kernel
theorem dX11_setTenure_11 : decode cX11_setTenure 11 = .ok (.getfield 272, 3) := by decide +kernel
theorem dX11_setTenure_14 : decode cX11_setTenure 14 = .ok (.istore_n 2, 1) := by decide +kernel
theorem dX11_setTenure_15 : decode cX11_setTenure 15 = .ok (.aload_n 0, 1) := by decide +kernel
theorem dX11_setTenure_16 : decode cX11_setTenure 16 = .ok (.getfield 55, 3) := by decide +kernel
theorem dX11_setTenure_19 : decode cX11_setTenure 19 = .ok (.iload_n 1, 1) := by decide +kernel
theorem dX11_setTenure_20 : decode cX11_setTenure 20 = .ok (.putfield 272, 3) := by decide +kernel
theorem dX11_setTenure_23 : decode cX11_setTenure 23 = .ok (.iload_n 2, 1) := by decide +kernel
theorem dX11_setTenure_24 : decode cX11_setTenure 24 = .ok (.ireturn, 1) := by decide +kernel
theorem dX11_collectYoung_0 : decode cX11_collectYoung 0 = .ok (.aload_n 0, 1) := by decide +kernel
theorem dX11_collectYoung_1 : decode cX11_collectYoung 1 = .ok (.invokevirtual 275, 3) := by decide +kernel
theorem dX11_collectYoung_4 : decode cX11_collectYoung 4 = .ok (.aload_n 0, 1) := by decide +kernel
theorem dX11_collectYoung_5 : decode cX11_collectYoung 5 = .ok (.getfield 55, 3) := by decide +kernel
theorem dX11_collectYoung_8 : decode cX11_collectYoung 8 = .ok (.iconst 1, 1) := by decide +kernel
theorem dX11_collectYoung_9 : decode cX11_collectYoung 9 = .ok (.invokevirtual 278, 3) := by decide +kernel
theorem dX11_collectYoung_12 : decode cX11_collectYoung 12 = .ok (.ireturn, 1) := by decide +kernel
theorem dX11_collectAll_0 : decode cX11_collectAll 0 = .ok (.aload_n 0, 1) := by decide +kernel
theorem dX11_collectAll_1 : decode cX11_collectAll 1 = .ok (.invokevirtual 275, 3) := by decide +kernel
theorem dX11_collectAll_4 : decode cX11_collectAll 4 = .ok (.aload_n 0, 1) := by decide +kernel
theorem dX11_collectAll_5 : decode cX11_collectAll 5 = .ok (.getfield 55, 3) := by decide +kernel
theorem dX11_collectAll_8 : decode cX11_collectAll 8 = .ok (.iload_n 1, 1) := by decide +kernel
theorem dX11_collectAll_9 : decode cX11_collectAll 9 = .ok (.ifCond .eq 7, 3) := by decide +kernel
theorem dX11_collectAll_12 : decode cX11_collectAll 12 = .ok (.iconst 3, 1) := by decide +kernel
theorem dX11_collectAll_13 : decode cX11_collectAll 13 = .ok (.goto 4, 3) := by decide +kernel
theorem dX11_collectAll_16 : decode cX11_collectAll 16 = .ok (.iconst 2, 1) := by decide +kernel
theorem dX11_collectAll_17 : decode cX11_collectAll 17 = .ok (.invokevirtual 278, 3) := by decide +kernel
theorem dX11_collectAll_20 : decode cX11_collectAll 20 = .ok (.ireturn, 1) := by decide +kernel
theorem dX11_beginMarking_0 : decode cX11_beginMarking 0 = .ok (.aload_n 0, 1) := by decide +kernel
theorem dX11_beginMarking_1 : decode cX11_beginMarking 1 = .ok (.invokevirtual 275, 3) := by decide +kernel
theorem dX11_beginMarking_4 : decode cX11_beginMarking 4 = .ok (.aload_n 0, 1) := by decide +kernel
theorem dX11_beginMarking_5 : decode cX11_beginMarking 5 = .ok (.getfield 46, 3) := by decide +kernel
theorem dX11_beginMarking_8 : decode cX11_beginMarking 8 = .ok (.invokevirtual 281, 3) := by decide +kernel
theorem dX11_beginMarking_11 : decode cX11_beginMarking 11 = .ok (.ireturn, 1) := by decide +kernel
theorem dX11_step_0 : decode cX11_step 0 = .ok (.aload_n 0, 1) := by decide +kernel
theorem dX11_step_1 : decode cX11_step 1 = .ok (.iload_n 1, 1) := by decide +kernel
theorem dX11_step_2 : decode cX11_step 2 = .ok (.iconst 1, 1) := by decide +kernel
theorem dX11_step_3 : decode cX11_step 3 = .ok (.bipush 50, 2) := by decide +kernel
theorem dX11_step_5 : decode cX11_step 5 = .ok (.invokevirtual 167, 3) := by decide +kernel
theorem dX11_step_8 : decode cX11_step 8 = .ok (.aload_n 0, 1) := by decide +kernel
theorem dX11_step_9 : decode cX11_step 9 = .ok (.getfield 46, 3) := by decide +kernel
theorem dX11_step_12 : decode cX11_step 12 = .ok (.getfield 284, 3) := by decide +kernel
theorem dX11_step_15 : decode cX11_step 15 = .ok (.ifCond .ne 14, 3) := by decide +kernel
theorem dX11_step_18 : decode cX11_step 18 = .ok (.new 106, 3) := by decide +kernel
theorem dX11_step_21 : decode cX11_step 21 = .ok (.dup, 1) := by decide +kernel
theorem dX11_step_22 : decode cX11_step 22 = .ok (.ldc_w 288, 3) := by decide +kernel
theorem dX11_step_25 : decode cX11_step 25 = .ok (.invokespecial 110, 3) := by decide +kernel
theorem dX11_step_28 : decode cX11_step 28 = .ok (.athrow, 1) := by decide +kernel
theorem dX11_step_29 : decode cX11_step 29 = .ok (.aload_n 0, 1) := by decide +kernel
theorem dX11_step_30 : decode cX11_step 30 = .ok (.getfield 46, 3) := by decide +kernel
theorem dX11_step_33 : decode cX11_step 33 = .ok (.iload_n 1, 1) := by decide +kernel
theorem dX11_step_34 : decode cX11_step 34 = .ok (.invokevirtual 290, 3) := by decide +kernel
theorem dX11_step_37 : decode cX11_step 37 = .ok (.istore_n 2, 1) := by decide +kernel
theorem dX11_step_38 : decode cX11_step 38 = .ok (.aload_n 0, 1) := by decide +kernel
theorem dX11_step_39 : decode cX11_step 39 = .ok (.getfield 46, 3) := by decide +kernel
theorem dX11_step_42 : decode cX11_step 42 = .ok (.invokevirtual 293, 3) := by decide +kernel
theorem dX11_step_45 : decode cX11_step 45 = .ok (.ifCond .eq 12, 3) := by decide +kernel
theorem dX11_step_48 : decode cX11_step 48 = .ok (.aload_n 0, 1) := by decide +kernel
theorem dX11_step_49 : decode cX11_step 49 = .ok (.getfield 55, 3) := by decide +kernel
theorem dX11_step_52 : decode cX11_step 52 = .ok (.iconst 0, 1) := by decide +kernel
theorem dX11_step_53 : decode cX11_step 53 = .ok (.invokevirtual 278, 3) := by decide +kernel
theorem dX11_step_56 : decode cX11_step 56 = .ok (.pop, 1) := by decide +kernel
theorem dX11_step_57 : decode cX11_step 57 = .ok (.iload_n 2, 1) := by decide +kernel
theorem dX11_step_58 : decode cX11_step 58 = .ok (.ireturn, 1) := by decide +kernel
theorem dX11_frames_0 : decode cX11_frames 0 = .ok (.aload_n 0, 1) := by decide +kernel
theorem dX11_frames_1 : decode cX11_frames 1 = .ok (.getfield 28, 3) := by decide +kernel
theorem dX11_frames_4 : decode cX11_frames 4 = .ok (.getfield 117, 3) := by decide +kernel
theorem dX11_frames_7 : decode cX11_frames 7 = .ok (.ireturn, 1) := by decide +kernel
theorem dX11_slots_0 : decode cX11_slots 0 = .ok (.aload_n 0, 1) := by decide +kernel
theorem dX11_slots_1 : decode cX11_slots 1 = .ok (.getfield 28, 3) := by decide +kernel
theorem dX11_slots_4 : decode cX11_slots 4 = .ok (.invokevirtual 297, 3) := by decide +kernel
theorem dX11_slots_7 : decode cX11_slots 7 = .ok (.ireturn, 1) := by decide +kernel
theorem dX11_kinds_0 : decode cX11_kinds 0 = .ok (.aload_n 0, 1) := by decide +kernel
theorem dX11_kinds_1 : decode cX11_kinds 1 = .ok (.getfield 12, 3) := by decide +kernel
theorem dX11_kinds_4 : decode cX11_kinds 4 = .ok (.getfield 102, 3) := by decide +kernel
theorem dX11_kinds_7 : decode cX11_kinds 7 = .ok (.ireturn, 1) := by decide +kernel
theorem dX11_isFinal_0 : decode cX11_isFinal 0 = .ok (.aload_n 0, 1) := by decide +kernel
theorem dX11_isFinal_1 : decode cX11_isFinal 1 = .ok (.iload_n 1, 1) := by decide +kernel
theorem dX11_isFinal_2 : decode cX11_isFinal 2 = .ok (.invokevirtual 84, 3) := by decide +kernel
theorem dX11_isFinal_5 : decode cX11_isFinal 5 = .ok (.aload_n 0, 1) := by decide +kernel
theorem dX11_isFinal_6 : decode cX11_isFinal 6 = .ok (.getfield 12, 3) := by decide +kernel
theorem dX11_isFinal_9 : decode cX11_isFinal 9 = .ok (.getfield 303, 3) := by decide +kernel
theorem dX11_isFinal_12 : decode cX11_isFinal 12 = .ok (.iload_n 1, 1) := by decide +kernel
theorem dX11_isFinal_13 : decode cX11_isFinal 13 = .ok (.baload, 1) := by decide +kernel
theorem dX11_isFinal_14 : decode cX11_isFinal 14 = .ok (.ireturn, 1) := by decide +kernel
theorem dX11_numberOf_0 : decode cX11_numberOf 0 = .ok (.aload_n 0, 1) := by decide +kernel
theorem dX11_numberOf_1 : decode cX11_numberOf 1 = .ok (.iload_n 1, 1) := by decide +kernel
theorem dX11_numberOf_2 : decode cX11_numberOf 2 = .ok (.invokevirtual 125, 3) := by decide +kernel
theorem dX11_numberOf_5 : decode cX11_numberOf 5 = .ok (.aload_n 0, 1) := by decide +kernel
theorem dX11_numberOf_6 : decode cX11_numberOf 6 = .ok (.getfield 21, 3) := by decide +kernel
theorem dX11_numberOf_9 : decode cX11_numberOf 9 = .ok (.aload_n 0, 1) := by decide +kernel
theorem dX11_numberOf_10 : decode cX11_numberOf 10 = .ok (.getfield 28, 3) := by decide +kernel
theorem dX11_numberOf_13 : decode cX11_numberOf 13 = .ok (.iload_n 1, 1) := by decide +kernel
theorem dX11_numberOf_14 : decode cX11_numberOf 14 = .ok (.invokevirtual 130, 3) := by decide +kernel
theorem dX11_numberOf_17 : decode cX11_numberOf 17 = .ok (.invokevirtual 141, 3) := by decide +kernel
theorem dX11_numberOf_20 : decode cX11_numberOf 20 = .ok (.ireturn, 1) := by decide +kernel
theorem dX11_globalNumber_0 : decode cX11_globalNumber 0 = .ok (.aload_n 0, 1) := by decide +kernel
theorem dX11_globalNumber_1 : decode cX11_globalNumber 1 = .ok (.iload_n 1, 1) := by decide +kernel
theorem dX11_globalNumber_2 : decode cX11_globalNumber 2 = .ok (.invokevirtual 147, 3) := by decide +kernel
theorem dX11_globalNumber_5 : decode cX11_globalNumber 5 = .ok (.aload_n 0, 1) := by decide +kernel
theorem dX11_globalNumber_6 : decode cX11_globalNumber 6 = .ok (.getfield 21, 3) := by decide +kernel
theorem dX11_globalNumber_9 : decode cX11_globalNumber 9 = .ok (.aload_n 0, 1) := by decide +kernel
theorem dX11_globalNumber_10 : decode cX11_globalNumber 10 = .ok (.getfield 28, 3) := by decide +kernel
theorem dX11_globalNumber_13 : decode cX11_globalNumber 13 = .ok (.getfield 150, 3) := by decide +kernel
theorem dX11_globalNumber_16 : decode cX11_globalNumber 16 = .ok (.iload_n 1, 1) := by decide +kernel
theorem dX11_globalNumber_17 : decode cX11_globalNumber 17 = .ok (.iaload, 1) := by decide +kernel
theorem dX11_globalNumber_18 : decode cX11_globalNumber 18 = .ok (.invokevirtual 141, 3) := by decide +kernel
theorem dX11_globalNumber_21 : decode cX11_globalNumber 21 = .ok (.ireturn, 1) := by decide +kernel
theorem dX11_formOf_0 : decode cX11_formOf 0 = .ok (.aload_n 0, 1) := by decide +kernel
theorem dX11_formOf_1 : decode cX11_formOf 1 = .ok (.iload_n 1, 1) := by decide +kernel
theorem dX11_formOf_2 : decode cX11_formOf 2 = .ok (.invokevirtual 125, 3) := by decide +kernel
theorem dX11_formOf_5 : decode cX11_formOf 5 = .ok (.aload_n 0, 1) := by decide +kernel
theorem dX11_formOf_6 : decode cX11_formOf 6 = .ok (.getfield 28, 3) := by decide +kernel
theorem dX11_formOf_9 : decode cX11_formOf 9 = .ok (.iload_n 1, 1) := by decide +kernel
theorem dX11_formOf_10 : decode cX11_formOf 10 = .ok (.invokevirtual 130, 3) := by decide +kernel
theorem dX11_formOf_13 : decode cX11_formOf 13 = .ok (.istore_n 2, 1) := by decide +kernel
theorem dX11_formOf_14 : decode cX11_formOf 14 = .ok (.iload_n 2, 1) := by decide +kernel
theorem dX11_formOf_15 : decode cX11_formOf 15 = .ok (.iconst (-1), 1) := by decide +kernel
theorem dX11_formOf_16 : decode cX11_formOf 16 = .ok (.if_icmp .ne 7, 3) := by decide +kernel
theorem dX11_formOf_19 : decode cX11_formOf 19 = .ok (.iconst (-1), 1) := by decide +kernel
theorem dX11_formOf_20 : decode cX11_formOf 20 = .ok (.goto 12, 3) := by decide +kernel
theorem dX11_formOf_23 : decode cX11_formOf 23 = .ok (.aload_n 0, 1) := by decide +kernel
theorem dX11_formOf_24 : decode cX11_formOf 24 = .ok (.getfield 21, 3) := by decide +kernel
theorem dX11_formOf_27 : decode cX11_formOf 27 = .ok (.getfield 310, 3) := by decide +kernel
theorem dX11_formOf_30 : decode cX11_formOf 30 = .ok (.iload_n 2, 1) := by decide +kernel
theorem dX11_formOf_31 : decode cX11_formOf 31 = .ok (.iaload, 1) := by decide +kernel
theorem dX11_formOf_32 : decode cX11_formOf 32 = .ok (.ireturn, 1) := by decide +kernel
theorem dX11_kindOf_0 : decode cX11_kindOf 0 = .ok (.aload_n 0, 1) := by decide +kernel
theorem dX11_kindOf_1 : decode cX11_kindOf 1 = .ok (.iload_n 1, 1) := by decide +kernel
theorem dX11_kindOf_2 : decode cX11_kindOf 2 = .ok (.invokevirtual 125, 3) := by decide +kernel
theorem dX11_kindOf_5 : decode cX11_kindOf 5 = .ok (.aload_n 0, 1) := by decide +kernel
theorem dX11_kindOf_6 : decode cX11_kindOf 6 = .ok (.getfield 28, 3) := by decide +kernel
theorem dX11_kindOf_9 : decode cX11_kindOf 9 = .ok (.iload_n 1, 1) := by decide +kernel
theorem dX11_kindOf_10 : decode cX11_kindOf 10 = .ok (.invokevirtual 130, 3) := by decide +kernel
theorem dX11_kindOf_13 : decode cX11_kindOf 13 = .ok (.istore_n 2, 1) := by decide +kernel
theorem dX11_kindOf_14 : decode cX11_kindOf 14 = .ok (.iload_n 2, 1) := by decide +kernel
theorem dX11_kindOf_15 : decode cX11_kindOf 15 = .ok (.iconst (-1), 1) := by decide +kernel
theorem dX11_kindOf_16 : decode cX11_kindOf 16 = .ok (.if_icmp .ne 7, 3) := by decide +kernel
theorem dX11_kindOf_19 : decode cX11_kindOf 19 = .ok (.iconst (-1), 1) := by decide +kernel
theorem dX11_kindOf_20 : decode cX11_kindOf 20 = .ok (.goto 12, 3) := by decide +kernel
theorem dX11_kindOf_23 : decode cX11_kindOf 23 = .ok (.aload_n 0, 1) := by decide +kernel
theorem dX11_kindOf_24 : decode cX11_kindOf 24 = .ok (.getfield 21, 3) := by decide +kernel
theorem dX11_kindOf_27 : decode cX11_kindOf 27 = .ok (.getfield 313, 3) := by decide +kernel
theorem dX11_kindOf_30 : decode cX11_kindOf 30 = .ok (.iload_n 2, 1) := by decide +kernel
theorem dX11_kindOf_31 : decode cX11_kindOf 31 = .ok (.iaload, 1) := by decide +kernel
theorem dX11_kindOf_32 : decode cX11_kindOf 32 = .ok (.ireturn, 1) := by decide +kernel
theorem dX11_lengthOf_0 : decode cX11_lengthOf 0 = .ok (.aload_n 0, 1) := by decide +kernel
theorem dX11_lengthOf_1 : decode cX11_lengthOf 1 = .ok (.iload_n 1, 1) := by decide +kernel
theorem dX11_lengthOf_2 : decode cX11_lengthOf 2 = .ok (.invokevirtual 125, 3) := by decide +kernel
theorem dX11_lengthOf_5 : decode cX11_lengthOf 5 = .ok (.aload_n 0, 1) := by decide +kernel
theorem dX11_lengthOf_6 : decode cX11_lengthOf 6 = .ok (.getfield 28, 3) := by decide +kernel
theorem dX11_lengthOf_9 : decode cX11_lengthOf 9 = .ok (.iload_n 1, 1) := by decide +kernel
theorem dX11_lengthOf_10 : decode cX11_lengthOf 10 = .ok (.invokevirtual 130, 3) := by decide +kernel
theorem dX11_lengthOf_13 : decode cX11_lengthOf 13 = .ok (.istore_n 2, 1) := by decide +kernel
theorem dX11_lengthOf_14 : decode cX11_lengthOf 14 = .ok (.iload_n 2, 1) := by decide +kernel
theorem dX11_lengthOf_15 : decode cX11_lengthOf 15 = .ok (.iconst (-1), 1) := by decide +kernel
theorem dX11_lengthOf_16 : decode cX11_lengthOf 16 = .ok (.if_icmp .ne 7, 3) := by decide +kernel
theorem dX11_lengthOf_19 : decode cX11_lengthOf 19 = .ok (.iconst (-1), 1) := by decide +kernel
theorem dX11_lengthOf_20 : decode cX11_lengthOf 20 = .ok (.goto 12, 3) := by decide +kernel
theorem dX11_lengthOf_23 : decode cX11_lengthOf 23 = .ok (.aload_n 0, 1) := by decide +kernel
theorem dX11_lengthOf_24 : decode cX11_lengthOf 24 = .ok (.getfield 21, 3) := by decide +kernel
theorem dX11_lengthOf_27 : decode cX11_lengthOf 27 = .ok (.getfield 235, 3) := by decide +kernel
theorem dX11_lengthOf_30 : decode cX11_lengthOf 30 = .ok (.iload_n 2, 1) := by decide +kernel
theorem dX11_lengthOf_31 : decode cX11_lengthOf 31 = .ok (.iaload, 1) := by decide +kernel
theorem dX11_lengthOf_32 : decode cX11_lengthOf 32 = .ok (.ireturn, 1) := by decide +kernel
theorem dX11_wordsOf_0 : decode cX11_wordsOf 0 = .ok (.aload_n 0, 1) := by decide +kernel
theorem dX11_wordsOf_1 : decode cX11_wordsOf 1 = .ok (.iload_n 1, 1) := by decide +kernel
theorem dX11_wordsOf_2 : decode cX11_wordsOf 2 = .ok (.invokevirtual 125, 3) := by decide +kernel
theorem dX11_wordsOf_5 : decode cX11_wordsOf 5 = .ok (.aload_n 0, 1) := by decide +kernel
theorem dX11_wordsOf_6 : decode cX11_wordsOf 6 = .ok (.getfield 28, 3) := by decide +kernel
theorem dX11_wordsOf_9 : decode cX11_wordsOf 9 = .ok (.iload_n 1, 1) := by decide +kernel
theorem dX11_wordsOf_10 : decode cX11_wordsOf 10 = .ok (.invokevirtual 130, 3) := by decide +kernel
theorem dX11_wordsOf_13 : decode cX11_wordsOf 13 = .ok (.istore_n 2, 1) := by decide +kernel
theorem dX11_wordsOf_14 : decode cX11_wordsOf 14 = .ok (.iload_n 2, 1) := by decide +kernel
theorem dX11_wordsOf_15 : decode cX11_wordsOf 15 = .ok (.iconst (-1), 1) := by decide +kernel
theorem dX11_wordsOf_16 : decode cX11_wordsOf 16 = .ok (.if_icmp .ne 7, 3) := by decide +kernel
theorem dX11_wordsOf_19 : decode cX11_wordsOf 19 = .ok (.iconst 0, 1) := by decide +kernel
theorem dX11_wordsOf_20 : decode cX11_wordsOf 20 = .ok (.goto 12, 3) := by decide +kernel
theorem dX11_wordsOf_23 : decode cX11_wordsOf 23 = .ok (.aload_n 0, 1) := by decide +kernel
theorem dX11_wordsOf_24 : decode cX11_wordsOf 24 = .ok (.getfield 21, 3) := by decide +kernel
theorem dX11_wordsOf_27 : decode cX11_wordsOf 27 = .ok (.getfield 316, 3) := by decide +kernel
theorem dX11_wordsOf_30 : decode cX11_wordsOf 30 = .ok (.iload_n 2, 1) := by decide +kernel
theorem dX11_wordsOf_31 : decode cX11_wordsOf 31 = .ok (.iaload, 1) := by decide +kernel
theorem dX11_wordsOf_32 : decode cX11_wordsOf 32 = .ok (.ireturn, 1) := by decide +kernel
theorem dX11_ageOf_0 : decode cX11_ageOf 0 = .ok (.aload_n 0, 1) := by decide +kernel
theorem dX11_ageOf_1 : decode cX11_ageOf 1 = .ok (.iload_n 1, 1) := by decide +kernel
theorem dX11_ageOf_2 : decode cX11_ageOf 2 = .ok (.invokevirtual 125, 3) := by decide +kernel
theorem dX11_ageOf_5 : decode cX11_ageOf 5 = .ok (.aload_n 0, 1) := by decide +kernel
theorem dX11_ageOf_6 : decode cX11_ageOf 6 = .ok (.getfield 28, 3) := by decide +kernel
theorem dX11_ageOf_9 : decode cX11_ageOf 9 = .ok (.iload_n 1, 1) := by decide +kernel
theorem dX11_ageOf_10 : decode cX11_ageOf 10 = .ok (.invokevirtual 130, 3) := by decide +kernel
theorem dX11_ageOf_13 : decode cX11_ageOf 13 = .ok (.istore_n 2, 1) := by decide +kernel
theorem dX11_ageOf_14 : decode cX11_ageOf 14 = .ok (.iload_n 2, 1) := by decide +kernel
theorem dX11_ageOf_15 : decode cX11_ageOf 15 = .ok (.iconst (-1), 1) := by decide +kernel
theorem dX11_ageOf_16 : decode cX11_ageOf 16 = .ok (.if_icmp .ne 7, 3) := by decide +kernel
theorem dX11_ageOf_19 : decode cX11_ageOf 19 = .ok (.iconst (-1), 1) := by decide +kernel
theorem dX11_ageOf_20 : decode cX11_ageOf 20 = .ok (.goto 12, 3) := by decide +kernel
theorem dX11_ageOf_23 : decode cX11_ageOf 23 = .ok (.aload_n 0, 1) := by decide +kernel
theorem dX11_ageOf_24 : decode cX11_ageOf 24 = .ok (.getfield 21, 3) := by decide +kernel
theorem dX11_ageOf_27 : decode cX11_ageOf 27 = .ok (.getfield 319, 3) := by decide +kernel
theorem dX11_ageOf_30 : decode cX11_ageOf 30 = .ok (.iload_n 2, 1) := by decide +kernel
theorem dX11_ageOf_31 : decode cX11_ageOf 31 = .ok (.iaload, 1) := by decide +kernel
theorem dX11_ageOf_32 : decode cX11_ageOf 32 = .ok (.ireturn, 1) := by decide +kernel
theorem dX11_isOld_0 : decode cX11_isOld 0 = .ok (.aload_n 0, 1) := by decide +kernel
theorem dX11_isOld_1 : decode cX11_isOld 1 = .ok (.iload_n 1, 1) := by decide +kernel
theorem dX11_isOld_2 : decode cX11_isOld 2 = .ok (.invokevirtual 125, 3) := by decide +kernel
theorem dX11_isOld_5 : decode cX11_isOld 5 = .ok (.aload_n 0, 1) := by decide +kernel
theorem dX11_isOld_6 : decode cX11_isOld 6 = .ok (.getfield 28, 3) := by decide +kernel
theorem dX11_isOld_9 : decode cX11_isOld 9 = .ok (.iload_n 1, 1) := by decide +kernel
theorem dX11_isOld_10 : decode cX11_isOld 10 = .ok (.invokevirtual 130, 3) := by decide +kernel
theorem dX11_isOld_13 : decode cX11_isOld 13 = .ok (.istore_n 2, 1) := by decide +kernel
theorem dX11_isOld_14 : decode cX11_isOld 14 = .ok (.iload_n 2, 1) := by decide +kernel
theorem dX11_isOld_15 : decode cX11_isOld 15 = .ok (.iconst (-1), 1) := by decide +kernel
theorem dX11_isOld_16 : decode cX11_isOld 16 = .ok (.if_icmp .eq 19, 3) := by decide +kernel
theorem dX11_isOld_19 : decode cX11_isOld 19 = .ok (.aload_n 0, 1) := by decide +kernel
theorem dX11_isOld_20 : decode cX11_isOld 20 = .ok (.getfield 21, 3) := by decide +kernel
theorem dX11_isOld_23 : decode cX11_isOld 23 = .ok (.getfield 322, 3) := by decide +kernel
theorem dX11_isOld_26 : decode cX11_isOld 26 = .ok (.iload_n 2, 1) := by decide +kernel
theorem dX11_isOld_27 : decode cX11_isOld 27 = .ok (.baload, 1) := by decide +kernel
theorem dX11_isOld_28 : decode cX11_isOld 28 = .ok (.ifCond .eq 7, 3) := by decide +kernel
theorem dX11_isOld_31 : decode cX11_isOld 31 = .ok (.iconst 1, 1) := by decide +kernel
theorem dX11_isOld_32 : decode cX11_isOld 32 = .ok (.goto 4, 3) := by decide +kernel
theorem dX11_isOld_35 : decode cX11_isOld 35 = .ok (.iconst 0, 1) := by decide +kernel
theorem dX11_isOld_36 : decode cX11_isOld 36 = .ok (.ireturn, 1) := by decide +kernel
theorem dX11_isFinalized_0 : decode cX11_isFinalized 0 = .ok (.aload_n 0, 1) := by decide +kernel
theorem dX11_isFinalized_1 : decode cX11_isFinalized 1 = .ok (.iload_n 1, 1) := by decide +kernel
theorem dX11_isFinalized_2 : decode cX11_isFinalized 2 = .ok (.invokevirtual 125, 3) := by decide +kernel
theorem dX11_isFinalized_5 : decode cX11_isFinalized 5 = .ok (.aload_n 0, 1) := by decide +kernel
theorem dX11_isFinalized_6 : decode cX11_isFinalized 6 = .ok (.getfield 28, 3) := by decide +kernel
theorem dX11_isFinalized_9 : decode cX11_isFinalized 9 = .ok (.iload_n 1, 1) := by decide +kernel
theorem dX11_isFinalized_10 : decode cX11_isFinalized 10 = .ok (.invokevirtual 130, 3) := by decide +kernel
theorem dX11_isFinalized_13 : decode cX11_isFinalized 13 = .ok (.istore_n 2, 1) := by decide +kernel
theorem dX11_isFinalized_14 : decode cX11_isFinalized 14 = .ok (.iload_n 2, 1) := by decide +kernel
theorem dX11_isFinalized_15 : decode cX11_isFinalized 15 = .ok (.iconst (-1), 1) := by decide +kernel
theorem dX11_isFinalized_16 : decode cX11_isFinalized 16 = .ok (.if_icmp .eq 19, 3) := by decide +kernel
theorem dX11_isFinalized_19 : decode cX11_isFinalized 19 = .ok (.aload_n 0, 1) := by decide +kernel
theorem dX11_isFinalized_20 : decode cX11_isFinalized 20 = .ok (.getfield 21, 3) := by decide +kernel
theorem dX11_isFinalized_23 : decode cX11_isFinalized 23 = .ok (.getfield 325, 3) := by decide +kernel
theorem dX11_isFinalized_26 : decode cX11_isFinalized 26 = .ok (.iload_n 2, 1) := by decide +kernel
theorem dX11_isFinalized_27 : decode cX11_isFinalized 27 = .ok (.baload, 1) := by decide +kernel
theorem dX11_isFinalized_28 : decode cX11_isFinalized 28 = .ok (.ifCond .eq 7, 3) := by decide +kernel
theorem dX11_isFinalized_31 : decode cX11_isFinalized 31 = .ok (.iconst 1, 1) := by decide +kernel
theorem dX11_isFinalized_32 : decode cX11_isFinalized 32 = .ok (.goto 4, 3) := by decide +kernel
theorem dX11_isFinalized_35 : decode cX11_isFinalized 35 = .ok (.iconst 0, 1) := by decide +kernel
theorem dX11_isFinalized_36 : decode cX11_isFinalized 36 = .ok (.ireturn, 1) := by decide +kernel
theorem dX11_isInterned_0 : decode cX11_isInterned 0 = .ok (.aload_n 0, 1) := by decide +kernel
theorem dX11_isInterned_1 : decode cX11_isInterned 1 = .ok (.iload_n 1, 1) := by decide +kernel
theorem dX11_isInterned_2 : decode cX11_isInterned 2 = .ok (.invokevirtual 125, 3) := by decide +kernel
theorem dX11_isInterned_5 : decode cX11_isInterned 5 = .ok (.aload_n 0, 1) := by decide +kernel
theorem dX11_isInterned_6 : decode cX11_isInterned 6 = .ok (.getfield 28, 3) := by decide +kernel
theorem dX11_isInterned_9 : decode cX11_isInterned 9 = .ok (.iload_n 1, 1) := by decide +kernel
theorem dX11_isInterned_10 : decode cX11_isInterned 10 = .ok (.invokevirtual 130, 3) := by decide +kernel
theorem dX11_isInterned_13 : decode cX11_isInterned 13 = .ok (.istore_n 2, 1) := by decide +kernel
theorem dX11_isInterned_14 : decode cX11_isInterned 14 = .ok (.iload_n 2, 1) := by decide +kernel
theorem dX11_isInterned_15 : decode cX11_isInterned 15 = .ok (.iconst (-1), 1) := by decide +kernel
theorem dX11_isInterned_16 : decode cX11_isInterned 16 = .ok (.if_icmp .eq 19, 3) := by decide +kernel
theorem dX11_isInterned_19 : decode cX11_isInterned 19 = .ok (.aload_n 0, 1) := by decide +kernel
theorem dX11_isInterned_20 : decode cX11_isInterned 20 = .ok (.getfield 21, 3) := by decide +kernel
theorem dX11_isInterned_23 : decode cX11_isInterned 23 = .ok (.getfield 242, 3) := by decide +kernel
theorem dX11_isInterned_26 : decode cX11_isInterned 26 = .ok (.iload_n 2, 1) := by decide +kernel
theorem dX11_isInterned_27 : decode cX11_isInterned 27 = .ok (.baload, 1) := by decide +kernel
theorem dX11_isInterned_28 : decode cX11_isInterned 28 = .ok (.ifCond .eq 7, 3) := by decide +kernel
theorem dX11_isInterned_31 : decode cX11_isInterned 31 = .ok (.iconst 1, 1) := by decide +kernel
theorem dX11_isInterned_32 : decode cX11_isInterned 32 = .ok (.goto 4, 3) := by decide +kernel
theorem dX11_isInterned_35 : decode cX11_isInterned 35 = .ok (.iconst 0, 1) := by decide +kernel
theorem dX11_isInterned_36 : decode cX11_isInterned 36 = .ok (.ireturn, 1) := by decide +kernel
theorem dX11_isCleared_0 : decode cX11_isCleared 0 = .ok (.aload_n 0, 1) := by decide +kernel
theorem dX11_isCleared_1 : decode cX11_isCleared 1 = .ok (.iload_n 1, 1) := by decide +kernel
theorem dX11_isCleared_2 : decode cX11_isCleared 2 = .ok (.invokevirtual 125, 3) := by decide +kernel
theorem dX11_isCleared_5 : decode cX11_isCleared 5 = .ok (.aload_n 0, 1) := by decide +kernel
theorem dX11_isCleared_6 : decode cX11_isCleared 6 = .ok (.getfield 28, 3) := by decide +kernel
theorem dX11_isCleared_9 : decode cX11_isCleared 9 = .ok (.iload_n 1, 1) := by decide +kernel
theorem dX11_isCleared_10 : decode cX11_isCleared 10 = .ok (.invokevirtual 130, 3) := by decide +kernel
theorem dX11_isCleared_13 : decode cX11_isCleared 13 = .ok (.istore_n 2, 1) := by decide +kernel
theorem dX11_isCleared_14 : decode cX11_isCleared 14 = .ok (.iload_n 2, 1) := by decide +kernel
theorem dX11_isCleared_15 : decode cX11_isCleared 15 = .ok (.iconst (-1), 1) := by decide +kernel
theorem dX11_isCleared_16 : decode cX11_isCleared 16 = .ok (.if_icmp .eq 30, 3) := by decide +kernel
theorem dX11_isCleared_19 : decode cX11_isCleared 19 = .ok (.aload_n 0, 1) := by decide +kernel
theorem dX11_isCleared_20 : decode cX11_isCleared 20 = .ok (.getfield 21, 3) := by decide +kernel
theorem dX11_isCleared_23 : decode cX11_isCleared 23 = .ok (.iload_n 2, 1) := by decide +kernel
theorem dX11_isCleared_24 : decode cX11_isCleared 24 = .ok (.invokevirtual 328, 3) := by decide +kernel
theorem dX11_isCleared_27 : decode cX11_isCleared 27 = .ok (.ifCond .eq 19, 3) := by decide +kernel
theorem dX11_isCleared_30 : decode cX11_isCleared 30 = .ok (.aload_n 0, 1) := by decide +kernel
theorem dX11_isCleared_31 : decode cX11_isCleared 31 = .ok (.getfield 21, 3) := by decide +kernel
theorem dX11_isCleared_34 : decode cX11_isCleared 34 = .ok (.iload_n 2, 1) := by decide +kernel
theorem dX11_isCleared_35 : decode cX11_isCleared 35 = .ok (.invokevirtual 198, 3) := by decide +kernel
theorem dX11_isCleared_38 : decode cX11_isCleared 38 = .ok (.iconst (-1), 1) := by decide +kernel
theorem dX11_isCleared_39 : decode cX11_isCleared 39 = .ok (.if_icmp .ne 7, 3) := by decide +kernel
theorem dX11_isCleared_42 : decode cX11_isCleared 42 = .ok (.iconst 1, 1) := by decide +kernel
theorem dX11_isCleared_43 : decode cX11_isCleared 43 = .ok (.goto 4, 3) := by decide +kernel
theorem dX11_isCleared_46 : decode cX11_isCleared 46 = .ok (.iconst 0, 1) := by decide +kernel
theorem dX11_isCleared_47 : decode cX11_isCleared 47 = .ok (.ireturn, 1) := by decide +kernel
theorem dX11_entriesOf_0 : decode cX11_entriesOf 0 = .ok (.aload_n 0, 1) := by decide +kernel
theorem dX11_entriesOf_1 : decode cX11_entriesOf 1 = .ok (.iload_n 1, 1) := by decide +kernel
theorem dX11_entriesOf_2 : decode cX11_entriesOf 2 = .ok (.invokevirtual 125, 3) := by decide +kernel
theorem dX11_entriesOf_5 : decode cX11_entriesOf 5 = .ok (.aload_n 0, 1) := by decide +kernel
theorem dX11_entriesOf_6 : decode cX11_entriesOf 6 = .ok (.getfield 28, 3) := by decide +kernel
theorem dX11_entriesOf_9 : decode cX11_entriesOf 9 = .ok (.iload_n 1, 1) := by decide +kernel
theorem dX11_entriesOf_10 : decode cX11_entriesOf 10 = .ok (.invokevirtual 130, 3) := by decide +kernel
theorem dX11_entriesOf_13 : decode cX11_entriesOf 13 = .ok (.istore_n 2, 1) := by decide +kernel
theorem dX11_entriesOf_14 : decode cX11_entriesOf 14 = .ok (.iload_n 2, 1) := by decide +kernel
theorem dX11_entriesOf_15 : decode cX11_entriesOf 15 = .ok (.iconst (-1), 1) := by decide +kernel
theorem dX11_entriesOf_16 : decode cX11_entriesOf 16 = .ok (.if_icmp .eq 21, 3) := by decide +kernel
theorem dX11_entriesOf_19 : decode cX11_entriesOf 19 = .ok (.aload_n 0, 1) := by decide +kernel
theorem dX11_entriesOf_20 : decode cX11_entriesOf 20 = .ok (.getfield 21, 3) := by decide +kernel
theorem dX11_entriesOf_23 : decode cX11_entriesOf 23 = .ok (.getfield 310, 3) := by decide +kernel
theorem dX11_entriesOf_26 : decode cX11_entriesOf 26 = .ok (.iload_n 2, 1) := by decide +kernel
theorem dX11_entriesOf_27 : decode cX11_entriesOf 27 = .ok (.iaload, 1) := by decide +kernel
theorem dX11_entriesOf_28 : decode cX11_entriesOf 28 = .ok (.bipush 6, 2) := by decide +kernel
theorem dX11_entriesOf_30 : decode cX11_entriesOf 30 = .ok (.if_icmp .ne 7, 3) := by decide +kernel
theorem dX11_entriesOf_33 : decode cX11_entriesOf 33 = .ok (.iconst 1, 1) := by decide +kernel
theorem dX11_entriesOf_34 : decode cX11_entriesOf 34 = .ok (.goto 4, 3) := by decide +kernel
theorem dX11_entriesOf_37 : decode cX11_entriesOf 37 = .ok (.iconst 0, 1) := by decide +kernel
theorem dX11_entriesOf_38 : decode cX11_entriesOf 38 = .ok (.istore_n 3, 1) := by decide +kernel
theorem dX11_entriesOf_39 : decode cX11_entriesOf 39 = .ok (.iload_n 3, 1) := by decide +kernel
theorem dX11_entriesOf_40 : decode cX11_entriesOf 40 = .ok (.ifCond .eq 14, 3) := by decide +kernel
theorem dX11_entriesOf_43 : decode cX11_entriesOf 43 = .ok (.aload_n 0, 1) := by decide +kernel
theorem dX11_entriesOf_44 : decode cX11_entriesOf 44 = .ok (.getfield 21, 3) := by decide +kernel
theorem dX11_entriesOf_47 : decode cX11_entriesOf 47 = .ok (.iload_n 2, 1) := by decide +kernel
theorem dX11_entriesOf_48 : decode cX11_entriesOf 48 = .ok (.invokevirtual 331, 3) := by decide +kernel
theorem dX11_entriesOf_51 : decode cX11_entriesOf 51 = .ok (.goto 4, 3) := by decide +kernel
theorem dX11_entriesOf_54 : decode cX11_entriesOf 54 = .ok (.iconst (-1), 1) := by decide +kernel
theorem dX11_entriesOf_55 : decode cX11_entriesOf 55 = .ok (.ireturn, 1) := by decide +kernel
theorem dX11_objects_0 : decode cX11_objects 0 = .ok (.aload_n 0, 1) := by decide +kernel
theorem dX11_objects_1 : decode cX11_objects 1 = .ok (.getfield 21, 3) := by decide +kernel
theorem dX11_objects_4 : decode cX11_objects 4 = .ok (.getfield 334, 3) := by decide +kernel
theorem dX11_objects_7 : decode cX11_objects 7 = .ok (.ireturn, 1) := by decide +kernel
theorem dX11_youngObjects_0 : decode cX11_youngObjects 0 = .ok (.aload_n 0, 1) := by decide +kernel
theorem dX11_youngObjects_1 : decode cX11_youngObjects 1 = .ok (.getfield 21, 3) := by decide +kernel
theorem dX11_youngObjects_4 : decode cX11_youngObjects 4 = .ok (.invokevirtual 335, 3) := by decide +kernel
theorem dX11_youngObjects_7 : decode cX11_youngObjects 7 = .ok (.ireturn, 1) := by decide +kernel
theorem dX11_youngWords_0 : decode cX11_youngWords 0 = .ok (.aload_n 0, 1) := by decide +kernel
theorem dX11_youngWords_1 : decode cX11_youngWords 1 = .ok (.getfield 21, 3) := by decide +kernel
theorem dX11_youngWords_4 : decode cX11_youngWords 4 = .ok (.getfield 338, 3) := by decide +kernel
theorem dX11_youngWords_7 : decode cX11_youngWords 7 = .ok (.ireturn, 1) := by decide +kernel
theorem dX11_oldWords_0 : decode cX11_oldWords 0 = .ok (.aload_n 0, 1) := by decide +kernel
theorem dX11_oldWords_1 : decode cX11_oldWords 1 = .ok (.getfield 21, 3) := by decide +kernel
theorem dX11_oldWords_4 : decode cX11_oldWords 4 = .ok (.getfield 341, 3) := by decide +kernel
theorem dX11_oldWords_7 : decode cX11_oldWords 7 = .ok (.ireturn, 1) := by decide +kernel
theorem dX11_made_0 : decode cX11_made 0 = .ok (.aload_n 0, 1) := by decide +kernel
theorem dX11_made_1 : decode cX11_made 1 = .ok (.getfield 21, 3) := by decide +kernel
theorem dX11_made_4 : decode cX11_made 4 = .ok (.getfield 344, 3) := by decide +kernel
theorem dX11_made_7 : decode cX11_made 7 = .ok (.ireturn, 1) := by decide +kernel
theorem dX11_queued_0 : decode cX11_queued 0 = .ok (.aload_n 0, 1) := by decide +kernel
theorem dX11_queued_1 : decode cX11_queued 1 = .ok (.getfield 28, 3) := by decide +kernel
theorem dX11_queued_4 : decode cX11_queued 4 = .ok (.getfield 207, 3) := by decide +kernel
theorem dX11_queued_7 : decode cX11_queued 7 = .ok (.getfield 347, 3) := by decide +kernel
theorem dX11_queued_10 : decode cX11_queued 10 = .ok (.ireturn, 1) := by decide +kernel
theorem dX11_lasts_0 : decode cX11_lasts 0 = .ok (.aload_n 0, 1) := by decide +kernel
theorem dX11_lasts_1 : decode cX11_lasts 1 = .ok (.getfield 28, 3) := by decide +kernel
theorem dX11_lasts_4 : decode cX11_lasts 4 = .ok (.getfield 215, 3) := by decide +kernel
theorem dX11_lasts_7 : decode cX11_lasts 7 = .ok (.getfield 347, 3) := by decide +kernel
theorem dX11_lasts_10 : decode cX11_lasts 10 = .ok (.ireturn, 1) := by decide +kernel
theorem dX11_interned_0 : decode cX11_interned 0 = .ok (.aload_n 0, 1) := by decide +kernel
theorem dX11_interned_1 : decode cX11_interned 1 = .ok (.getfield 21, 3) := by decide +kernel
theorem dX11_interned_4 : decode cX11_interned 4 = .ok (.invokevirtual 352, 3) := by decide +kernel
theorem dX11_interned_7 : decode cX11_interned 7 = .ok (.ireturn, 1) := by decide +kernel
theorem dX11_youngCollections_0 : decode cX11_youngCollections 0 = .ok (.aload_n 0, 1) := by decide +kernel
theorem dX11_youngCollections_1 : decode cX11_youngCollections 1 = .ok (.getfield 55, 3) := by decide +kernel
theorem dX11_youngCollections_4 : decode cX11_youngCollections 4 = .ok (.getfield 355, 3) := by decide +kernel
theorem dX11_youngCollections_7 : decode cX11_youngCollections 7 = .ok (.ireturn, 1) := by decide +kernel
theorem dX11_fullCollections_0 : decode cX11_fullCollections 0 = .ok (.aload_n 0, 1) := by decide +kernel
theorem dX11_fullCollections_1 : decode cX11_fullCollections 1 = .ok (.getfield 55, 3) := by decide +kernel
theorem dX11_fullCollections_4 : decode cX11_fullCollections 4 = .ok (.getfield 358, 3) := by decide +kernel
theorem dX11_fullCollections_7 : decode cX11_fullCollections 7 = .ok (.ireturn, 1) := by decide +kernel
theorem dX11_isMarking_0 : decode cX11_isMarking 0 = .ok (.aload_n 0, 1) := by decide +kernel
theorem dX11_isMarking_1 : decode cX11_isMarking 1 = .ok (.getfield 46, 3) := by decide +kernel
theorem dX11_isMarking_4 : decode cX11_isMarking 4 = .ok (.getfield 284, 3) := by decide +kernel
theorem dX11_isMarking_7 : decode cX11_isMarking 7 = .ok (.ireturn, 1) := by decide +kernel
theorem dX11_tenure_0 : decode cX11_tenure 0 = .ok (.aload_n 0, 1) := by decide +kernel
theorem dX11_tenure_1 : decode cX11_tenure 1 = .ok (.getfield 55, 3) := by decide +kernel
theorem dX11_tenure_4 : decode cX11_tenure 4 = .ok (.getfield 272, 3) := by decide +kernel
theorem dX11_tenure_7 : decode cX11_tenure 7 = .ok (.ireturn, 1) := by decide +kernel
theorem dX11_imageLength_0 : decode cX11_imageLength 0 = .ok (.aload_n 0, 1) := by decide +kernel
theorem dX11_imageLength_1 : decode cX11_imageLength 1 = .ok (.getfield 73, 3) := by decide +kernel
theorem dX11_imageLength_4 : decode cX11_imageLength 4 = .ok (.getfield 361, 3) := by decide +kernel
theorem dX11_imageLength_7 : decode cX11_imageLength 7 = .ok (.ireturn, 1) := by decide +kernel
theorem dX11_imageAt_0 : decode cX11_imageAt 0 = .ok (.aload_n 0, 1) := by decide +kernel
theorem dX11_imageAt_1 : decode cX11_imageAt 1 = .ok (.iload_n 1, 1) := by decide +kernel
theorem dX11_imageAt_2 : decode cX11_imageAt 2 = .ok (.invokevirtual 255, 3) := by decide +kernel
theorem dX11_imageAt_5 : decode cX11_imageAt 5 = .ok (.aload_n 0, 1) := by decide +kernel
theorem dX11_imageAt_6 : decode cX11_imageAt 6 = .ok (.getfield 73, 3) := by decide +kernel
theorem dX11_imageAt_9 : decode cX11_imageAt 9 = .ok (.getfield 258, 3) := by decide +kernel
theorem dX11_imageAt_12 : decode cX11_imageAt 12 = .ok (.iload_n 1, 1) := by decide +kernel
theorem dX11_imageAt_13 : decode cX11_imageAt 13 = .ok (.iaload, 1) := by decide +kernel
theorem dX11_imageAt_14 : decode cX11_imageAt 14 = .ok (.ireturn, 1) := by decide +kernel
theorem dX11_isPresent_0 : decode cX11_isPresent 0 = .ok (.aload_n 0, 1) := by decide +kernel
theorem dX11_isPresent_1 : decode cX11_isPresent 1 = .ok (.getfield 21, 3) := by decide +kernel
theorem dX11_isPresent_4 : decode cX11_isPresent 4 = .ok (.iload_n 1, 1) := by decide +kernel
theorem dX11_isPresent_5 : decode cX11_isPresent 5 = .ok (.invokevirtual 364, 3) := by decide +kernel
theorem dX11_isPresent_8 : decode cX11_isPresent 8 = .ok (.iconst (-1), 1) := by decide +kernel
theorem dX11_isPresent_9 : decode cX11_isPresent 9 = .ok (.if_icmp .eq 7, 3) := by decide +kernel
theorem dX11_isPresent_12 : decode cX11_isPresent 12 = .ok (.iconst 1, 1) := by decide +kernel
theorem dX11_isPresent_13 : decode cX11_isPresent 13 = .ok (.goto 4, 3) := by decide +kernel
theorem dX11_isPresent_16 : decode cX11_isPresent 16 = .ok (.iconst 0, 1) := by decide +kernel
theorem dX11_isPresent_17 : decode cX11_isPresent 17 = .ok (.ireturn, 1) := by decide +kernel
theorem dX11_isReached_0 : decode cX11_isReached 0 = .ok (.aload_n 0, 1) := by decide +kernel
theorem dX11_isReached_1 : decode cX11_isReached 1 = .ok (.getfield 80, 3) := by decide +kernel
theorem dX11_isReached_4 : decode cX11_isReached 4 = .ok (.iconst (-1), 1) := by decide +kernel
theorem dX11_isReached_5 : decode cX11_isReached 5 = .ok (.invokevirtual 367, 3) := by decide +kernel
theorem dX11_isReached_8 : decode cX11_isReached 8 = .ok (.aload_n 0, 1) := by decide +kernel
theorem dX11_isReached_9 : decode cX11_isReached 9 = .ok (.getfield 80, 3) := by decide +kernel
theorem dX11_isReached_12 : decode cX11_isReached 12 = .ok (.getfield 370, 3) := by decide +kernel
theorem dX11_isReached_15 : decode cX11_isReached 15 = .ok (.aload_n 0, 1) := by decide +kernel
theorem dX11_isReached_16 : decode cX11_isReached 16 = .ok (.getfield 21, 3) := by decide +kernel
theorem dX11_isReached_19 : decode cX11_isReached 19 = .ok (.iload_n 1, 1) := by decide +kernel
theorem dX11_isReached_20 : decode cX11_isReached 20 = .ok (.invokevirtual 364, 3) := by decide +kernel
theorem dX11_isReached_23 : decode cX11_isReached 23 = .ok (.invokevirtual 374, 3) := by decide +kernel
theorem dX11_isReached_26 : decode cX11_isReached 26 = .ok (.ireturn, 1) := by decide +kernel
theorem dX11_distance_0 : decode cX11_distance 0 = .ok (.aload_n 0, 1) := by decide +kernel
theorem dX11_distance_1 : decode cX11_distance 1 = .ok (.getfield 80, 3) := by decide +kernel
theorem dX11_distance_4 : decode cX11_distance 4 = .ok (.invokevirtual 379, 3) := by decide +kernel
theorem dX11_distance_7 : decode cX11_distance 7 = .ok (.aload_n 0, 1) := by decide +kernel
theorem dX11_distance_8 : decode cX11_distance 8 = .ok (.getfield 80, 3) := by decide +kernel
theorem dX11_distance_11 : decode cX11_distance 11 = .ok (.aload_n 0, 1) := by decide +kernel
theorem dX11_distance_12 : decode cX11_distance 12 = .ok (.getfield 21, 3) := by decide +kernel
theorem dX11_distance_15 : decode cX11_distance 15 = .ok (.iload_n 1, 1) := by decide +kernel
theorem dX11_distance_16 : decode cX11_distance 16 = .ok (.invokevirtual 364, 3) := by decide +kernel
theorem dX11_distance_19 : decode cX11_distance 19 = .ok (.invokevirtual 382, 3) := by decide +kernel
theorem dX11_distance_22 : decode cX11_distance 22 = .ok (.ireturn, 1) := by decide +kernel
theorem dX11_wouldRemove_0 : decode cX11_wouldRemove 0 = .ok (.aload_n 0, 1) := by decide +kernel
theorem dX11_wouldRemove_1 : decode cX11_wouldRemove 1 = .ok (.getfield 55, 3) := by decide +kernel
theorem dX11_wouldRemove_4 : decode cX11_wouldRemove 4 = .ok (.iload_n 1, 1) := by decide +kernel
theorem dX11_wouldRemove_5 : decode cX11_wouldRemove 5 = .ok (.invokevirtual 385, 3) := by decide +kernel
theorem dX11_wouldRemove_8 : decode cX11_wouldRemove 8 = .ok (.ireturn, 1) := by decide +kernel
theorem dX11_retained_0 : decode cX11_retained 0 = .ok (.aload_n 0, 1) := by decide +kernel
theorem dX11_retained_1 : decode cX11_retained 1 = .ok (.iload_n 1, 1) := by decide +kernel
theorem dX11_retained_2 : decode cX11_retained 2 = .ok (.invokevirtual 171, 3) := by decide +kernel
theorem dX11_retained_5 : decode cX11_retained 5 = .ok (.istore_n 2, 1) := by decide +kernel
theorem dX11_retained_6 : decode cX11_retained 6 = .ok (.aload_n 0, 1) := by decide +kernel
theorem dX11_retained_7 : decode cX11_retained 7 = .ok (.getfield 80, 3) := by decide +kernel
theorem dX11_retained_10 : decode cX11_retained 10 = .ok (.iconst (-1), 1) := by decide +kernel
theorem dX11_retained_11 : decode cX11_retained 11 = .ok (.invokevirtual 388, 3) := by decide +kernel
theorem dX11_retained_14 : decode cX11_retained 14 = .ok (.aload_n 0, 1) := by decide +kernel
theorem dX11_retained_15 : decode cX11_retained 15 = .ok (.getfield 80, 3) := by decide +kernel
theorem dX11_retained_18 : decode cX11_retained 18 = .ok (.iload_n 2, 1) := by decide +kernel
theorem dX11_retained_19 : decode cX11_retained 19 = .ok (.invokevirtual 388, 3) := by decide +kernel
theorem dX11_retained_22 : decode cX11_retained 22 = .ok (.isub, 1) := by decide +kernel
theorem dX11_retained_23 : decode cX11_retained 23 = .ok (.ireturn, 1) := by decide +kernel
theorem dX11_heaviest_0 : decode cX11_heaviest 0 = .ok (.aload_n 0, 1) := by decide +kernel
theorem dX11_heaviest_1 : decode cX11_heaviest 1 = .ok (.getfield 21, 3) := by decide +kernel
theorem dX11_heaviest_4 : decode cX11_heaviest 4 = .ok (.aload_n 0, 1) := by decide +kernel
theorem dX11_heaviest_5 : decode cX11_heaviest 5 = .ok (.getfield 80, 3) := by decide +kernel
theorem dX11_heaviest_8 : decode cX11_heaviest 8 = .ok (.invokevirtual 391, 3) := by decide +kernel
theorem dX11_heaviest_11 : decode cX11_heaviest 11 = .ok (.invokevirtual 141, 3) := by decide +kernel
theorem dX11_heaviest_14 : decode cX11_heaviest 14 = .ok (.ireturn, 1) := by decide +kernel
theorem dX11_onCircle_0 : decode cX11_onCircle 0 = .ok (.aload_n 0, 1) := by decide +kernel
theorem dX11_onCircle_1 : decode cX11_onCircle 1 = .ok (.getfield 80, 3) := by decide +kernel
theorem dX11_onCircle_4 : decode cX11_onCircle 4 = .ok (.aload_n 0, 1) := by decide +kernel
theorem dX11_onCircle_5 : decode cX11_onCircle 5 = .ok (.iload_n 1, 1) := by decide +kernel
theorem dX11_onCircle_6 : decode cX11_onCircle 6 = .ok (.invokevirtual 171, 3) := by decide +kernel
theorem dX11_onCircle_9 : decode cX11_onCircle 9 = .ok (.invokevirtual 394, 3) := by decide +kernel
theorem dX11_onCircle_12 : decode cX11_onCircle 12 = .ok (.ireturn, 1) := by decide +kernel
theorem dX11_referrers_0 : decode cX11_referrers 0 = .ok (.aload_n 0, 1) := by decide +kernel
theorem dX11_referrers_1 : decode cX11_referrers 1 = .ok (.getfield 80, 3) := by decide +kernel
theorem dX11_referrers_4 : decode cX11_referrers 4 = .ok (.aload_n 0, 1) := by decide +kernel
theorem dX11_referrers_5 : decode cX11_referrers 5 = .ok (.iload_n 1, 1) := by decide +kernel
theorem dX11_referrers_6 : decode cX11_referrers 6 = .ok (.invokevirtual 171, 3) := by decide +kernel
theorem dX11_referrers_9 : decode cX11_referrers 9 = .ok (.invokevirtual 397, 3) := by decide +kernel
theorem dX11_referrers_12 : decode cX11_referrers 12 = .ok (.ireturn, 1) := by decide +kernel
theorem dX11_sameShape_0 : decode cX11_sameShape 0 = .ok (.aload_n 0, 1) := by decide +kernel
theorem dX11_sameShape_1 : decode cX11_sameShape 1 = .ok (.iload_n 2, 1) := by decide +kernel
theorem dX11_sameShape_2 : decode cX11_sameShape 2 = .ok (.invokevirtual 125, 3) := by decide +kernel
theorem dX11_sameShape_5 : decode cX11_sameShape 5 = .ok (.aload_n 0, 1) := by decide +kernel
theorem dX11_sameShape_6 : decode cX11_sameShape 6 = .ok (.getfield 80, 3) := by decide +kernel
theorem dX11_sameShape_9 : decode cX11_sameShape 9 = .ok (.aload_n 0, 1) := by decide +kernel
theorem dX11_sameShape_10 : decode cX11_sameShape 10 = .ok (.iload_n 1, 1) := by decide +kernel
theorem dX11_sameShape_11 : decode cX11_sameShape 11 = .ok (.invokevirtual 171, 3) := by decide +kernel
theorem dX11_sameShape_14 : decode cX11_sameShape 14 = .ok (.aload_n 0, 1) := by decide +kernel
theorem dX11_sameShape_15 : decode cX11_sameShape 15 = .ok (.iload_n 2, 1) := by decide +kernel
theorem dX11_sameShape_16 : decode cX11_sameShape 16 = .ok (.invokevirtual 171, 3) := by decide +kernel
theorem dX11_sameShape_19 : decode cX11_sameShape 19 = .ok (.invokevirtual 400, 3) := by decide +kernel
theorem dX11_sameShape_22 : decode cX11_sameShape 22 = .ok (.ireturn, 1) := by decide +kernel
theorem dX11_flaws_0 : decode cX11_flaws 0 = .ok (.aload_n 0, 1) := by decide +kernel
theorem dX11_flaws_1 : decode cX11_flaws 1 = .ok (.getfield 80, 3) := by decide +kernel
theorem dX11_flaws_4 : decode cX11_flaws 4 = .ok (.invokevirtual 403, 3) := by decide +kernel
theorem dX11_flaws_7 : decode cX11_flaws 7 = .ok (.ireturn, 1) := by decide +kernel
theorem dX11_meanWords_0 : decode cX11_meanWords 0 = .ok (.aload_n 0, 1) := by decide +kernel
theorem dX11_meanWords_1 : decode cX11_meanWords 1 = .ok (.getfield 21, 3) := by decide +kernel
theorem dX11_meanWords_4 : decode cX11_meanWords 4 = .ok (.getfield 334, 3) := by decide +kernel
theorem dX11_meanWords_7 : decode cX11_meanWords 7 = .ok (.ifCond .ne 5, 3) := by decide +kernel
theorem dX11_meanWords_10 : decode cX11_meanWords 10 = .ok (.dconst 0, 1) := by decide +kernel
theorem dX11_meanWords_11 : decode cX11_meanWords 11 = .ok (.dreturn, 1) := by decide +kernel
theorem dX11_meanWords_12 : decode cX11_meanWords 12 = .ok (.aload_n 0, 1) := by decide +kernel
theorem dX11_meanWords_13 : decode cX11_meanWords 13 = .ok (.getfield 21, 3) := by decide +kernel
theorem dX11_meanWords_16 : decode cX11_meanWords 16 = .ok (.getfield 338, 3) := by decide +kernel
theorem dX11_meanWords_19 : decode cX11_meanWords 19 = .ok (.aload_n 0, 1) := by decide +kernel
theorem dX11_meanWords_20 : decode cX11_meanWords 20 = .ok (.getfield 21, 3) := by decide +kernel
theorem dX11_meanWords_23 : decode cX11_meanWords 23 = .ok (.getfield 341, 3) := by decide +kernel
theorem dX11_meanWords_26 : decode cX11_meanWords 26 = .ok (.iadd, 1) := by decide +kernel
theorem dX11_meanWords_27 : decode cX11_meanWords 27 = .ok (.i2d, 1) := by decide +kernel
theorem dX11_meanWords_28 : decode cX11_meanWords 28 = .ok (.aload_n 0, 1) := by decide +kernel
theorem dX11_meanWords_29 : decode cX11_meanWords 29 = .ok (.getfield 21, 3) := by decide +kernel
theorem dX11_meanWords_32 : decode cX11_meanWords 32 = .ok (.getfield 334, 3) := by decide +kernel
theorem dX11_meanWords_35 : decode cX11_meanWords 35 = .ok (.i2d, 1) := by decide +kernel
theorem dX11_meanWords_36 : decode cX11_meanWords 36 = .ok (.ddiv, 1) := by decide +kernel
theorem dX11_meanWords_37 : decode cX11_meanWords 37 = .ok (.dreturn, 1) := by decide +kernel
theorem dX11_digest_0 : decode cX11_digest 0 = .ok (.aload_n 0, 1) := by decide +kernel
theorem dX11_digest_1 : decode cX11_digest 1 = .ok (.ldc2_w 406, 3) := by decide +kernel
theorem dX11_digest_4 : decode cX11_digest 4 = .ok (.invokevirtual 408, 3) := by decide +kernel
theorem dX11_digest_7 : decode cX11_digest 7 = .ok (.lstore_n 1, 1) := by decide +kernel
theorem dX11_digest_8 : decode cX11_digest 8 = .ok (.iconst 0, 1) := by decide +kernel
theorem dX11_digest_9 : decode cX11_digest 9 = .ok (.istore_n 3, 1) := by decide +kernel
theorem dX11_digest_10 : decode cX11_digest 10 = .ok (.iload_n 3, 1) := by decide +kernel
theorem dX11_digest_11 : decode cX11_digest 11 = .ok (.aload_n 0, 1) := by decide +kernel
theorem dX11_digest_12 : decode cX11_digest 12 = .ok (.getfield 28, 3) := by decide +kernel
theorem dX11_digest_15 : decode cX11_digest 15 = .ok (.invokevirtual 297, 3) := by decide +kernel
theorem dX11_digest_18 : decode cX11_digest 18 = .ok (.if_icmp .ge 16, 3) := by decide +kernel
theorem dX11_digest_21 : decode cX11_digest 21 = .ok (.aload_n 0, 1) := by decide +kernel
theorem dX11_digest_22 : decode cX11_digest 22 = .ok (.lload_n 1, 1) := by decide +kernel
theorem dX11_digest_23 : decode cX11_digest 23 = .ok (.iload_n 3, 1) := by decide +kernel
theorem dX11_digest_24 : decode cX11_digest 24 = .ok (.invokevirtual 412, 3) := by decide +kernel
theorem dX11_digest_27 : decode cX11_digest 27 = .ok (.lstore_n 1, 1) := by decide +kernel
theorem dX11_digest_28 : decode cX11_digest 28 = .ok (.iinc 3 1, 3) := by decide +kernel
theorem dX11_digest_31 : decode cX11_digest 31 = .ok (.goto (-21), 3) := by decide +kernel
theorem dX11_digest_34 : decode cX11_digest 34 = .ok (.iconst 0, 1) := by decide +kernel
theorem dX11_digest_35 : decode cX11_digest 35 = .ok (.istore_n 3, 1) := by decide +kernel
theorem dX11_digest_36 : decode cX11_digest 36 = .ok (.iload_n 3, 1) := by decide +kernel
theorem dX11_digest_37 : decode cX11_digest 37 = .ok (.bipush 8, 2) := by decide +kernel
theorem dX11_digest_39 : decode cX11_digest 39 = .ok (.if_icmp .ge 20, 3) := by decide +kernel
theorem dX11_digest_42 : decode cX11_digest 42 = .ok (.lload_n 1, 1) := by decide +kernel
theorem dX11_digest_43 : decode cX11_digest 43 = .ok (.aload_n 0, 1) := by decide +kernel
theorem dX11_digest_44 : decode cX11_digest 44 = .ok (.iload_n 3, 1) := by decide +kernel
theorem dX11_digest_45 : decode cX11_digest 45 = .ok (.invokevirtual 416, 3) := by decide +kernel
theorem dX11_digest_48 : decode cX11_digest 48 = .ok (.i2l, 1) := by decide +kernel
theorem dX11_digest_49 : decode cX11_digest 49 = .ok (.invokestatic 419, 3) := by decide +kernel
theorem dX11_digest_52 : decode cX11_digest 52 = .ok (.lstore_n 1, 1) := by decide +kernel
theorem dX11_digest_53 : decode cX11_digest 53 = .ok (.iinc 3 1, 3) := by decide +kernel
theorem dX11_digest_56 : decode cX11_digest 56 = .ok (.goto (-20), 3) := by decide +kernel
theorem dX11_digest_59 : decode cX11_digest 59 = .ok (.aload_n 0, 1) := by decide +kernel
theorem dX11_digest_60 : decode cX11_digest 60 = .ok (.lload_n 1, 1) := by decide +kernel
theorem dX11_digest_61 : decode cX11_digest 61 = .ok (.invokevirtual 423, 3) := by decide +kernel
theorem dX11_digest_64 : decode cX11_digest 64 = .ok (.lstore_n 1, 1) := by decide +kernel
theorem dX11_digest_65 : decode cX11_digest 65 = .ok (.lload_n 1, 1) := by decide +kernel
theorem dX11_digest_66 : decode cX11_digest 66 = .ok (.aload_n 0, 1) := by decide +kernel
theorem dX11_digest_67 : decode cX11_digest 67 = .ok (.getfield 73, 3) := by decide +kernel
theorem dX11_digest_70 : decode cX11_digest 70 = .ok (.getfield 361, 3) := by decide +kernel
theorem dX11_digest_73 : decode cX11_digest 73 = .ok (.i2l, 1) := by decide +kernel
theorem dX11_digest_74 : decode cX11_digest 74 = .ok (.invokestatic 419, 3) := by decide +kernel
theorem dX11_digest_77 : decode cX11_digest 77 = .ok (.lstore_n 1, 1) := by decide +kernel
theorem dX11_digest_78 : decode cX11_digest 78 = .ok (.iconst 0, 1) := by decide +kernel
theorem dX11_digest_79 : decode cX11_digest 79 = .ok (.istore_n 3, 1) := by decide +kernel
theorem dX11_digest_80 : decode cX11_digest 80 = .ok (.iload_n 3, 1) := by decide +kernel
theorem dX11_digest_81 : decode cX11_digest 81 = .ok (.aload_n 0, 1) := by decide +kernel
theorem dX11_digest_82 : decode cX11_digest 82 = .ok (.getfield 73, 3) := by decide +kernel
theorem dX11_digest_85 : decode cX11_digest 85 = .ok (.getfield 361, 3) := by decide +kernel
theorem dX11_digest_88 : decode cX11_digest 88 = .ok (.if_icmp .ge 24, 3) := by decide +kernel
theorem dX11_digest_91 : decode cX11_digest 91 = .ok (.lload_n 1, 1) := by decide +kernel
theorem dX11_digest_92 : decode cX11_digest 92 = .ok (.aload_n 0, 1) := by decide +kernel
theorem dX11_digest_93 : decode cX11_digest 93 = .ok (.getfield 73, 3) := by decide +kernel
theorem dX11_digest_96 : decode cX11_digest 96 = .ok (.getfield 258, 3) := by decide +kernel
theorem dX11_digest_99 : decode cX11_digest 99 = .ok (.iload_n 3, 1) := by decide +kernel
theorem dX11_digest_100 : decode cX11_digest 100 = .ok (.iaload, 1) := by decide +kernel
theorem dX11_digest_101 : decode cX11_digest 101 = .ok (.i2l, 1) := by decide +kernel
theorem dX11_digest_102 : decode cX11_digest 102 = .ok (.invokestatic 419, 3) := by decide +kernel
theorem dX11_digest_105 : decode cX11_digest 105 = .ok (.lstore_n 1, 1) := by decide +kernel
theorem dX11_digest_106 : decode cX11_digest 106 = .ok (.iinc 3 1, 3) := by decide +kernel
theorem dX11_digest_109 : decode cX11_digest 109 = .ok (.goto (-29), 3) := by decide +kernel
theorem dX11_digest_112 : decode cX11_digest 112 = .ok (.lload_n 1, 1) := by decide +kernel
theorem dX11_digest_113 : decode cX11_digest 113 = .ok (.lreturn, 1) := by decide +kernel
theorem dX11_mixMemory_0 : decode cX11_mixMemory 0 = .ok (.lload_n 1, 1) := by decide +kernel
theorem dX11_mixMemory_1 : decode cX11_mixMemory 1 = .ok (.aload_n 0, 1) := by decide +kernel
theorem dX11_mixMemory_2 : decode cX11_mixMemory 2 = .ok (.invokevirtual 426, 3) := by decide +kernel
theorem dX11_mixMemory_5 : decode cX11_mixMemory 5 = .ok (.i2l, 1) := by decide +kernel
theorem dX11_mixMemory_6 : decode cX11_mixMemory 6 = .ok (.invokestatic 419, 3) := by decide +kernel
theorem dX11_mixMemory_9 : decode cX11_mixMemory 9 = .ok (.lstore_n 3, 1) := by decide +kernel
theorem dX11_mixMemory_10 : decode cX11_mixMemory 10 = .ok (.lload_n 3, 1) := by decide +kernel
theorem dX11_mixMemory_11 : decode cX11_mixMemory 11 = .ok (.aload_n 0, 1) := by decide +kernel
theorem dX11_mixMemory_12 : decode cX11_mixMemory 12 = .ok (.invokevirtual 429, 3) := by decide +kernel
theorem dX11_mixMemory_15 : decode cX11_mixMemory 15 = .ok (.i2l, 1) := by decide +kernel
theorem dX11_mixMemory_16 : decode cX11_mixMemory 16 = .ok (.invokestatic 419, 3) := by decide +kernel
theorem dX11_mixMemory_19 : decode cX11_mixMemory 19 = .ok (.lstore_n 3, 1) := by decide +kernel
theorem dX11_mixMemory_20 : decode cX11_mixMemory 20 = .ok (.lload_n 3, 1) := by decide +kernel
theorem dX11_mixMemory_21 : decode cX11_mixMemory 21 = .ok (.aload_n 0, 1) := by decide +kernel
theorem dX11_mixMemory_22 : decode cX11_mixMemory 22 = .ok (.invokevirtual 432, 3) := by decide +kernel
theorem dX11_mixMemory_25 : decode cX11_mixMemory 25 = .ok (.i2l, 1) := by decide +kernel
theorem dX11_mixMemory_26 : decode cX11_mixMemory 26 = .ok (.invokestatic 419, 3) := by decide +kernel
theorem dX11_mixMemory_29 : decode cX11_mixMemory 29 = .ok (.lstore_n 3, 1) := by decide +kernel
theorem dX11_mixMemory_30 : decode cX11_mixMemory 30 = .ok (.lload_n 3, 1) := by decide +kernel
theorem dX11_mixMemory_31 : decode cX11_mixMemory 31 = .ok (.aload_n 0, 1) := by decide +kernel
theorem dX11_mixMemory_32 : decode cX11_mixMemory 32 = .ok (.invokevirtual 434, 3) := by decide +kernel
theorem dX11_mixMemory_35 : decode cX11_mixMemory 35 = .ok (.i2l, 1) := by decide +kernel
theorem dX11_mixMemory_36 : decode cX11_mixMemory 36 = .ok (.invokestatic 419, 3) := by decide +kernel
theorem dX11_mixMemory_39 : decode cX11_mixMemory 39 = .ok (.lstore_n 3, 1) := by decide +kernel
theorem dX11_mixMemory_40 : decode cX11_mixMemory 40 = .ok (.lload_n 3, 1) := by decide +kernel
theorem dX11_mixMemory_41 : decode cX11_mixMemory 41 = .ok (.aload_n 0, 1) := by decide +kernel
theorem dX11_mixMemory_42 : decode cX11_mixMemory 42 = .ok (.invokevirtual 437, 3) := by decide +kernel
theorem dX11_mixMemory_45 : decode cX11_mixMemory 45 = .ok (.i2l, 1) := by decide +kernel
theorem dX11_mixMemory_46 : decode cX11_mixMemory 46 = .ok (.invokestatic 419, 3) := by decide +kernel
theorem dX11_mixMemory_49 : decode cX11_mixMemory 49 = .ok (.lstore_n 3, 1) := by decide +kernel
theorem dX11_mixMemory_50 : decode cX11_mixMemory 50 = .ok (.lload_n 3, 1) := by decide +kernel
theorem dX11_mixMemory_51 : decode cX11_mixMemory 51 = .ok (.aload_n 0, 1) := by decide +kernel
theorem dX11_mixMemory_52 : decode cX11_mixMemory 52 = .ok (.invokevirtual 440, 3) := by decide +kernel
theorem dX11_mixMemory_55 : decode cX11_mixMemory 55 = .ok (.i2l, 1) := by decide +kernel
theorem dX11_mixMemory_56 : decode cX11_mixMemory 56 = .ok (.invokestatic 419, 3) := by decide +kernel
theorem dX11_mixMemory_59 : decode cX11_mixMemory 59 = .ok (.lstore_n 3, 1) := by decide +kernel
theorem dX11_mixMemory_60 : decode cX11_mixMemory 60 = .ok (.lload_n 3, 1) := by decide +kernel
theorem dX11_mixMemory_61 : decode cX11_mixMemory 61 = .ok (.aload_n 0, 1) := by decide +kernel
theorem dX11_mixMemory_62 : decode cX11_mixMemory 62 = .ok (.invokevirtual 442, 3) := by decide +kernel
theorem dX11_mixMemory_65 : decode cX11_mixMemory 65 = .ok (.i2l, 1) := by decide +kernel
theorem dX11_mixMemory_66 : decode cX11_mixMemory 66 = .ok (.invokestatic 419, 3) := by decide +kernel
theorem dX11_mixMemory_69 : decode cX11_mixMemory 69 = .ok (.lstore_n 3, 1) := by decide +kernel
theorem dX11_mixMemory_70 : decode cX11_mixMemory 70 = .ok (.lload_n 3, 1) := by decide +kernel
theorem dX11_mixMemory_71 : decode cX11_mixMemory 71 = .ok (.aload_n 0, 1) := by decide +kernel
theorem dX11_mixMemory_72 : decode cX11_mixMemory 72 = .ok (.invokevirtual 444, 3) := by decide +kernel
theorem dX11_mixMemory_75 : decode cX11_mixMemory 75 = .ok (.i2l, 1) := by decide +kernel
theorem dX11_mixMemory_76 : decode cX11_mixMemory 76 = .ok (.invokestatic 419, 3) := by decide +kernel
theorem dX11_mixMemory_79 : decode cX11_mixMemory 79 = .ok (.lstore_n 3, 1) := by decide +kernel
theorem dX11_mixMemory_80 : decode cX11_mixMemory 80 = .ok (.lload_n 3, 1) := by decide +kernel
theorem dX11_mixMemory_81 : decode cX11_mixMemory 81 = .ok (.aload_n 0, 1) := by decide +kernel
theorem dX11_mixMemory_82 : decode cX11_mixMemory 82 = .ok (.invokevirtual 446, 3) := by decide +kernel
theorem dX11_mixMemory_85 : decode cX11_mixMemory 85 = .ok (.i2l, 1) := by decide +kernel
theorem dX11_mixMemory_86 : decode cX11_mixMemory 86 = .ok (.invokestatic 419, 3) := by decide +kernel
theorem dX11_mixMemory_89 : decode cX11_mixMemory 89 = .ok (.lstore_n 3, 1) := by decide +kernel
theorem dX11_mixMemory_90 : decode cX11_mixMemory 90 = .ok (.lload_n 3, 1) := by decide +kernel
theorem dX11_mixMemory_91 : decode cX11_mixMemory 91 = .ok (.aload_n 0, 1) := by decide +kernel
theorem dX11_mixMemory_92 : decode cX11_mixMemory 92 = .ok (.invokevirtual 449, 3) := by decide +kernel
theorem dX11_mixMemory_95 : decode cX11_mixMemory 95 = .ok (.i2l, 1) := by decide +kernel
theorem dX11_mixMemory_96 : decode cX11_mixMemory 96 = .ok (.invokestatic 419, 3) := by decide +kernel
theorem dX11_mixMemory_99 : decode cX11_mixMemory 99 = .ok (.lstore_n 3, 1) := by decide +kernel
theorem dX11_mixMemory_100 : decode cX11_mixMemory 100 = .ok (.lload_n 3, 1) := by decide +kernel
theorem dX11_mixMemory_101 : decode cX11_mixMemory 101 = .ok (.aload_n 0, 1) := by decide +kernel
theorem dX11_mixMemory_102 : decode cX11_mixMemory 102 = .ok (.invokevirtual 452, 3) := by decide +kernel
theorem dX11_mixMemory_105 : decode cX11_mixMemory 105 = .ok (.i2l, 1) := by decide +kernel
theorem dX11_mixMemory_106 : decode cX11_mixMemory 106 = .ok (.invokestatic 419, 3) := by decide +kernel
theorem dX11_mixMemory_109 : decode cX11_mixMemory 109 = .ok (.lstore_n 3, 1) := by decide +kernel
theorem dX11_mixMemory_110 : decode cX11_mixMemory 110 = .ok (.lload_n 3, 1) := by decide +kernel
theorem dX11_mixMemory_111 : decode cX11_mixMemory 111 = .ok (.aload_n 0, 1) := by decide +kernel
theorem dX11_mixMemory_112 : decode cX11_mixMemory 112 = .ok (.invokevirtual 454, 3) := by decide +kernel
theorem dX11_mixMemory_115 : decode cX11_mixMemory 115 = .ok (.i2l, 1) := by decide +kernel
theorem dX11_mixMemory_116 : decode cX11_mixMemory 116 = .ok (.invokestatic 419, 3) := by decide +kernel
theorem dX11_mixMemory_119 : decode cX11_mixMemory 119 = .ok (.lstore_n 3, 1) := by decide +kernel
theorem dX11_mixMemory_120 : decode cX11_mixMemory 120 = .ok (.lload_n 3, 1) := by decide +kernel
theorem dX11_mixMemory_121 : decode cX11_mixMemory 121 = .ok (.aload_n 0, 1) := by decide +kernel
theorem dX11_mixMemory_122 : decode cX11_mixMemory 122 = .ok (.invokevirtual 457, 3) := by decide +kernel
theorem dX11_mixMemory_125 : decode cX11_mixMemory 125 = .ok (.i2l, 1) := by decide +kernel
theorem dX11_mixMemory_126 : decode cX11_mixMemory 126 = .ok (.invokestatic 419, 3) := by decide +kernel
theorem dX11_mixMemory_129 : decode cX11_mixMemory 129 = .ok (.lstore_n 3, 1) := by decide +kernel
theorem dX11_mixMemory_130 : decode cX11_mixMemory 130 = .ok (.lload_n 3, 1) := by decide +kernel
theorem dX11_mixMemory_131 : decode cX11_mixMemory 131 = .ok (.aload_n 0, 1) := by decide +kernel
theorem dX11_mixMemory_132 : decode cX11_mixMemory 132 = .ok (.invokevirtual 460, 3) := by decide +kernel
theorem dX11_mixMemory_135 : decode cX11_mixMemory 135 = .ok (.ifCond .eq 7, 3) := by decide +kernel
theorem dX11_mixMemory_138 : decode cX11_mixMemory 138 = .ok (.lconst 1, 1) := by decide +kernel
theorem dX11_mixMemory_139 : decode cX11_mixMemory 139 = .ok (.goto 4, 3) := by decide +kernel
theorem dX11_mixMemory_142 : decode cX11_mixMemory 142 = .ok (.lconst 0, 1) := by decide +kernel
theorem dX11_mixMemory_143 : decode cX11_mixMemory 143 = .ok (.invokestatic 419, 3) := by decide +kernel
theorem dX11_mixMemory_146 : decode cX11_mixMemory 146 = .ok (.lstore_n 3, 1) := by decide +kernel
theorem dX11_mixMemory_147 : decode cX11_mixMemory 147 = .ok (.lload_n 3, 1) := by decide +kernel
theorem dX11_mixMemory_148 : decode cX11_mixMemory 148 = .ok (.aload_n 0, 1) := by decide +kernel
theorem dX11_mixMemory_149 : decode cX11_mixMemory 149 = .ok (.invokevirtual 463, 3) := by decide +kernel
theorem dX11_mixMemory_152 : decode cX11_mixMemory 152 = .ok (.i2l, 1) := by decide +kernel
theorem dX11_mixMemory_153 : decode cX11_mixMemory 153 = .ok (.invokestatic 419, 3) := by decide +kernel
theorem dX11_mixMemory_156 : decode cX11_mixMemory 156 = .ok (.lstore_n 3, 1) := by decide +kernel
theorem dX11_mixMemory_157 : decode cX11_mixMemory 157 = .ok (.lload_n 3, 1) := by decide +kernel
theorem dX11_mixMemory_158 : decode cX11_mixMemory 158 = .ok (.aload_n 0, 1) := by decide +kernel
theorem dX11_mixMemory_159 : decode cX11_mixMemory 159 = .ok (.iconst 0, 1) := by decide +kernel
theorem dX11_mixMemory_160 : decode cX11_mixMemory 160 = .ok (.invokevirtual 465, 3) := by decide +kernel
theorem dX11_mixMemory_163 : decode cX11_mixMemory 163 = .ok (.i2l, 1) := by decide +kernel
theorem dX11_mixMemory_164 : decode cX11_mixMemory 164 = .ok (.invokestatic 419, 3) := by decide +kernel
theorem dX11_mixMemory_167 : decode cX11_mixMemory 167 = .ok (.lstore_n 3, 1) := by decide +kernel
theorem dX11_mixMemory_168 : decode cX11_mixMemory 168 = .ok (.lload_n 3, 1) := by decide +kernel
theorem dX11_mixMemory_169 : decode cX11_mixMemory 169 = .ok (.aload_n 0, 1) := by decide +kernel
theorem dX11_mixMemory_170 : decode cX11_mixMemory 170 = .ok (.iconst 1, 1) := by decide +kernel
theorem dX11_mixMemory_171 : decode cX11_mixMemory 171 = .ok (.invokevirtual 465, 3) := by decide +kernel
theorem dX11_mixMemory_174 : decode cX11_mixMemory 174 = .ok (.i2l, 1) := by decide +kernel
theorem dX11_mixMemory_175 : decode cX11_mixMemory 175 = .ok (.invokestatic 419, 3) := by decide +kernel
theorem dX11_mixMemory_178 : decode cX11_mixMemory 178 = .ok (.lreturn, 1) := by decide +kernel
theorem dX11_mixSlot_0 : decode cX11_mixSlot 0 = .ok (.lload_n 1, 1) := by decide +kernel
theorem dX11_mixSlot_1 : decode cX11_mixSlot 1 = .ok (.aload_n 0, 1) := by decide +kernel
theorem dX11_mixSlot_2 : decode cX11_mixSlot 2 = .ok (.iload_n 3, 1) := by decide +kernel
theorem dX11_mixSlot_3 : decode cX11_mixSlot 3 = .ok (.invokevirtual 468, 3) := by decide +kernel
theorem dX11_mixSlot_6 : decode cX11_mixSlot 6 = .ok (.i2l, 1) := by decide +kernel
theorem dX11_mixSlot_7 : decode cX11_mixSlot 7 = .ok (.invokestatic 419, 3) := by decide +kernel
theorem dX11_mixSlot_10 : decode cX11_mixSlot 10 = .ok (.lstore 4, 2) := by decide +kernel
theorem dX11_mixSlot_12 : decode cX11_mixSlot 12 = .ok (.lload 4, 2) := by decide +kernel
theorem dX11_mixSlot_14 : decode cX11_mixSlot 14 = .ok (.aload_n 0, 1) := by decide +kernel
theorem dX11_mixSlot_15 : decode cX11_mixSlot 15 = .ok (.iload_n 3, 1) := by decide +kernel
theorem dX11_mixSlot_16 : decode cX11_mixSlot 16 = .ok (.invokevirtual 227, 3) := by decide +kernel
theorem dX11_mixSlot_19 : decode cX11_mixSlot 19 = .ok (.i2l, 1) := by decide +kernel
theorem dX11_mixSlot_20 : decode cX11_mixSlot 20 = .ok (.invokestatic 419, 3) := by decide +kernel
theorem dX11_mixSlot_23 : decode cX11_mixSlot 23 = .ok (.lstore 4, 2) := by decide +kernel
theorem dX11_mixSlot_25 : decode cX11_mixSlot 25 = .ok (.lload 4, 2) := by decide +kernel
theorem dX11_mixSlot_27 : decode cX11_mixSlot 27 = .ok (.aload_n 0, 1) := by decide +kernel
theorem dX11_mixSlot_28 : decode cX11_mixSlot 28 = .ok (.iload_n 3, 1) := by decide +kernel
theorem dX11_mixSlot_29 : decode cX11_mixSlot 29 = .ok (.invokevirtual 471, 3) := by decide +kernel
theorem dX11_mixSlot_32 : decode cX11_mixSlot 32 = .ok (.i2l, 1) := by decide +kernel
theorem dX11_mixSlot_33 : decode cX11_mixSlot 33 = .ok (.invokestatic 419, 3) := by decide +kernel
theorem dX11_mixSlot_36 : decode cX11_mixSlot 36 = .ok (.lstore 4, 2) := by decide +kernel
theorem dX11_mixSlot_38 : decode cX11_mixSlot 38 = .ok (.lload 4, 2) := by decide +kernel
theorem dX11_mixSlot_40 : decode cX11_mixSlot 40 = .ok (.aload_n 0, 1) := by decide +kernel
theorem dX11_mixSlot_41 : decode cX11_mixSlot 41 = .ok (.iload_n 3, 1) := by decide +kernel
theorem dX11_mixSlot_42 : decode cX11_mixSlot 42 = .ok (.invokevirtual 474, 3) := by decide +kernel
theorem dX11_mixSlot_45 : decode cX11_mixSlot 45 = .ok (.i2l, 1) := by decide +kernel
theorem dX11_mixSlot_46 : decode cX11_mixSlot 46 = .ok (.invokestatic 419, 3) := by decide +kernel
theorem dX11_mixSlot_49 : decode cX11_mixSlot 49 = .ok (.lstore 4, 2) := by decide +kernel
theorem dX11_mixSlot_51 : decode cX11_mixSlot 51 = .ok (.lload 4, 2) := by decide +kernel
theorem dX11_mixSlot_53 : decode cX11_mixSlot 53 = .ok (.aload_n 0, 1) := by decide +kernel
theorem dX11_mixSlot_54 : decode cX11_mixSlot 54 = .ok (.iload_n 3, 1) := by decide +kernel
theorem dX11_mixSlot_55 : decode cX11_mixSlot 55 = .ok (.invokevirtual 477, 3) := by decide +kernel
theorem dX11_mixSlot_58 : decode cX11_mixSlot 58 = .ok (.i2l, 1) := by decide +kernel
theorem dX11_mixSlot_59 : decode cX11_mixSlot 59 = .ok (.invokestatic 419, 3) := by decide +kernel
theorem dX11_mixSlot_62 : decode cX11_mixSlot 62 = .ok (.lstore 4, 2) := by decide +kernel
theorem dX11_mixSlot_64 : decode cX11_mixSlot 64 = .ok (.lload 4, 2) := by decide +kernel
theorem dX11_mixSlot_66 : decode cX11_mixSlot 66 = .ok (.aload_n 0, 1) := by decide +kernel
theorem dX11_mixSlot_67 : decode cX11_mixSlot 67 = .ok (.iload_n 3, 1) := by decide +kernel
theorem dX11_mixSlot_68 : decode cX11_mixSlot 68 = .ok (.invokevirtual 480, 3) := by decide +kernel
theorem dX11_mixSlot_71 : decode cX11_mixSlot 71 = .ok (.i2l, 1) := by decide +kernel
theorem dX11_mixSlot_72 : decode cX11_mixSlot 72 = .ok (.invokestatic 419, 3) := by decide +kernel
theorem dX11_mixSlot_75 : decode cX11_mixSlot 75 = .ok (.lstore 4, 2) := by decide +kernel
theorem dX11_mixSlot_77 : decode cX11_mixSlot 77 = .ok (.lload 4, 2) := by decide +kernel
theorem dX11_mixSlot_79 : decode cX11_mixSlot 79 = .ok (.aload_n 0, 1) := by decide +kernel
theorem dX11_mixSlot_80 : decode cX11_mixSlot 80 = .ok (.iload_n 3, 1) := by decide +kernel
theorem dX11_mixSlot_81 : decode cX11_mixSlot 81 = .ok (.invokevirtual 483, 3) := by decide +kernel
theorem dX11_mixSlot_84 : decode cX11_mixSlot 84 = .ok (.ifCond .eq 7, 3) := by decide +kernel
theorem dX11_mixSlot_87 : decode cX11_mixSlot 87 = .ok (.lconst 1, 1) := by decide +kernel
theorem dX11_mixSlot_88 : decode cX11_mixSlot 88 = .ok (.goto 4, 3) := by decide +kernel
theorem dX11_mixSlot_91 : decode cX11_mixSlot 91 = .ok (.lconst 0, 1) := by decide +kernel
theorem dX11_mixSlot_92 : decode cX11_mixSlot 92 = .ok (.invokestatic 419, 3) := by decide +kernel
theorem dX11_mixSlot_95 : decode cX11_mixSlot 95 = .ok (.lstore 4, 2) := by decide +kernel
theorem dX11_mixSlot_97 : decode cX11_mixSlot 97 = .ok (.lload 4, 2) := by decide +kernel
theorem dX11_mixSlot_99 : decode cX11_mixSlot 99 = .ok (.aload_n 0, 1) := by decide +kernel
theorem dX11_mixSlot_100 : decode cX11_mixSlot 100 = .ok (.iload_n 3, 1) := by decide +kernel
theorem dX11_mixSlot_101 : decode cX11_mixSlot 101 = .ok (.invokevirtual 486, 3) := by decide +kernel
theorem dX11_mixSlot_104 : decode cX11_mixSlot 104 = .ok (.ifCond .eq 7, 3) := by decide +kernel
theorem dX11_mixSlot_107 : decode cX11_mixSlot 107 = .ok (.lconst 1, 1) := by decide +kernel
theorem dX11_mixSlot_108 : decode cX11_mixSlot 108 = .ok (.goto 4, 3) := by decide +kernel
theorem dX11_mixSlot_111 : decode cX11_mixSlot 111 = .ok (.lconst 0, 1) := by decide +kernel
theorem dX11_mixSlot_112 : decode cX11_mixSlot 112 = .ok (.invokestatic 419, 3) := by decide +kernel
theorem dX11_mixSlot_115 : decode cX11_mixSlot 115 = .ok (.lstore 4, 2) := by decide +kernel
theorem dX11_mixSlot_117 : decode cX11_mixSlot 117 = .ok (.lload 4, 2) := by decide +kernel
theorem dX11_mixSlot_119 : decode cX11_mixSlot 119 = .ok (.aload_n 0, 1) := by decide +kernel
theorem dX11_mixSlot_120 : decode cX11_mixSlot 120 = .ok (.iload_n 3, 1) := by decide +kernel
theorem dX11_mixSlot_121 : decode cX11_mixSlot 121 = .ok (.invokevirtual 190, 3) := by decide +kernel
theorem dX11_mixSlot_124 : decode cX11_mixSlot 124 = .ok (.ifCond .eq 7, 3) := by decide +kernel
theorem dX11_mixSlot_127 : decode cX11_mixSlot 127 = .ok (.lconst 1, 1) := by decide +kernel
theorem dX11_mixSlot_128 : decode cX11_mixSlot 128 = .ok (.goto 4, 3) := by decide +kernel
theorem dX11_mixSlot_131 : decode cX11_mixSlot 131 = .ok (.lconst 0, 1) := by decide +kernel
theorem dX11_mixSlot_132 : decode cX11_mixSlot 132 = .ok (.invokestatic 419, 3) := by decide +kernel
theorem dX11_mixSlot_135 : decode cX11_mixSlot 135 = .ok (.lstore 4, 2) := by decide +kernel
theorem dX11_mixSlot_137 : decode cX11_mixSlot 137 = .ok (.lload 4, 2) := by decide +kernel
theorem dX11_mixSlot_139 : decode cX11_mixSlot 139 = .ok (.aload_n 0, 1) := by decide +kernel
theorem dX11_mixSlot_140 : decode cX11_mixSlot 140 = .ok (.iload_n 3, 1) := by decide +kernel
theorem dX11_mixSlot_141 : decode cX11_mixSlot 141 = .ok (.invokevirtual 489, 3) := by decide +kernel
theorem dX11_mixSlot_144 : decode cX11_mixSlot 144 = .ok (.ifCond .eq 7, 3) := by decide +kernel
theorem dX11_mixSlot_147 : decode cX11_mixSlot 147 = .ok (.lconst 1, 1) := by decide +kernel
theorem dX11_mixSlot_148 : decode cX11_mixSlot 148 = .ok (.goto 4, 3) := by decide +kernel
theorem dX11_mixSlot_151 : decode cX11_mixSlot 151 = .ok (.lconst 0, 1) := by decide +kernel
theorem dX11_mixSlot_152 : decode cX11_mixSlot 152 = .ok (.invokestatic 419, 3) := by decide +kernel
theorem dX11_mixSlot_155 : decode cX11_mixSlot 155 = .ok (.lstore 4, 2) := by decide +kernel
theorem dX11_mixSlot_157 : decode cX11_mixSlot 157 = .ok (.lload 4, 2) := by decide +kernel
theorem dX11_mixSlot_159 : decode cX11_mixSlot 159 = .ok (.aload_n 0, 1) := by decide +kernel
theorem dX11_mixSlot_160 : decode cX11_mixSlot 160 = .ok (.iload_n 3, 1) := by decide +kernel
theorem dX11_mixSlot_161 : decode cX11_mixSlot 161 = .ok (.invokevirtual 492, 3) := by decide +kernel
theorem dX11_mixSlot_164 : decode cX11_mixSlot 164 = .ok (.i2l, 1) := by decide +kernel
theorem dX11_mixSlot_165 : decode cX11_mixSlot 165 = .ok (.invokestatic 419, 3) := by decide +kernel
theorem dX11_mixSlot_168 : decode cX11_mixSlot 168 = .ok (.lreturn, 1) := by decide +kernel
theorem dX11_mixObjects_0 : decode cX11_mixObjects 0 = .ok (.aload_n 0, 1) := by decide +kernel
theorem dX11_mixObjects_1 : decode cX11_mixObjects 1 = .ok (.getfield 80, 3) := by decide +kernel
theorem dX11_mixObjects_4 : decode cX11_mixObjects 4 = .ok (.iconst (-1), 1) := by decide +kernel
theorem dX11_mixObjects_5 : decode cX11_mixObjects 5 = .ok (.invokevirtual 367, 3) := by decide +kernel
theorem dX11_mixObjects_8 : decode cX11_mixObjects 8 = .ok (.aload_n 0, 1) := by decide +kernel
theorem dX11_mixObjects_9 : decode cX11_mixObjects 9 = .ok (.getfield 80, 3) := by decide +kernel
theorem dX11_mixObjects_12 : decode cX11_mixObjects 12 = .ok (.invokevirtual 379, 3) := by decide +kernel
theorem dX11_mixObjects_15 : decode cX11_mixObjects 15 = .ok (.lload_n 1, 1) := by decide +kernel
theorem dX11_mixObjects_16 : decode cX11_mixObjects 16 = .ok (.lstore_n 3, 1) := by decide +kernel
theorem dX11_mixObjects_17 : decode cX11_mixObjects 17 = .ok (.iconst 0, 1) := by decide +kernel
theorem dX11_mixObjects_18 : decode cX11_mixObjects 18 = .ok (.istore 5, 2) := by decide +kernel
theorem dX11_mixObjects_20 : decode cX11_mixObjects 20 = .ok (.iload 5, 2) := by decide +kernel
theorem dX11_mixObjects_22 : decode cX11_mixObjects 22 = .ok (.aload_n 0, 1) := by decide +kernel
theorem dX11_mixObjects_23 : decode cX11_mixObjects 23 = .ok (.getfield 21, 3) := by decide +kernel
theorem dX11_mixObjects_26 : decode cX11_mixObjects 26 = .ok (.getfield 334, 3) := by decide +kernel
theorem dX11_mixObjects_29 : decode cX11_mixObjects 29 = .ok (.if_icmp .ge 77, 3) := by decide +kernel
theorem dX11_mixObjects_32 : decode cX11_mixObjects 32 = .ok (.aload_n 0, 1) := by decide +kernel
theorem dX11_mixObjects_33 : decode cX11_mixObjects 33 = .ok (.getfield 21, 3) := by decide +kernel
theorem dX11_mixObjects_36 : decode cX11_mixObjects 36 = .ok (.getfield 495, 3) := by decide +kernel
theorem dX11_mixObjects_39 : decode cX11_mixObjects 39 = .ok (.iload 5, 2) := by decide +kernel
theorem dX11_mixObjects_41 : decode cX11_mixObjects 41 = .ok (.iaload, 1) := by decide +kernel
theorem dX11_mixObjects_42 : decode cX11_mixObjects 42 = .ok (.istore 6, 2) := by decide +kernel
theorem dX11_mixObjects_44 : decode cX11_mixObjects 44 = .ok (.lload_n 3, 1) := by decide +kernel
theorem dX11_mixObjects_45 : decode cX11_mixObjects 45 = .ok (.aload_n 0, 1) := by decide +kernel
theorem dX11_mixObjects_46 : decode cX11_mixObjects 46 = .ok (.getfield 21, 3) := by decide +kernel
theorem dX11_mixObjects_49 : decode cX11_mixObjects 49 = .ok (.getfield 498, 3) := by decide +kernel
theorem dX11_mixObjects_52 : decode cX11_mixObjects 52 = .ok (.iload 6, 2) := by decide +kernel
theorem dX11_mixObjects_54 : decode cX11_mixObjects 54 = .ok (.iaload, 1) := by decide +kernel
theorem dX11_mixObjects_55 : decode cX11_mixObjects 55 = .ok (.i2l, 1) := by decide +kernel
theorem dX11_mixObjects_56 : decode cX11_mixObjects 56 = .ok (.invokestatic 419, 3) := by decide +kernel
theorem dX11_mixObjects_59 : decode cX11_mixObjects 59 = .ok (.lstore_n 3, 1) := by decide +kernel
theorem dX11_mixObjects_60 : decode cX11_mixObjects 60 = .ok (.lload_n 3, 1) := by decide +kernel
theorem dX11_mixObjects_61 : decode cX11_mixObjects 61 = .ok (.aload_n 0, 1) := by decide +kernel
theorem dX11_mixObjects_62 : decode cX11_mixObjects 62 = .ok (.getfield 80, 3) := by decide +kernel
theorem dX11_mixObjects_65 : decode cX11_mixObjects 65 = .ok (.getfield 370, 3) := by decide +kernel
theorem dX11_mixObjects_68 : decode cX11_mixObjects 68 = .ok (.iload 6, 2) := by decide +kernel
theorem dX11_mixObjects_70 : decode cX11_mixObjects 70 = .ok (.invokevirtual 374, 3) := by decide +kernel
theorem dX11_mixObjects_73 : decode cX11_mixObjects 73 = .ok (.ifCond .eq 7, 3) := by decide +kernel
theorem dX11_mixObjects_76 : decode cX11_mixObjects 76 = .ok (.lconst 1, 1) := by decide +kernel
theorem dX11_mixObjects_77 : decode cX11_mixObjects 77 = .ok (.goto 4, 3) := by decide +kernel
theorem dX11_mixObjects_80 : decode cX11_mixObjects 80 = .ok (.lconst 0, 1) := by decide +kernel
theorem dX11_mixObjects_81 : decode cX11_mixObjects 81 = .ok (.invokestatic 419, 3) := by decide +kernel
theorem dX11_mixObjects_84 : decode cX11_mixObjects 84 = .ok (.lstore_n 3, 1) := by decide +kernel
theorem dX11_mixObjects_85 : decode cX11_mixObjects 85 = .ok (.lload_n 3, 1) := by decide +kernel
theorem dX11_mixObjects_86 : decode cX11_mixObjects 86 = .ok (.aload_n 0, 1) := by decide +kernel
theorem dX11_mixObjects_87 : decode cX11_mixObjects 87 = .ok (.getfield 80, 3) := by decide +kernel
theorem dX11_mixObjects_90 : decode cX11_mixObjects 90 = .ok (.iload 6, 2) := by decide +kernel
theorem dX11_mixObjects_92 : decode cX11_mixObjects 92 = .ok (.invokevirtual 382, 3) := by decide +kernel
theorem dX11_mixObjects_95 : decode cX11_mixObjects 95 = .ok (.i2l, 1) := by decide +kernel
theorem dX11_mixObjects_96 : decode cX11_mixObjects 96 = .ok (.invokestatic 419, 3) := by decide +kernel
theorem dX11_mixObjects_99 : decode cX11_mixObjects 99 = .ok (.lstore_n 3, 1) := by decide +kernel
theorem dX11_mixObjects_100 : decode cX11_mixObjects 100 = .ok (.iinc 5 1, 3) := by decide +kernel
theorem dX11_mixObjects_103 : decode cX11_mixObjects 103 = .ok (.goto (-83), 3) := by decide +kernel
theorem dX11_mixObjects_106 : decode cX11_mixObjects 106 = .ok (.lload_n 3, 1) := by decide +kernel
theorem dX11_mixObjects_107 : decode cX11_mixObjects 107 = .ok (.lreturn, 1) := by decide +kernel
theorem dX11_mix_0 : decode cX11_mix 0 = .ok (.lload_n 0, 1) := by decide +kernel
theorem dX11_mix_1 : decode cX11_mix 1 = .ok (.ldc2_w 499, 3) := by decide +kernel
theorem dX11_mix_4 : decode cX11_mix 4 = .ok (.lmul, 1) := by decide +kernel
theorem dX11_mix_5 : decode cX11_mix 5 = .ok (.lload_n 2, 1) := by decide +kernel
theorem dX11_mix_6 : decode cX11_mix 6 = .ok (.ladd, 1) := by decide +kernel
theorem dX11_mix_7 : decode cX11_mix 7 = .ok (.lreturn, 1) := by decide +kernel
theorem dX11_needSlot_0 : decode cX11_needSlot 0 = .ok (.iload_n 1, 1) := by decide +kernel
theorem dX11_needSlot_1 : decode cX11_needSlot 1 = .ok (.ifCond .lt 14, 3) := by decide +kernel
theorem dX11_needSlot_4 : decode cX11_needSlot 4 = .ok (.iload_n 1, 1) := by decide +kernel
theorem dX11_needSlot_5 : decode cX11_needSlot 5 = .ok (.aload_n 0, 1) := by decide +kernel
theorem dX11_needSlot_6 : decode cX11_needSlot 6 = .ok (.getfield 28, 3) := by decide +kernel
theorem dX11_needSlot_9 : decode cX11_needSlot 9 = .ok (.invokevirtual 297, 3) := by decide +kernel
theorem dX11_needSlot_12 : decode cX11_needSlot 12 = .ok (.if_icmp .lt 14, 3) := by decide +kernel
theorem dX11_needSlot_15 : decode cX11_needSlot 15 = .ok (.new 501, 3) := by decide +kernel
theorem dX11_needSlot_18 : decode cX11_needSlot 18 = .ok (.dup, 1) := by decide +kernel
theorem dX11_needSlot_19 : decode cX11_needSlot 19 = .ok (.ldc_w 503, 3) := by decide +kernel
theorem dX11_needSlot_22 : decode cX11_needSlot 22 = .ok (.invokespecial 505, 3) := by decide +kernel
theorem dX11_needSlot_25 : decode cX11_needSlot 25 = .ok (.athrow, 1) := by decide +kernel
theorem dX11_needSlot_26 : decode cX11_needSlot 26 = .ok (.return_, 1) := by decide +kernel
theorem dX11_needGlobal_0 : decode cX11_needGlobal 0 = .ok (.iload_n 1, 1) := by decide +kernel
theorem dX11_needGlobal_1 : decode cX11_needGlobal 1 = .ok (.ifCond .lt 9, 3) := by decide +kernel
theorem dX11_needGlobal_4 : decode cX11_needGlobal 4 = .ok (.iload_n 1, 1) := by decide +kernel
theorem dX11_needGlobal_5 : decode cX11_needGlobal 5 = .ok (.bipush 8, 2) := by decide +kernel
theorem dX11_needGlobal_7 : decode cX11_needGlobal 7 = .ok (.if_icmp .lt 14, 3) := by decide +kernel
theorem dX11_needGlobal_10 : decode cX11_needGlobal 10 = .ok (.new 501, 3) := by decide +kernel
theorem dX11_needGlobal_13 : decode cX11_needGlobal 13 = .ok (.dup, 1) := by decide +kernel
theorem dX11_needGlobal_14 : decode cX11_needGlobal 14 = .ok (.ldc_w 506, 3) := by decide +kernel
theorem dX11_needGlobal_17 : decode cX11_needGlobal 17 = .ok (.invokespecial 505, 3) := by decide +kernel
theorem dX11_needGlobal_20 : decode cX11_needGlobal 20 = .ok (.athrow, 1) := by decide +kernel
theorem dX11_needGlobal_21 : decode cX11_needGlobal 21 = .ok (.return_, 1) := by decide +kernel
theorem dX11_needKind_0 : decode cX11_needKind 0 = .ok (.aload_n 0, 1) := by decide +kernel
theorem dX11_needKind_1 : decode cX11_needKind 1 = .ok (.getfield 12, 3) := by decide +kernel
theorem dX11_needKind_4 : decode cX11_needKind 4 = .ok (.iload_n 1, 1) := by decide +kernel
theorem dX11_needKind_5 : decode cX11_needKind 5 = .ok (.invokevirtual 154, 3) := by decide +kernel
theorem dX11_needKind_8 : decode cX11_needKind 8 = .ok (.ifCond .ne 13, 3) := by decide +kernel
theorem dX11_needKind_11 : decode cX11_needKind 11 = .ok (.new 501, 3) := by decide +kernel
theorem dX11_needKind_14 : decode cX11_needKind 14 = .ok (.dup, 1) := by decide +kernel
theorem dX11_needKind_15 : decode cX11_needKind 15 = .ok (.ldc 158, 2) := by decide +kernel
theorem dX11_needKind_17 : decode cX11_needKind 17 = .ok (.invokespecial 505, 3) := by decide +kernel
theorem dX11_needKind_20 : decode cX11_needKind 20 = .ok (.athrow, 1) := by decide +kernel
theorem dX11_needKind_21 : decode cX11_needKind 21 = .ok (.return_, 1) := by decide +kernel
theorem dX11_needImagePlace_0 : decode cX11_needImagePlace 0 = .ok (.iload_n 1, 1) := by decide +kernel
theorem dX11_needImagePlace_1 : decode cX11_needImagePlace 1 = .ok (.ifCond .lt 14, 3) := by decide +kernel
theorem dX11_needImagePlace_4 : decode cX11_needImagePlace 4 = .ok (.iload_n 1, 1) := by decide +kernel
theorem dX11_needImagePlace_5 : decode cX11_needImagePlace 5 = .ok (.aload_n 0, 1) := by decide +kernel
theorem dX11_needImagePlace_6 : decode cX11_needImagePlace 6 = .ok (.getfield 73, 3) := by decide +kernel
theorem dX11_needImagePlace_9 : decode cX11_needImagePlace 9 = .ok (.getfield 361, 3) := by decide +kernel
theorem dX11_needImagePlace_12 : decode cX11_needImagePlace 12 = .ok (.if_icmp .lt 14, 3) := by decide +kernel
theorem dX11_needImagePlace_15 : decode cX11_needImagePlace 15 = .ok (.new 501, 3) := by decide +kernel
theorem dX11_needImagePlace_18 : decode cX11_needImagePlace 18 = .ok (.dup, 1) := by decide +kernel
theorem dX11_needImagePlace_19 : decode cX11_needImagePlace 19 = .ok (.ldc_w 508, 3) := by decide +kernel
theorem dX11_needImagePlace_22 : decode cX11_needImagePlace 22 = .ok (.invokespecial 505, 3) := by decide +kernel
theorem dX11_needImagePlace_25 : decode cX11_needImagePlace 25 = .ok (.athrow, 1) := by decide +kernel
theorem dX11_needImagePlace_26 : decode cX11_needImagePlace 26 = .ok (.return_, 1) := by decide +kernel
theorem dX11_needBetween_0 : decode cX11_needBetween 0 = .ok (.iload_n 1, 1) := by decide +kernel
theorem dX11_needBetween_1 : decode cX11_needBetween 1 = .ok (.iload_n 2, 1) := by decide +kernel
theorem dX11_needBetween_2 : decode cX11_needBetween 2 = .ok (.if_icmp .lt 8, 3) := by decide +kernel
theorem dX11_needBetween_5 : decode cX11_needBetween 5 = .ok (.iload_n 1, 1) := by decide +kernel
theorem dX11_needBetween_6 : decode cX11_needBetween 6 = .ok (.iload_n 3, 1) := by decide +kernel
theorem dX11_needBetween_7 : decode cX11_needBetween 7 = .ok (.if_icmp .le 14, 3) := by decide +kernel
theorem dX11_needBetween_10 : decode cX11_needBetween 10 = .ok (.new 95, 3) := by decide +kernel
theorem dX11_needBetween_13 : decode cX11_needBetween 13 = .ok (.dup, 1) := by decide +kernel
theorem dX11_needBetween_14 : decode cX11_needBetween 14 = .ok (.ldc_w 510, 3) := by decide +kernel
theorem dX11_needBetween_17 : decode cX11_needBetween 17 = .ok (.invokespecial 99, 3) := by decide +kernel
theorem dX11_needBetween_20 : decode cX11_needBetween 20 = .ok (.athrow, 1) := by decide +kernel
theorem dX11_needBetween_21 : decode cX11_needBetween 21 = .ok (.return_, 1) := by decide +kernel
theorem dX11_needNoMarking_0 : decode cX11_needNoMarking 0 = .ok (.aload_n 0, 1) := by decide +kernel
theorem dX11_needNoMarking_1 : decode cX11_needNoMarking 1 = .ok (.getfield 46, 3) := by decide +kernel
theorem dX11_needNoMarking_4 : decode cX11_needNoMarking 4 = .ok (.getfield 284, 3) := by decide +kernel
theorem dX11_needNoMarking_7 : decode cX11_needNoMarking 7 = .ok (.ifCond .eq 14, 3) := by decide +kernel
theorem dX11_needNoMarking_10 : decode cX11_needNoMarking 10 = .ok (.new 106, 3) := by decide +kernel
theorem dX11_needNoMarking_13 : decode cX11_needNoMarking 13 = .ok (.dup, 1) := by decide +kernel
theorem dX11_needNoMarking_14 : decode cX11_needNoMarking 14 = .ok (.ldc_w 512, 3) := by decide +kernel
theorem dX11_needNoMarking_17 : decode cX11_needNoMarking 17 = .ok (.invokespecial 110, 3) := by decide +kernel
theorem dX11_needNoMarking_20 : decode cX11_needNoMarking 20 = .ok (.athrow, 1) := by decide +kernel
theorem dX11_needNoMarking_21 : decode cX11_needNoMarking 21 = .ok (.return_, 1) := by decide +kernel
theorem dX11_needHeld_0 : decode cX11_needHeld 0 = .ok (.aload_n 0, 1) := by decide +kernel
theorem dX11_needHeld_1 : decode cX11_needHeld 1 = .ok (.iload_n 1, 1) := by decide +kernel
theorem dX11_needHeld_2 : decode cX11_needHeld 2 = .ok (.invokevirtual 125, 3) := by decide +kernel
theorem dX11_needHeld_5 : decode cX11_needHeld 5 = .ok (.aload_n 0, 1) := by decide +kernel
theorem dX11_needHeld_6 : decode cX11_needHeld 6 = .ok (.getfield 28, 3) := by decide +kernel
theorem dX11_needHeld_9 : decode cX11_needHeld 9 = .ok (.iload_n 1, 1) := by decide +kernel
theorem dX11_needHeld_10 : decode cX11_needHeld 10 = .ok (.invokevirtual 130, 3) := by decide +kernel
theorem dX11_needHeld_13 : decode cX11_needHeld 13 = .ok (.istore_n 2, 1) := by decide +kernel
theorem dX11_needHeld_14 : decode cX11_needHeld 14 = .ok (.iload_n 2, 1) := by decide +kernel
theorem dX11_needHeld_15 : decode cX11_needHeld 15 = .ok (.iconst (-1), 1) := by decide +kernel
theorem dX11_needHeld_16 : decode cX11_needHeld 16 = .ok (.if_icmp .ne 14, 3) := by decide +kernel
theorem dX11_needHeld_19 : decode cX11_needHeld 19 = .ok (.new 95, 3) := by decide +kernel
theorem dX11_needHeld_22 : decode cX11_needHeld 22 = .ok (.dup, 1) := by decide +kernel
theorem dX11_needHeld_23 : decode cX11_needHeld 23 = .ok (.ldc_w 514, 3) := by decide +kernel
theorem dX11_needHeld_26 : decode cX11_needHeld 26 = .ok (.invokespecial 99, 3) := by decide +kernel
theorem dX11_needHeld_29 : decode cX11_needHeld 29 = .ok (.athrow, 1) := by decide +kernel
theorem dX11_needHeld_30 : decode cX11_needHeld 30 = .ok (.iload_n 2, 1) := by decide +kernel
theorem dX11_needHeld_31 : decode cX11_needHeld 31 = .ok (.ireturn, 1) := by decide +kernel
theorem dX11_needField_0 : decode cX11_needField 0 = .ok (.aload_n 0, 1) := by decide +kernel
theorem dX11_needField_1 : decode cX11_needField 1 = .ok (.getfield 28, 3) := by decide +kernel
theorem dX11_needField_4 : decode cX11_needField 4 = .ok (.iload_n 1, 1) := by decide +kernel
theorem dX11_needField_5 : decode cX11_needField 5 = .ok (.invokevirtual 130, 3) := by decide +kernel
theorem dX11_needField_8 : decode cX11_needField 8 = .ok (.istore_n 3, 1) := by decide +kernel
theorem dX11_needField_9 : decode cX11_needField 9 = .ok (.iload_n 3, 1) := by decide +kernel
theorem dX11_needField_10 : decode cX11_needField 10 = .ok (.iconst (-1), 1) := by decide +kernel
theorem dX11_needField_11 : decode cX11_needField 11 = .ok (.if_icmp .eq 19, 3) := by decide +kernel
theorem dX11_needField_14 : decode cX11_needField 14 = .ok (.iload_n 2, 1) := by decide +kernel
theorem dX11_needField_15 : decode cX11_needField 15 = .ok (.ifCond .lt 15, 3) := by decide +kernel
theorem dX11_needField_18 : decode cX11_needField 18 = .ok (.iload_n 2, 1) := by decide +kernel
theorem dX11_needField_19 : decode cX11_needField 19 = .ok (.aload_n 0, 1) := by decide +kernel
theorem dX11_needField_20 : decode cX11_needField 20 = .ok (.getfield 21, 3) := by decide +kernel
theorem dX11_needField_23 : decode cX11_needField 23 = .ok (.iload_n 3, 1) := by decide +kernel
theorem dX11_needField_24 : decode cX11_needField 24 = .ok (.invokevirtual 516, 3) := by decide +kernel
theorem dX11_needField_27 : decode cX11_needField 27 = .ok (.if_icmp .lt 14, 3) := by decide +kernel
theorem dX11_needField_30 : decode cX11_needField 30 = .ok (.new 95, 3) := by decide +kernel
theorem dX11_needField_33 : decode cX11_needField 33 = .ok (.dup, 1) := by decide +kernel
theorem dX11_needField_34 : decode cX11_needField 34 = .ok (.ldc_w 519, 3) := by decide +kernel
theorem dX11_needField_37 : decode cX11_needField 37 = .ok (.invokespecial 99, 3) := by decide +kernel
theorem dX11_needField_40 : decode cX11_needField 40 = .ok (.athrow, 1) := by decide +kernel
theorem dX11_needField_41 : decode cX11_needField 41 = .ok (.aload_n 0, 1) := by decide +kernel
theorem dX11_needField_42 : decode cX11_needField 42 = .ok (.getfield 21, 3) := by decide +kernel
theorem dX11_needField_45 : decode cX11_needField 45 = .ok (.getfield 232, 3) := by decide +kernel
theorem dX11_needField_48 : decode cX11_needField 48 = .ok (.iload_n 3, 1) := by decide +kernel
theorem dX11_needField_49 : decode cX11_needField 49 = .ok (.iaload, 1) := by decide +kernel
theorem dX11_needField_50 : decode cX11_needField 50 = .ok (.iload_n 2, 1) := by decide +kernel
theorem dX11_needField_51 : decode cX11_needField 51 = .ok (.iadd, 1) := by decide +kernel
theorem dX11_needField_52 : decode cX11_needField 52 = .ok (.ireturn, 1) := by decide +kernel
theorem dX11_needNumberField_0 : decode cX11_needNumberField 0 = .ok (.aload_n 0, 1) := by decide +kernel
theorem dX11_needNumberField_1 : decode cX11_needNumberField 1 = .ok (.getfield 28, 3) := by decide +kernel
theorem dX11_needNumberField_4 : decode cX11_needNumberField 4 = .ok (.iload_n 1, 1) := by decide +kernel
theorem dX11_needNumberField_5 : decode cX11_needNumberField 5 = .ok (.invokevirtual 130, 3) := by decide +kernel
theorem dX11_needNumberField_8 : decode cX11_needNumberField 8 = .ok (.istore_n 3, 1) := by decide +kernel
theorem dX11_needNumberField_9 : decode cX11_needNumberField 9 = .ok (.iload_n 3, 1) := by decide +kernel
theorem dX11_needNumberField_10 : decode cX11_needNumberField 10 = .ok (.iconst (-1), 1) := by decide +kernel
theorem dX11_needNumberField_11 : decode cX11_needNumberField 11 = .ok (.if_icmp .eq 41, 3) := by decide +kernel
theorem dX11_needNumberField_14 : decode cX11_needNumberField 14 = .ok (.aload_n 0, 1) := by decide +kernel
theorem dX11_needNumberField_15 : decode cX11_needNumberField 15 = .ok (.getfield 21, 3) := by decide +kernel
theorem dX11_needNumberField_18 : decode cX11_needNumberField 18 = .ok (.getfield 310, 3) := by decide +kernel
theorem dX11_needNumberField_21 : decode cX11_needNumberField 21 = .ok (.iload_n 3, 1) := by decide +kernel
theorem dX11_needNumberField_22 : decode cX11_needNumberField 22 = .ok (.iaload, 1) := by decide +kernel
theorem dX11_needNumberField_23 : decode cX11_needNumberField 23 = .ok (.ifCond .ne 29, 3) := by decide +kernel
theorem dX11_needNumberField_26 : decode cX11_needNumberField 26 = .ok (.iload_n 2, 1) := by decide +kernel
theorem dX11_needNumberField_27 : decode cX11_needNumberField 27 = .ok (.ifCond .lt 25, 3) := by decide +kernel
theorem dX11_needNumberField_30 : decode cX11_needNumberField 30 = .ok (.iload_n 2, 1) := by decide +kernel
theorem dX11_needNumberField_31 : decode cX11_needNumberField 31 = .ok (.aload_n 0, 1) := by decide +kernel
theorem dX11_needNumberField_32 : decode cX11_needNumberField 32 = .ok (.getfield 21, 3) := by decide +kernel
theorem dX11_needNumberField_35 : decode cX11_needNumberField 35 = .ok (.iload_n 3, 1) := by decide +kernel
theorem dX11_needNumberField_36 : decode cX11_needNumberField 36 = .ok (.invokevirtual 521, 3) := by decide +kernel
theorem dX11_needNumberField_39 : decode cX11_needNumberField 39 = .ok (.aload_n 0, 1) := by decide +kernel
theorem dX11_needNumberField_40 : decode cX11_needNumberField 40 = .ok (.getfield 21, 3) := by decide +kernel
theorem dX11_needNumberField_43 : decode cX11_needNumberField 43 = .ok (.getfield 235, 3) := by decide +kernel
theorem dX11_needNumberField_46 : decode cX11_needNumberField 46 = .ok (.iload_n 3, 1) := by decide +kernel
theorem dX11_needNumberField_47 : decode cX11_needNumberField 47 = .ok (.iaload, 1) := by decide +kernel
theorem dX11_needNumberField_48 : decode cX11_needNumberField 48 = .ok (.isub, 1) := by decide +kernel
theorem dX11_needNumberField_49 : decode cX11_needNumberField 49 = .ok (.if_icmp .lt 14, 3) := by decide +kernel
theorem dX11_needNumberField_52 : decode cX11_needNumberField 52 = .ok (.new 95, 3) := by decide +kernel
theorem dX11_needNumberField_55 : decode cX11_needNumberField 55 = .ok (.dup, 1) := by decide +kernel
theorem dX11_needNumberField_56 : decode cX11_needNumberField 56 = .ok (.ldc_w 524, 3) := by decide +kernel
theorem dX11_needNumberField_59 : decode cX11_needNumberField 59 = .ok (.invokespecial 99, 3) := by decide +kernel
theorem dX11_needNumberField_62 : decode cX11_needNumberField 62 = .ok (.athrow, 1) := by decide +kernel
theorem dX11_needNumberField_63 : decode cX11_needNumberField 63 = .ok (.aload_n 0, 1) := by decide +kernel
theorem dX11_needNumberField_64 : decode cX11_needNumberField 64 = .ok (.getfield 21, 3) := by decide +kernel
theorem dX11_needNumberField_67 : decode cX11_needNumberField 67 = .ok (.getfield 232, 3) := by decide +kernel
theorem dX11_needNumberField_70 : decode cX11_needNumberField 70 = .ok (.iload_n 3, 1) := by decide +kernel
theorem dX11_needNumberField_71 : decode cX11_needNumberField 71 = .ok (.iaload, 1) := by decide +kernel
theorem dX11_needNumberField_72 : decode cX11_needNumberField 72 = .ok (.aload_n 0, 1) := by decide +kernel
theorem dX11_needNumberField_73 : decode cX11_needNumberField 73 = .ok (.getfield 21, 3) := by decide +kernel
theorem dX11_needNumberField_76 : decode cX11_needNumberField 76 = .ok (.getfield 235, 3) := by decide +kernel
theorem dX11_needNumberField_79 : decode cX11_needNumberField 79 = .ok (.iload_n 3, 1) := by decide +kernel
theorem dX11_needNumberField_80 : decode cX11_needNumberField 80 = .ok (.iaload, 1) := by decide +kernel
theorem dX11_needNumberField_81 : decode cX11_needNumberField 81 = .ok (.iadd, 1) := by decide +kernel
theorem dX11_needNumberField_82 : decode cX11_needNumberField 82 = .ok (.iload_n 2, 1) := by decide +kernel
theorem dX11_needNumberField_83 : decode cX11_needNumberField 83 = .ok (.iadd, 1) := by decide +kernel
theorem dX11_needNumberField_84 : decode cX11_needNumberField 84 = .ok (.ireturn, 1) := by decide +kernel
theorem dX11_needByte_0 : decode cX11_needByte 0 = .ok (.aload_n 0, 1) := by decide +kernel
theorem dX11_needByte_1 : decode cX11_needByte 1 = .ok (.getfield 28, 3) := by decide +kernel
theorem dX11_needByte_4 : decode cX11_needByte 4 = .ok (.iload_n 1, 1) := by decide +kernel
theorem dX11_needByte_5 : decode cX11_needByte 5 = .ok (.invokevirtual 130, 3) := by decide +kernel
theorem dX11_needByte_8 : decode cX11_needByte 8 = .ok (.istore_n 3, 1) := by decide +kernel
theorem dX11_needByte_9 : decode cX11_needByte 9 = .ok (.iload_n 3, 1) := by decide +kernel
theorem dX11_needByte_10 : decode cX11_needByte 10 = .ok (.iconst (-1), 1) := by decide +kernel
theorem dX11_needByte_11 : decode cX11_needByte 11 = .ok (.if_icmp .eq 33, 3) := by decide +kernel
theorem dX11_needByte_14 : decode cX11_needByte 14 = .ok (.aload_n 0, 1) := by decide +kernel
theorem dX11_needByte_15 : decode cX11_needByte 15 = .ok (.getfield 21, 3) := by decide +kernel
theorem dX11_needByte_18 : decode cX11_needByte 18 = .ok (.getfield 310, 3) := by decide +kernel
theorem dX11_needByte_21 : decode cX11_needByte 21 = .ok (.iload_n 3, 1) := by decide +kernel
theorem dX11_needByte_22 : decode cX11_needByte 22 = .ok (.iaload, 1) := by decide +kernel
theorem dX11_needByte_23 : decode cX11_needByte 23 = .ok (.iconst 2, 1) := by decide +kernel
theorem dX11_needByte_24 : decode cX11_needByte 24 = .ok (.if_icmp .ne 20, 3) := by decide +kernel
theorem dX11_needByte_27 : decode cX11_needByte 27 = .ok (.iload_n 2, 1) := by decide +kernel
theorem dX11_needByte_28 : decode cX11_needByte 28 = .ok (.ifCond .lt 16, 3) := by decide +kernel
theorem dX11_needByte_31 : decode cX11_needByte 31 = .ok (.iload_n 2, 1) := by decide +kernel
theorem dX11_needByte_32 : decode cX11_needByte 32 = .ok (.aload_n 0, 1) := by decide +kernel
theorem dX11_needByte_33 : decode cX11_needByte 33 = .ok (.getfield 21, 3) := by decide +kernel
theorem dX11_needByte_36 : decode cX11_needByte 36 = .ok (.getfield 235, 3) := by decide +kernel
theorem dX11_needByte_39 : decode cX11_needByte 39 = .ok (.iload_n 3, 1) := by decide +kernel
theorem dX11_needByte_40 : decode cX11_needByte 40 = .ok (.iaload, 1) := by decide +kernel
theorem dX11_needByte_41 : decode cX11_needByte 41 = .ok (.if_icmp .lt 14, 3) := by decide +kernel
theorem dX11_needByte_44 : decode cX11_needByte 44 = .ok (.new 95, 3) := by decide +kernel
theorem dX11_needByte_47 : decode cX11_needByte 47 = .ok (.dup, 1) := by decide +kernel
theorem dX11_needByte_48 : decode cX11_needByte 48 = .ok (.ldc_w 526, 3) := by decide +kernel
theorem dX11_needByte_51 : decode cX11_needByte 51 = .ok (.invokespecial 99, 3) := by decide +kernel
theorem dX11_needByte_54 : decode cX11_needByte 54 = .ok (.athrow, 1) := by decide +kernel
theorem dX11_needByte_55 : decode cX11_needByte 55 = .ok (.aload_n 0, 1) := by decide +kernel
theorem dX11_needByte_56 : decode cX11_needByte 56 = .ok (.getfield 21, 3) := by decide +kernel
theorem dX11_needByte_59 : decode cX11_needByte 59 = .ok (.getfield 232, 3) := by decide +kernel
theorem dX11_needByte_62 : decode cX11_needByte 62 = .ok (.iload_n 3, 1) := by decide +kernel
theorem dX11_needByte_63 : decode cX11_needByte 63 = .ok (.iaload, 1) := by decide +kernel
theorem dX11_needByte_64 : decode cX11_needByte 64 = .ok (.iload_n 2, 1) := by decide +kernel
theorem dX11_needByte_65 : decode cX11_needByte 65 = .ok (.iadd, 1) := by decide +kernel
theorem dX11_needByte_66 : decode cX11_needByte 66 = .ok (.ireturn, 1) := by decide +kernel
theorem dX11_needReference_0 : decode cX11_needReference 0 = .ok (.aload_n 0, 1) := by decide +kernel
theorem dX11_needReference_1 : decode cX11_needReference 1 = .ok (.iload_n 1, 1) := by decide +kernel
theorem dX11_needReference_2 : decode cX11_needReference 2 = .ok (.invokevirtual 125, 3) := by decide +kernel
theorem dX11_needReference_5 : decode cX11_needReference 5 = .ok (.aload_n 0, 1) := by decide +kernel
theorem dX11_needReference_6 : decode cX11_needReference 6 = .ok (.getfield 28, 3) := by decide +kernel
theorem dX11_needReference_9 : decode cX11_needReference 9 = .ok (.iload_n 1, 1) := by decide +kernel
theorem dX11_needReference_10 : decode cX11_needReference 10 = .ok (.invokevirtual 130, 3) := by decide +kernel
theorem dX11_needReference_13 : decode cX11_needReference 13 = .ok (.istore_n 3, 1) := by decide +kernel
theorem dX11_needReference_14 : decode cX11_needReference 14 = .ok (.iload_n 3, 1) := by decide +kernel
theorem dX11_needReference_15 : decode cX11_needReference 15 = .ok (.iconst (-1), 1) := by decide +kernel
theorem dX11_needReference_16 : decode cX11_needReference 16 = .ok (.if_icmp .eq 29, 3) := by decide +kernel
theorem dX11_needReference_19 : decode cX11_needReference 19 = .ok (.aload_n 0, 1) := by decide +kernel
theorem dX11_needReference_20 : decode cX11_needReference 20 = .ok (.getfield 21, 3) := by decide +kernel
theorem dX11_needReference_23 : decode cX11_needReference 23 = .ok (.getfield 310, 3) := by decide +kernel
theorem dX11_needReference_26 : decode cX11_needReference 26 = .ok (.iload_n 3, 1) := by decide +kernel
theorem dX11_needReference_27 : decode cX11_needReference 27 = .ok (.iaload, 1) := by decide +kernel
theorem dX11_needReference_28 : decode cX11_needReference 28 = .ok (.iconst 3, 1) := by decide +kernel
theorem dX11_needReference_29 : decode cX11_needReference 29 = .ok (.if_icmp .lt 16, 3) := by decide +kernel
theorem dX11_needReference_32 : decode cX11_needReference 32 = .ok (.aload_n 0, 1) := by decide +kernel
theorem dX11_needReference_33 : decode cX11_needReference 33 = .ok (.getfield 21, 3) := by decide +kernel
theorem dX11_needReference_36 : decode cX11_needReference 36 = .ok (.getfield 310, 3) := by decide +kernel
theorem dX11_needReference_39 : decode cX11_needReference 39 = .ok (.iload_n 3, 1) := by decide +kernel
theorem dX11_needReference_40 : decode cX11_needReference 40 = .ok (.iaload, 1) := by decide +kernel
theorem dX11_needReference_41 : decode cX11_needReference 41 = .ok (.iload_n 2, 1) := by decide +kernel
theorem dX11_needReference_42 : decode cX11_needReference 42 = .ok (.if_icmp .le 14, 3) := by decide +kernel
theorem dX11_needReference_45 : decode cX11_needReference 45 = .ok (.new 95, 3) := by decide +kernel
theorem dX11_needReference_48 : decode cX11_needReference 48 = .ok (.dup, 1) := by decide +kernel
theorem dX11_needReference_49 : decode cX11_needReference 49 = .ok (.ldc_w 528, 3) := by decide +kernel
theorem dX11_needReference_52 : decode cX11_needReference 52 = .ok (.invokespecial 99, 3) := by decide +kernel
theorem dX11_needReference_55 : decode cX11_needReference 55 = .ok (.athrow, 1) := by decide +kernel
theorem dX11_needReference_56 : decode cX11_needReference 56 = .ok (.iload_n 3, 1) := by decide +kernel
theorem dX11_needReference_57 : decode cX11_needReference 57 = .ok (.ireturn, 1) := by decide +kernel
theorem dX11_needTable_0 : decode cX11_needTable 0 = .ok (.aload_n 0, 1) := by decide +kernel
theorem dX11_needTable_1 : decode cX11_needTable 1 = .ok (.iload_n 1, 1) := by decide +kernel
theorem dX11_needTable_2 : decode cX11_needTable 2 = .ok (.invokevirtual 125, 3) := by decide +kernel
theorem dX11_needTable_5 : decode cX11_needTable 5 = .ok (.aload_n 0, 1) := by decide +kernel
theorem dX11_needTable_6 : decode cX11_needTable 6 = .ok (.iload_n 2, 1) := by decide +kernel
theorem dX11_needTable_7 : decode cX11_needTable 7 = .ok (.invokevirtual 125, 3) := by decide +kernel
theorem dX11_needTable_10 : decode cX11_needTable 10 = .ok (.aload_n 0, 1) := by decide +kernel
theorem dX11_needTable_11 : decode cX11_needTable 11 = .ok (.getfield 28, 3) := by decide +kernel
theorem dX11_needTable_14 : decode cX11_needTable 14 = .ok (.iload_n 1, 1) := by decide +kernel
theorem dX11_needTable_15 : decode cX11_needTable 15 = .ok (.invokevirtual 130, 3) := by decide +kernel
theorem dX11_needTable_18 : decode cX11_needTable 18 = .ok (.istore_n 3, 1) := by decide +kernel
theorem dX11_needTable_19 : decode cX11_needTable 19 = .ok (.iload_n 3, 1) := by decide +kernel
theorem dX11_needTable_20 : decode cX11_needTable 20 = .ok (.iconst (-1), 1) := by decide +kernel
theorem dX11_needTable_21 : decode cX11_needTable 21 = .ok (.if_icmp .eq 29, 3) := by decide +kernel
theorem dX11_needTable_24 : decode cX11_needTable 24 = .ok (.aload_n 0, 1) := by decide +kernel
theorem dX11_needTable_25 : decode cX11_needTable 25 = .ok (.getfield 21, 3) := by decide +kernel
theorem dX11_needTable_28 : decode cX11_needTable 28 = .ok (.getfield 310, 3) := by decide +kernel
theorem dX11_needTable_31 : decode cX11_needTable 31 = .ok (.iload_n 3, 1) := by decide +kernel
theorem dX11_needTable_32 : decode cX11_needTable 32 = .ok (.iaload, 1) := by decide +kernel
theorem dX11_needTable_33 : decode cX11_needTable 33 = .ok (.bipush 6, 2) := by decide +kernel
theorem dX11_needTable_35 : decode cX11_needTable 35 = .ok (.if_icmp .ne 15, 3) := by decide +kernel
theorem dX11_needTable_38 : decode cX11_needTable 38 = .ok (.aload_n 0, 1) := by decide +kernel
theorem dX11_needTable_39 : decode cX11_needTable 39 = .ok (.getfield 28, 3) := by decide +kernel
theorem dX11_needTable_42 : decode cX11_needTable 42 = .ok (.iload_n 2, 1) := by decide +kernel
theorem dX11_needTable_43 : decode cX11_needTable 43 = .ok (.invokevirtual 130, 3) := by decide +kernel
theorem dX11_needTable_46 : decode cX11_needTable 46 = .ok (.iconst (-1), 1) := by decide +kernel
theorem dX11_needTable_47 : decode cX11_needTable 47 = .ok (.if_icmp .ne 14, 3) := by decide +kernel
theorem dX11_needTable_50 : decode cX11_needTable 50 = .ok (.new 95, 3) := by decide +kernel
theorem dX11_needTable_53 : decode cX11_needTable 53 = .ok (.dup, 1) := by decide +kernel
theorem dX11_needTable_54 : decode cX11_needTable 54 = .ok (.ldc_w 530, 3) := by decide +kernel
theorem dX11_needTable_57 : decode cX11_needTable 57 = .ok (.invokespecial 99, 3) := by decide +kernel
theorem dX11_needTable_60 : decode cX11_needTable 60 = .ok (.athrow, 1) := by decide +kernel
theorem dX11_needTable_61 : decode cX11_needTable 61 = .ok (.iload_n 3, 1) := by decide +kernel
theorem dX11_needTable_62 : decode cX11_needTable 62 = .ok (.ireturn, 1) := by decide +kernel
theorem dX11_needNetOf_0 : decode cX11_needNetOf 0 = .ok (.aload_n 0, 1) := by decide +kernel
theorem dX11_needNetOf_1 : decode cX11_needNetOf 1 = .ok (.getfield 28, 3) := by decide +kernel
theorem dX11_needNetOf_4 : decode cX11_needNetOf 4 = .ok (.iload_n 1, 1) := by decide +kernel
theorem dX11_needNetOf_5 : decode cX11_needNetOf 5 = .ok (.invokevirtual 130, 3) := by decide +kernel
theorem dX11_needNetOf_8 : decode cX11_needNetOf 8 = .ok (.istore_n 2, 1) := by decide +kernel
theorem dX11_needNetOf_9 : decode cX11_needNetOf 9 = .ok (.iload_n 2, 1) := by decide +kernel
theorem dX11_needNetOf_10 : decode cX11_needNetOf 10 = .ok (.iconst (-1), 1) := by decide +kernel
theorem dX11_needNetOf_11 : decode cX11_needNetOf 11 = .ok (.if_icmp .eq 16, 3) := by decide +kernel
theorem dX11_needNetOf_14 : decode cX11_needNetOf 14 = .ok (.aload_n 0, 1) := by decide +kernel
theorem dX11_needNetOf_15 : decode cX11_needNetOf 15 = .ok (.getfield 21, 3) := by decide +kernel
theorem dX11_needNetOf_18 : decode cX11_needNetOf 18 = .ok (.getfield 310, 3) := by decide +kernel
theorem dX11_needNetOf_21 : decode cX11_needNetOf 21 = .ok (.iload_n 2, 1) := by decide +kernel
theorem dX11_needNetOf_22 : decode cX11_needNetOf 22 = .ok (.iaload, 1) := by decide +kernel
theorem dX11_needNetOf_23 : decode cX11_needNetOf 23 = .ok (.iconst 2, 1) := by decide +kernel
theorem dX11_needNetOf_24 : decode cX11_needNetOf 24 = .ok (.if_icmp .le 14, 3) := by decide +kernel
theorem dX11_needNetOf_27 : decode cX11_needNetOf 27 = .ok (.new 95, 3) := by decide +kernel
theorem dX11_needNetOf_30 : decode cX11_needNetOf 30 = .ok (.dup, 1) := by decide +kernel
theorem dX11_needNetOf_31 : decode cX11_needNetOf 31 = .ok (.ldc_w 532, 3) := by decide +kernel
theorem dX11_needNetOf_34 : decode cX11_needNetOf 34 = .ok (.invokespecial 99, 3) := by decide +kernel
theorem dX11_needNetOf_37 : decode cX11_needNetOf 37 = .ok (.athrow, 1) := by decide +kernel
theorem dX11_needNetOf_38 : decode cX11_needNetOf 38 = .ok (.iload_n 2, 1) := by decide +kernel
theorem dX11_needNetOf_39 : decode cX11_needNetOf 39 = .ok (.ireturn, 1) := by decide +kernel
theorem dX11_holdAndTell_0 : decode cX11_holdAndTell 0 = .ok (.aload_n 0, 1) := by decide +kernel
theorem dX11_holdAndTell_1 : decode cX11_holdAndTell 1 = .ok (.getfield 28, 3) := by decide +kernel
theorem dX11_holdAndTell_4 : decode cX11_holdAndTell 4 = .ok (.iload_n 1, 1) := by decide +kernel
theorem dX11_holdAndTell_5 : decode cX11_holdAndTell 5 = .ok (.iload_n 2, 1) := by decide +kernel
theorem dX11_holdAndTell_6 : decode cX11_holdAndTell 6 = .ok (.invokevirtual 137, 3) := by decide +kernel
theorem dX11_holdAndTell_9 : decode cX11_holdAndTell 9 = .ok (.aload_n 0, 1) := by decide +kernel
theorem dX11_holdAndTell_10 : decode cX11_holdAndTell 10 = .ok (.getfield 21, 3) := by decide +kernel
theorem dX11_holdAndTell_13 : decode cX11_holdAndTell 13 = .ok (.iload_n 2, 1) := by decide +kernel
theorem dX11_holdAndTell_14 : decode cX11_holdAndTell 14 = .ok (.invokevirtual 141, 3) := by decide +kernel
theorem dX11_holdAndTell_17 : decode cX11_holdAndTell 17 = .ok (.ireturn, 1) := by decide +kernel
theorem dX11_makeInto_0 : decode cX11_makeInto 0 = .ok (.iload_n 2, 1) := by decide +kernel
theorem dX11_makeInto_1 : decode cX11_makeInto 1 = .ok (.aload_n 0, 1) := by decide +kernel
theorem dX11_makeInto_2 : decode cX11_makeInto 2 = .ok (.getfield 21, 3) := by decide +kernel
theorem dX11_makeInto_5 : decode cX11_makeInto 5 = .ok (.iload_n 2, 1) := by decide +kernel
theorem dX11_makeInto_6 : decode cX11_makeInto 6 = .ok (.iload_n 3, 1) := by decide +kernel
theorem dX11_makeInto_7 : decode cX11_makeInto 7 = .ok (.iload 4, 2) := by decide +kernel
theorem dX11_makeInto_9 : decode cX11_makeInto 9 = .ok (.invokevirtual 534, 3) := by decide +kernel
theorem dX11_makeInto_12 : decode cX11_makeInto 12 = .ok (.invokestatic 538, 3) := by decide +kernel
theorem dX11_makeInto_15 : decode cX11_makeInto 15 = .ok (.istore 5, 2) := by decide +kernel
theorem dX11_makeInto_17 : decode cX11_makeInto 17 = .ok (.aload_n 0, 1) := by decide +kernel
theorem dX11_makeInto_18 : decode cX11_makeInto 18 = .ok (.getfield 55, 3) := by decide +kernel
theorem dX11_makeInto_21 : decode cX11_makeInto 21 = .ok (.iload 5, 2) := by decide +kernel
theorem dX11_makeInto_23 : decode cX11_makeInto 23 = .ok (.invokevirtual 265, 3) := by decide +kernel
theorem dX11_makeInto_26 : decode cX11_makeInto 26 = .ok (.ifCond .ne 5, 3) := by decide +kernel
theorem dX11_makeInto_29 : decode cX11_makeInto 29 = .ok (.iconst (-1), 1) := by decide +kernel
theorem dX11_makeInto_30 : decode cX11_makeInto 30 = .ok (.ireturn, 1) := by decide +kernel
theorem dX11_makeInto_31 : decode cX11_makeInto 31 = .ok (.aload_n 0, 1) := by decide +kernel
theorem dX11_makeInto_32 : decode cX11_makeInto 32 = .ok (.getfield 55, 3) := by decide +kernel
theorem dX11_makeInto_35 : decode cX11_makeInto 35 = .ok (.iload_n 2, 1) := by decide +kernel
theorem dX11_makeInto_36 : decode cX11_makeInto 36 = .ok (.iload_n 3, 1) := by decide +kernel
theorem dX11_makeInto_37 : decode cX11_makeInto 37 = .ok (.iload 4, 2) := by decide +kernel
theorem dX11_makeInto_39 : decode cX11_makeInto 39 = .ok (.iload 5, 2) := by decide +kernel
theorem dX11_makeInto_41 : decode cX11_makeInto 41 = .ok (.bipush 32, 2) := by decide +kernel
theorem dX11_makeInto_43 : decode cX11_makeInto 43 = .ok (.if_icmp .le 7, 3) := by decide +kernel
theorem dX11_makeInto_46 : decode cX11_makeInto 46 = .ok (.iconst 1, 1) := by decide +kernel
theorem dX11_makeInto_47 : decode cX11_makeInto 47 = .ok (.goto 4, 3) := by decide +kernel
theorem dX11_makeInto_50 : decode cX11_makeInto 50 = .ok (.iconst 0, 1) := by decide +kernel
theorem dX11_makeInto_51 : decode cX11_makeInto 51 = .ok (.invokevirtual 541, 3) := by decide +kernel
theorem dX11_makeInto_54 : decode cX11_makeInto 54 = .ok (.istore 6, 2) := by decide +kernel
theorem dX11_makeInto_56 : decode cX11_makeInto 56 = .ok (.aload_n 0, 1) := by decide +kernel
theorem dX11_makeInto_57 : decode cX11_makeInto 57 = .ok (.getfield 28, 3) := by decide +kernel
theorem dX11_makeInto_60 : decode cX11_makeInto 60 = .ok (.iload_n 1, 1) := by decide +kernel
theorem dX11_makeInto_61 : decode cX11_makeInto 61 = .ok (.iload 6, 2) := by decide +kernel
theorem dX11_makeInto_63 : decode cX11_makeInto 63 = .ok (.invokevirtual 137, 3) := by decide +kernel
theorem dX11_makeInto_66 : decode cX11_makeInto 66 = .ok (.iload 6, 2) := by decide +kernel
theorem dX11_makeInto_68 : decode cX11_makeInto 68 = .ok (.ireturn, 1) := by decide +kernel
theorem dX11_pointAt_0 : decode cX11_pointAt 0 = .ok (.iload_n 1, 1) := by decide +kernel
theorem dX11_pointAt_1 : decode cX11_pointAt 1 = .ok (.iconst (-1), 1) := by decide +kernel
theorem dX11_pointAt_2 : decode cX11_pointAt 2 = .ok (.if_icmp .ne 5, 3) := by decide +kernel
theorem dX11_pointAt_5 : decode cX11_pointAt 5 = .ok (.iconst (-1), 1) := by decide +kernel
theorem dX11_pointAt_6 : decode cX11_pointAt 6 = .ok (.ireturn, 1) := by decide +kernel
theorem dX11_pointAt_7 : decode cX11_pointAt 7 = .ok (.aload_n 0, 1) := by decide +kernel
theorem dX11_pointAt_8 : decode cX11_pointAt 8 = .ok (.getfield 21, 3) := by decide +kernel
theorem dX11_pointAt_11 : decode cX11_pointAt 11 = .ok (.iload_n 1, 1) := by decide +kernel
theorem dX11_pointAt_12 : decode cX11_pointAt 12 = .ok (.iload_n 2, 1) := by decide +kernel
theorem dX11_pointAt_13 : decode cX11_pointAt 13 = .ok (.invokevirtual 204, 3) := by decide +kernel
theorem dX11_pointAt_16 : decode cX11_pointAt 16 = .ok (.aload_n 0, 1) := by decide +kernel
theorem dX11_pointAt_17 : decode cX11_pointAt 17 = .ok (.getfield 21, 3) := by decide +kernel
theorem dX11_pointAt_20 : decode cX11_pointAt 20 = .ok (.getfield 544, 3) := by decide +kernel
theorem dX11_pointAt_23 : decode cX11_pointAt 23 = .ok (.iload_n 1, 1) := by decide +kernel
theorem dX11_pointAt_24 : decode cX11_pointAt 24 = .ok (.iload_n 3, 1) := by decide +kernel
theorem dX11_pointAt_25 : decode cX11_pointAt 25 = .ok (.bastore, 1) := by decide +kernel
theorem dX11_pointAt_26 : decode cX11_pointAt 26 = .ok (.aload_n 0, 1) := by decide +kernel
theorem dX11_pointAt_27 : decode cX11_pointAt 27 = .ok (.getfield 21, 3) := by decide +kernel
theorem dX11_pointAt_30 : decode cX11_pointAt 30 = .ok (.iload_n 1, 1) := by decide +kernel
theorem dX11_pointAt_31 : decode cX11_pointAt 31 = .ok (.invokevirtual 141, 3) := by decide +kernel
theorem dX11_pointAt_34 : decode cX11_pointAt 34 = .ok (.ireturn, 1) := by decide +kernel
theorem dX11_takeFrom_0 : decode cX11_takeFrom 0 = .ok (.aload_n 1, 1) := by decide +kernel
theorem dX11_takeFrom_1 : decode cX11_takeFrom 1 = .ok (.invokevirtual 546, 3) := by decide +kernel
theorem dX11_takeFrom_4 : decode cX11_takeFrom 4 = .ok (.istore_n 3, 1) := by decide +kernel
theorem dX11_takeFrom_5 : decode cX11_takeFrom 5 = .ok (.iload_n 3, 1) := by decide +kernel
theorem dX11_takeFrom_6 : decode cX11_takeFrom 6 = .ok (.iconst (-1), 1) := by decide +kernel
theorem dX11_takeFrom_7 : decode cX11_takeFrom 7 = .ok (.if_icmp .ne 5, 3) := by decide +kernel
theorem dX11_takeFrom_10 : decode cX11_takeFrom 10 = .ok (.iconst (-1), 1) := by decide +kernel
theorem dX11_takeFrom_11 : decode cX11_takeFrom 11 = .ok (.ireturn, 1) := by decide +kernel
theorem dX11_takeFrom_12 : decode cX11_takeFrom 12 = .ok (.aload_n 0, 1) := by decide +kernel
theorem dX11_takeFrom_13 : decode cX11_takeFrom 13 = .ok (.iload_n 2, 1) := by decide +kernel
theorem dX11_takeFrom_14 : decode cX11_takeFrom 14 = .ok (.iload_n 3, 1) := by decide +kernel
theorem dX11_takeFrom_15 : decode cX11_takeFrom 15 = .ok (.invokevirtual 144, 3) := by decide +kernel
theorem dX11_takeFrom_18 : decode cX11_takeFrom 18 = .ok (.ireturn, 1) := by decide +kernel
theorem dX11_wordsFor_0 : decode cX11_wordsFor 0 = .ok (.iconst 2, 1) := by decide +kernel
theorem dX11_wordsFor_1 : decode cX11_wordsFor 1 = .ok (.iload_n 0, 1) := by decide +kernel
theorem dX11_wordsFor_2 : decode cX11_wordsFor 2 = .ok (.iconst 2, 1) := by decide +kernel
theorem dX11_wordsFor_3 : decode cX11_wordsFor 3 = .ok (.if_icmp .ne 11, 3) := by decide +kernel
theorem dX11_wordsFor_6 : decode cX11_wordsFor 6 = .ok (.iload_n 1, 1) := by decide +kernel
theorem dX11_wordsFor_7 : decode cX11_wordsFor 7 = .ok (.iconst 3, 1) := by decide +kernel
theorem dX11_wordsFor_8 : decode cX11_wordsFor 8 = .ok (.iadd, 1) := by decide +kernel
theorem dX11_wordsFor_9 : decode cX11_wordsFor 9 = .ok (.iconst 4, 1) := by decide +kernel
theorem dX11_wordsFor_10 : decode cX11_wordsFor 10 = .ok (.idiv, 1) := by decide +kernel
theorem dX11_wordsFor_11 : decode cX11_wordsFor 11 = .ok (.goto 4, 3) := by decide +kernel
theorem dX11_wordsFor_14 : decode cX11_wordsFor 14 = .ok (.iload_n 1, 1) := by decide +kernel
theorem dX11_wordsFor_15 : decode cX11_wordsFor 15 = .ok (.iadd, 1) := by decide +kernel
theorem dX11_wordsFor_16 : decode cX11_wordsFor 16 = .ok (.ireturn, 1) := by decide +kernel
theorem dJ9_min_7cf53_0 : decode cJ9_min_7cf53 0 = .ok (.iload_n 0, 1) := by decide +kernel
theorem dJ9_min_7cf53_1 : decode cJ9_min_7cf53 1 = .ok (.iload_n 1, 1) := by decide +kernel
theorem dJ9_min_7cf53_2 : decode cJ9_min_7cf53 2 = .ok (.if_icmp .gt 7, 3) := by decide +kernel
theorem dJ9_min_7cf53_5 : decode cJ9_min_7cf53 5 = .ok (.iload_n 0, 1) := by decide +kernel
theorem dJ9_min_7cf53_6 : decode cJ9_min_7cf53 6 = .ok (.goto 4, 3) := by decide +kernel
theorem dJ9_min_7cf53_9 : decode cJ9_min_7cf53 9 = .ok (.iload_n 1, 1) := by decide +kernel
theorem dJ9_min_7cf53_10 : decode cJ9_min_7cf53 10 = .ok (.ireturn, 1) := by decide +kernel
