theorem dX3_oldestOfKind_16 : decode cX3_oldestOfKind 16 = .ok (.ifCond .ne 33, 3) := by decide +kernel
theorem dX3_oldestOfKind_19 : decode cX3_oldestOfKind 19 = .ok (.aload_n 0, 1) := by decide +kernel
theorem dX3_oldestOfKind_20 : decode cX3_oldestOfKind 20 = .ok (.iload_n 3, 1) := by decide +kernel
theorem dX3_oldestOfKind_21 : decode cX3_oldestOfKind 21 = .ok (.invokevirtual 76, 3) := by decide +kernel
theorem dX3_oldestOfKind_24 : decode cX3_oldestOfKind 24 = .ok (.iload_n 1, 1) := by decide +kernel
theorem dX3_oldestOfKind_25 : decode cX3_oldestOfKind 25 = .ok (.if_icmp .ne 24, 3) := by decide +kernel
theorem dX3_oldestOfKind_28 : decode cX3_oldestOfKind 28 = .ok (.iload_n 2, 1) := by decide +kernel
theorem dX3_oldestOfKind_29 : decode cX3_oldestOfKind 29 = .ok (.bipush (-15), 2) := by decide +kernel
theorem dX3_oldestOfKind_31 : decode cX3_oldestOfKind 31 = .ok (.if_icmp .eq 16, 3) := by decide +kernel
theorem dX3_oldestOfKind_34 : decode cX3_oldestOfKind 34 = .ok (.aload_n 0, 1) := by decide +kernel
theorem dX3_oldestOfKind_35 : decode cX3_oldestOfKind 35 = .ok (.iload_n 3, 1) := by decide +kernel
theorem dX3_oldestOfKind_36 : decode cX3_oldestOfKind 36 = .ok (.invokevirtual 79, 3) := by decide +kernel
theorem dX3_oldestOfKind_39 : decode cX3_oldestOfKind 39 = .ok (.aload_n 0, 1) := by decide +kernel
theorem dX3_oldestOfKind_40 : decode cX3_oldestOfKind 40 = .ok (.iload_n 2, 1) := by decide +kernel
theorem dX3_oldestOfKind_41 : decode cX3_oldestOfKind 41 = .ok (.invokevirtual 79, 3) := by decide +kernel
theorem dX3_oldestOfKind_44 : decode cX3_oldestOfKind 44 = .ok (.if_icmp .le 5, 3) := by decide +kernel
theorem dX3_oldestOfKind_47 : decode cX3_oldestOfKind 47 = .ok (.iload_n 3, 1) := by decide +kernel
theorem dX3_oldestOfKind_48 : decode cX3_oldestOfKind 48 = .ok (.istore_n 2, 1) := by decide +kernel
theorem dX3_oldestOfKind_49 : decode cX3_oldestOfKind 49 = .ok (.iinc 3 1, 3) := by decide +kernel
theorem dX3_oldestOfKind_52 : decode cX3_oldestOfKind 52 = .ok (.goto (-47), 3) := by decide +kernel
theorem dX3_oldestOfKind_55 : decode cX3_oldestOfKind 55 = .ok (.iload_n 2, 1) := by decide +kernel
theorem dX3_oldestOfKind_56 : decode cX3_oldestOfKind 56 = .ok (.ireturn, 1) := by decide +kernel
theorem dX3_spoilingAt_0 : decode cX3_spoilingAt 0 = .ok (.iload_n 2, 1) := by decide +kernel
theorem dX3_spoilingAt_1 : decode cX3_spoilingAt 1 = .ok (.getstatic 86, 3) := by decide +kernel
theorem dX3_spoilingAt_4 : decode cX3_spoilingAt 4 = .ok (.aload_n 0, 1) := by decide +kernel
theorem dX3_spoilingAt_5 : decode cX3_spoilingAt 5 = .ok (.iload_n 1, 1) := by decide +kernel
theorem dX3_spoilingAt_6 : decode cX3_spoilingAt 6 = .ok (.invokevirtual 76, 3) := by decide +kernel
theorem dX3_spoilingAt_9 : decode cX3_spoilingAt 9 = .ok (.invokestatic 34, 3) := by decide +kernel
theorem dX3_spoilingAt_12 : decode cX3_spoilingAt 12 = .ok (.if_icmp .le 17, 3) := by decide +kernel
theorem dX3_spoilingAt_15 : decode cX3_spoilingAt 15 = .ok (.aload_n 0, 1) := by decide +kernel
theorem dX3_spoilingAt_16 : decode cX3_spoilingAt 16 = .ok (.iload_n 1, 1) := by decide +kernel
theorem dX3_spoilingAt_17 : decode cX3_spoilingAt 17 = .ok (.invokevirtual 69, 3) := by decide +kernel
theorem dX3_spoilingAt_20 : decode cX3_spoilingAt 20 = .ok (.bipush 9, 2) := by decide +kernel
theorem dX3_spoilingAt_22 : decode cX3_spoilingAt 22 = .ok (.iadd, 1) := by decide +kernel
theorem dX3_spoilingAt_23 : decode cX3_spoilingAt 23 = .ok (.bipush 10, 2) := by decide +kernel
theorem dX3_spoilingAt_25 : decode cX3_spoilingAt 25 = .ok (.idiv, 1) := by decide +kernel
theorem dX3_spoilingAt_26 : decode cX3_spoilingAt 26 = .ok (.goto 4, 3) := by decide +kernel
theorem dX3_spoilingAt_29 : decode cX3_spoilingAt 29 = .ok (.iconst 0, 1) := by decide +kernel
theorem dX3_spoilingAt_30 : decode cX3_spoilingAt 30 = .ok (.ireturn, 1) := by decide +kernel
theorem dX3_growOlder_0 : decode cX3_growOlder 0 = .ok (.iconst 0, 1) := by decide +kernel
theorem dX3_growOlder_1 : decode cX3_growOlder 1 = .ok (.istore_n 1, 1) := by decide +kernel
theorem dX3_growOlder_2 : decode cX3_growOlder 2 = .ok (.iconst 0, 1) := by decide +kernel
theorem dX3_growOlder_3 : decode cX3_growOlder 3 = .ok (.istore_n 2, 1) := by decide +kernel
theorem dX3_growOlder_4 : decode cX3_growOlder 4 = .ok (.iload_n 2, 1) := by decide +kernel
theorem dX3_growOlder_5 : decode cX3_growOlder 5 = .ok (.bipush 32, 2) := by decide +kernel
theorem dX3_growOlder_7 : decode cX3_growOlder 7 = .ok (.if_icmp .ge 53, 3) := by decide +kernel
theorem dX3_growOlder_10 : decode cX3_growOlder 10 = .ok (.aload_n 0, 1) := by decide +kernel
theorem dX3_growOlder_11 : decode cX3_growOlder 11 = .ok (.iload_n 2, 1) := by decide +kernel
theorem dX3_growOlder_12 : decode cX3_growOlder 12 = .ok (.invokevirtual 50, 3) := by decide +kernel
theorem dX3_growOlder_15 : decode cX3_growOlder 15 = .ok (.ifCond .ne 39, 3) := by decide +kernel
theorem dX3_growOlder_18 : decode cX3_growOlder 18 = .ok (.aload_n 0, 1) := by decide +kernel
theorem dX3_growOlder_19 : decode cX3_growOlder 19 = .ok (.getfield 18, 3) := by decide +kernel
theorem dX3_growOlder_22 : decode cX3_growOlder 22 = .ok (.iload_n 2, 1) := by decide +kernel
theorem dX3_growOlder_23 : decode cX3_growOlder 23 = .ok (.aload_n 0, 1) := by decide +kernel
theorem dX3_growOlder_24 : decode cX3_growOlder 24 = .ok (.iload_n 2, 1) := by decide +kernel
theorem dX3_growOlder_25 : decode cX3_growOlder 25 = .ok (.invokevirtual 79, 3) := by decide +kernel
theorem dX3_growOlder_28 : decode cX3_growOlder 28 = .ok (.iconst 1, 1) := by decide +kernel
theorem dX3_growOlder_29 : decode cX3_growOlder 29 = .ok (.iadd, 1) := by decide +kernel
theorem dX3_growOlder_30 : decode cX3_growOlder 30 = .ok (.invokestatic 38, 3) := by decide +kernel
theorem dX3_growOlder_33 : decode cX3_growOlder 33 = .ok (.aload_n 0, 1) := by decide +kernel
theorem dX3_growOlder_34 : decode cX3_growOlder 34 = .ok (.iload_n 2, 1) := by decide +kernel
theorem dX3_growOlder_35 : decode cX3_growOlder 35 = .ok (.aload_n 0, 1) := by decide +kernel
theorem dX3_growOlder_36 : decode cX3_growOlder 36 = .ok (.iload_n 2, 1) := by decide +kernel
theorem dX3_growOlder_37 : decode cX3_growOlder 37 = .ok (.invokevirtual 79, 3) := by decide +kernel
theorem dX3_growOlder_40 : decode cX3_growOlder 40 = .ok (.invokevirtual 89, 3) := by decide +kernel
theorem dX3_growOlder_43 : decode cX3_growOlder 43 = .ok (.istore_n 3, 1) := by decide +kernel
theorem dX3_growOlder_44 : decode cX3_growOlder 44 = .ok (.aload_n 0, 1) := by decide +kernel
theorem dX3_growOlder_45 : decode cX3_growOlder 45 = .ok (.iload_n 2, 1) := by decide +kernel
theorem dX3_growOlder_46 : decode cX3_growOlder 46 = .ok (.iload_n 3, 1) := by decide +kernel
theorem dX3_growOlder_47 : decode cX3_growOlder 47 = .ok (.invokevirtual 92, 3) := by decide +kernel
theorem dX3_growOlder_50 : decode cX3_growOlder 50 = .ok (.iload_n 1, 1) := by decide +kernel
theorem dX3_growOlder_51 : decode cX3_growOlder 51 = .ok (.iload_n 3, 1) := by decide +kernel
theorem dX3_growOlder_52 : decode cX3_growOlder 52 = .ok (.iadd, 1) := by decide +kernel
theorem dX3_growOlder_53 : decode cX3_growOlder 53 = .ok (.istore_n 1, 1) := by decide +kernel
theorem dX3_growOlder_54 : decode cX3_growOlder 54 = .ok (.iinc 2 1, 3) := by decide +kernel
theorem dX3_growOlder_57 : decode cX3_growOlder 57 = .ok (.goto (-53), 3) := by decide +kernel
theorem dX3_growOlder_60 : decode cX3_growOlder 60 = .ok (.iload_n 1, 1) := by decide +kernel
theorem dX3_growOlder_61 : decode cX3_growOlder 61 = .ok (.ireturn, 1) := by decide +kernel
theorem dX4_init_0 : decode cX4_init 0 = .ok (.aload_n 0, 1) := by decide +kernel
theorem dX4_init_1 : decode cX4_init 1 = .ok (.invokespecial 1, 3) := by decide +kernel
theorem dX4_init_4 : decode cX4_init 4 = .ok (.aload_n 0, 1) := by decide +kernel
theorem dX4_init_5 : decode cX4_init 5 = .ok (.new 7, 3) := by decide +kernel
theorem dX4_init_8 : decode cX4_init 8 = .ok (.dup, 1) := by decide +kernel
theorem dX4_init_9 : decode cX4_init 9 = .ok (.invokespecial 9, 3) := by decide +kernel
theorem dX4_init_12 : decode cX4_init 12 = .ok (.putfield 10, 3) := by decide +kernel
theorem dX4_init_15 : decode cX4_init 15 = .ok (.aload_n 0, 1) := by decide +kernel
theorem dX4_init_16 : decode cX4_init 16 = .ok (.new 7, 3) := by decide +kernel
theorem dX4_init_19 : decode cX4_init 19 = .ok (.dup, 1) := by decide +kernel
theorem dX4_init_20 : decode cX4_init 20 = .ok (.invokespecial 9, 3) := by decide +kernel
theorem dX4_init_23 : decode cX4_init 23 = .ok (.putfield 16, 3) := by decide +kernel
theorem dX4_init_26 : decode cX4_init 26 = .ok (.aload_n 0, 1) := by decide +kernel
theorem dX4_init_27 : decode cX4_init 27 = .ok (.new 7, 3) := by decide +kernel
theorem dX4_init_30 : decode cX4_init 30 = .ok (.dup, 1) := by decide +kernel
theorem dX4_init_31 : decode cX4_init 31 = .ok (.invokespecial 9, 3) := by decide +kernel
theorem dX4_init_34 : decode cX4_init 34 = .ok (.putfield 19, 3) := by decide +kernel
theorem dX4_init_37 : decode cX4_init 37 = .ok (.aload_n 0, 1) := by decide +kernel
theorem dX4_init_38 : decode cX4_init 38 = .ok (.iconst 0, 1) := by decide +kernel
theorem dX4_init_39 : decode cX4_init 39 = .ok (.putfield 22, 3) := by decide +kernel
theorem dX4_init_42 : decode cX4_init 42 = .ok (.aload_n 0, 1) := by decide +kernel
theorem dX4_init_43 : decode cX4_init 43 = .ok (.new 26, 3) := by decide +kernel
theorem dX4_init_46 : decode cX4_init 46 = .ok (.dup, 1) := by decide +kernel
theorem dX4_init_47 : decode cX4_init 47 = .ok (.invokespecial 28, 3) := by decide +kernel
theorem dX4_init_50 : decode cX4_init 50 = .ok (.putfield 29, 3) := by decide +kernel
theorem dX4_init_53 : decode cX4_init 53 = .ok (.aload_n 0, 1) := by decide +kernel
theorem dX4_init_54 : decode cX4_init 54 = .ok (.new 33, 3) := by decide +kernel
theorem dX4_init_57 : decode cX4_init 57 = .ok (.dup, 1) := by decide +kernel
theorem dX4_init_58 : decode cX4_init 58 = .ok (.invokespecial 35, 3) := by decide +kernel
theorem dX4_init_61 : decode cX4_init 61 = .ok (.putfield 36, 3) := by decide +kernel
theorem dX4_init_64 : decode cX4_init 64 = .ok (.aload_n 0, 1) := by decide +kernel
theorem dX4_init_65 : decode cX4_init 65 = .ok (.new 40, 3) := by decide +kernel
theorem dX4_init_68 : decode cX4_init 68 = .ok (.dup, 1) := by decide +kernel
theorem dX4_init_69 : decode cX4_init 69 = .ok (.invokespecial 42, 3) := by decide +kernel
theorem dX4_init_72 : decode cX4_init 72 = .ok (.putfield 43, 3) := by decide +kernel
theorem dX4_init_75 : decode cX4_init 75 = .ok (.aload_n 0, 1) := by decide +kernel
theorem dX4_init_76 : decode cX4_init 76 = .ok (.iconst 0, 1) := by decide +kernel
theorem dX4_init_77 : decode cX4_init 77 = .ok (.putfield 47, 3) := by decide +kernel
theorem dX4_init_80 : decode cX4_init 80 = .ok (.aload_n 0, 1) := by decide +kernel
theorem dX4_init_81 : decode cX4_init 81 = .ok (.iconst 0, 1) := by decide +kernel
theorem dX4_init_82 : decode cX4_init 82 = .ok (.putfield 51, 3) := by decide +kernel
theorem dX4_init_85 : decode cX4_init 85 = .ok (.aload_n 0, 1) := by decide +kernel
theorem dX4_init_86 : decode cX4_init 86 = .ok (.bipush 33, 2) := by decide +kernel
theorem dX4_init_88 : decode cX4_init 88 = .ok (.newarray .int, 2) := by decide +kernel
theorem dX4_init_90 : decode cX4_init 90 = .ok (.putfield 54, 3) := by decide +kernel
theorem dX4_init_93 : decode cX4_init 93 = .ok (.return_, 1) := by decide +kernel
theorem dX4_store_0 : decode cX4_store 0 = .ok (.aload_n 0, 1) := by decide +kernel
theorem dX4_store_1 : decode cX4_store 1 = .ok (.getfield 16, 3) := by decide +kernel
theorem dX4_store_4 : decode cX4_store 4 = .ok (.aload_n 0, 1) := by decide +kernel
theorem dX4_store_5 : decode cX4_store 5 = .ok (.getfield 10, 3) := by decide +kernel
theorem dX4_store_8 : decode cX4_store 8 = .ok (.invokevirtual 58, 3) := by decide +kernel
theorem dX4_store_11 : decode cX4_store 11 = .ok (.aload_n 0, 1) := by decide +kernel
theorem dX4_store_12 : decode cX4_store 12 = .ok (.aload_n 0, 1) := by decide +kernel
theorem dX4_store_13 : decode cX4_store 13 = .ok (.iload_n 1, 1) := by decide +kernel
theorem dX4_store_14 : decode cX4_store 14 = .ok (.iload_n 2, 1) := by decide +kernel
theorem dX4_store_15 : decode cX4_store 15 = .ok (.iload_n 3, 1) := by decide +kernel
theorem dX4_store_16 : decode cX4_store 16 = .ok (.invokevirtual 62, 3) := by decide +kernel
theorem dX4_store_19 : decode cX4_store 19 = .ok (.invokevirtual 66, 3) := by decide +kernel
theorem dX4_store_22 : decode cX4_store 22 = .ok (.ireturn, 1) := by decide +kernel
theorem dX4_take_0 : decode cX4_take 0 = .ok (.aload_n 0, 1) := by decide +kernel
theorem dX4_take_1 : decode cX4_take 1 = .ok (.getfield 16, 3) := by decide +kernel
theorem dX4_take_4 : decode cX4_take 4 = .ok (.aload_n 0, 1) := by decide +kernel
theorem dX4_take_5 : decode cX4_take 5 = .ok (.getfield 10, 3) := by decide +kernel
theorem dX4_take_8 : decode cX4_take 8 = .ok (.invokevirtual 58, 3) := by decide +kernel
theorem dX4_take_11 : decode cX4_take 11 = .ok (.aload_n 0, 1) := by decide +kernel
theorem dX4_take_12 : decode cX4_take 12 = .ok (.aload_n 0, 1) := by decide +kernel
theorem dX4_take_13 : decode cX4_take 13 = .ok (.iload_n 1, 1) := by decide +kernel
theorem dX4_take_14 : decode cX4_take 14 = .ok (.iload_n 2, 1) := by decide +kernel
theorem dX4_take_15 : decode cX4_take 15 = .ok (.invokevirtual 70, 3) := by decide +kernel
theorem dX4_take_18 : decode cX4_take 18 = .ok (.invokevirtual 66, 3) := by decide +kernel
theorem dX4_take_21 : decode cX4_take 21 = .ok (.ireturn, 1) := by decide +kernel
theorem dX4_move_0 : decode cX4_move 0 = .ok (.aload_n 0, 1) := by decide +kernel
theorem dX4_move_1 : decode cX4_move 1 = .ok (.getfield 16, 3) := by decide +kernel
theorem dX4_move_4 : decode cX4_move 4 = .ok (.aload_n 0, 1) := by decide +kernel
theorem dX4_move_5 : decode cX4_move 5 = .ok (.getfield 10, 3) := by decide +kernel
theorem dX4_move_8 : decode cX4_move 8 = .ok (.invokevirtual 58, 3) := by decide +kernel
theorem dX4_move_11 : decode cX4_move 11 = .ok (.aload_n 0, 1) := by decide +kernel
theorem dX4_move_12 : decode cX4_move 12 = .ok (.aload_n 0, 1) := by decide +kernel
theorem dX4_move_13 : decode cX4_move 13 = .ok (.iload_n 1, 1) := by decide +kernel
theorem dX4_move_14 : decode cX4_move 14 = .ok (.iload_n 2, 1) := by decide +kernel
theorem dX4_move_15 : decode cX4_move 15 = .ok (.iload_n 3, 1) := by decide +kernel
theorem dX4_move_16 : decode cX4_move 16 = .ok (.invokevirtual 74, 3) := by decide +kernel
theorem dX4_move_19 : decode cX4_move 19 = .ok (.invokevirtual 66, 3) := by decide +kernel
theorem dX4_move_22 : decode cX4_move 22 = .ok (.ireturn, 1) := by decide +kernel
theorem dX4_order_0 : decode cX4_order 0 = .ok (.aload_n 0, 1) := by decide +kernel
theorem dX4_order_1 : decode cX4_order 1 = .ok (.getfield 16, 3) := by decide +kernel
theorem dX4_order_4 : decode cX4_order 4 = .ok (.aload_n 0, 1) := by decide +kernel
theorem dX4_order_5 : decode cX4_order 5 = .ok (.getfield 10, 3) := by decide +kernel
theorem dX4_order_8 : decode cX4_order 8 = .ok (.invokevirtual 58, 3) := by decide +kernel
theorem dX4_order_11 : decode cX4_order 11 = .ok (.aload_n 0, 1) := by decide +kernel
theorem dX4_order_12 : decode cX4_order 12 = .ok (.aload_n 0, 1) := by decide +kernel
theorem dX4_order_13 : decode cX4_order 13 = .ok (.iload_n 1, 1) := by decide +kernel
theorem dX4_order_14 : decode cX4_order 14 = .ok (.iload_n 2, 1) := by decide +kernel
theorem dX4_order_15 : decode cX4_order 15 = .ok (.invokevirtual 77, 3) := by decide +kernel
theorem dX4_order_18 : decode cX4_order 18 = .ok (.invokevirtual 66, 3) := by decide +kernel
theorem dX4_order_21 : decode cX4_order 21 = .ok (.ireturn, 1) := by decide +kernel
theorem dX4_fix_0 : decode cX4_fix 0 = .ok (.aload_n 0, 1) := by decide +kernel
theorem dX4_fix_1 : decode cX4_fix 1 = .ok (.getfield 16, 3) := by decide +kernel
theorem dX4_fix_4 : decode cX4_fix 4 = .ok (.aload_n 0, 1) := by decide +kernel
theorem dX4_fix_5 : decode cX4_fix 5 = .ok (.getfield 10, 3) := by decide +kernel
theorem dX4_fix_8 : decode cX4_fix 8 = .ok (.invokevirtual 58, 3) := by decide +kernel
theorem dX4_fix_11 : decode cX4_fix 11 = .ok (.aload_n 0, 1) := by decide +kernel
theorem dX4_fix_12 : decode cX4_fix 12 = .ok (.aload_n 0, 1) := by decide +kernel
theorem dX4_fix_13 : decode cX4_fix 13 = .ok (.iload_n 1, 1) := by decide +kernel
theorem dX4_fix_14 : decode cX4_fix 14 = .ok (.invokevirtual 80, 3) := by decide +kernel
theorem dX4_fix_17 : decode cX4_fix 17 = .ok (.invokevirtual 66, 3) := by decide +kernel
theorem dX4_fix_20 : decode cX4_fix 20 = .ok (.ireturn, 1) := by decide +kernel
theorem dX4_pass_0 : decode cX4_pass 0 = .ok (.aload_n 0, 1) := by decide +kernel
theorem dX4_pass_1 : decode cX4_pass 1 = .ok (.getfield 16, 3) := by decide +kernel
theorem dX4_pass_4 : decode cX4_pass 4 = .ok (.aload_n 0, 1) := by decide +kernel
theorem dX4_pass_5 : decode cX4_pass 5 = .ok (.getfield 10, 3) := by decide +kernel
theorem dX4_pass_8 : decode cX4_pass 8 = .ok (.invokevirtual 58, 3) := by decide +kernel
theorem dX4_pass_11 : decode cX4_pass 11 = .ok (.aload_n 0, 1) := by decide +kernel
theorem dX4_pass_12 : decode cX4_pass 12 = .ok (.aload_n 0, 1) := by decide +kernel
theorem dX4_pass_13 : decode cX4_pass 13 = .ok (.iload_n 1, 1) := by decide +kernel
theorem dX4_pass_14 : decode cX4_pass 14 = .ok (.invokevirtual 83, 3) := by decide +kernel
theorem dX4_pass_17 : decode cX4_pass 17 = .ok (.invokevirtual 66, 3) := by decide +kernel
theorem dX4_pass_20 : decode cX4_pass 20 = .ok (.ireturn, 1) := by decide +kernel
theorem dX4_bayOf_0 : decode cX4_bayOf 0 = .ok (.iload_n 1, 1) := by decide +kernel
theorem dX4_bayOf_1 : decode cX4_bayOf 1 = .ok (.invokestatic 86, 3) := by decide +kernel
theorem dX4_bayOf_4 : decode cX4_bayOf 4 = .ok (.ifCond .ne 6, 3) := by decide +kernel
theorem dX4_bayOf_7 : decode cX4_bayOf 7 = .ok (.bipush (-11), 2) := by decide +kernel
theorem dX4_bayOf_9 : decode cX4_bayOf 9 = .ok (.ireturn, 1) := by decide +kernel
theorem dX4_bayOf_10 : decode cX4_bayOf 10 = .ok (.iload_n 2, 1) := by decide +kernel
theorem dX4_bayOf_11 : decode cX4_bayOf 11 = .ok (.tableswitch 117 0 5 #[37, 62, 71, 80, 99, 108], 37) := by decide +kernel
theorem dX4_bayOf_48 : decode cX4_bayOf 48 = .ok (.aload_n 0, 1) := by decide +kernel
theorem dX4_bayOf_49 : decode cX4_bayOf 49 = .ok (.getfield 10, 3) := by decide +kernel
theorem dX4_bayOf_52 : decode cX4_bayOf 52 = .ok (.iload_n 1, 1) := by decide +kernel
theorem dX4_bayOf_53 : decode cX4_bayOf 53 = .ok (.invokevirtual 90, 3) := by decide +kernel
theorem dX4_bayOf_56 : decode cX4_bayOf 56 = .ok (.ifCond .eq 8, 3) := by decide +kernel
theorem dX4_bayOf_59 : decode cX4_bayOf 59 = .ok (.bipush (-15), 2) := by decide +kernel
theorem dX4_bayOf_61 : decode cX4_bayOf 61 = .ok (.goto 11, 3) := by decide +kernel
theorem dX4_bayOf_64 : decode cX4_bayOf 64 = .ok (.aload_n 0, 1) := by decide +kernel
theorem dX4_bayOf_65 : decode cX4_bayOf 65 = .ok (.getfield 10, 3) := by decide +kernel
theorem dX4_bayOf_68 : decode cX4_bayOf 68 = .ok (.iload_n 1, 1) := by decide +kernel
theorem dX4_bayOf_69 : decode cX4_bayOf 69 = .ok (.invokevirtual 93, 3) := by decide +kernel
theorem dX4_bayOf_72 : decode cX4_bayOf 72 = .ok (.ireturn, 1) := by decide +kernel
theorem dX4_bayOf_73 : decode cX4_bayOf 73 = .ok (.aload_n 0, 1) := by decide +kernel
theorem dX4_bayOf_74 : decode cX4_bayOf 74 = .ok (.getfield 10, 3) := by decide +kernel
theorem dX4_bayOf_77 : decode cX4_bayOf 77 = .ok (.iload_n 1, 1) := by decide +kernel
theorem dX4_bayOf_78 : decode cX4_bayOf 78 = .ok (.invokevirtual 96, 3) := by decide +kernel
theorem dX4_bayOf_81 : decode cX4_bayOf 81 = .ok (.ireturn, 1) := by decide +kernel
theorem dX4_bayOf_82 : decode cX4_bayOf 82 = .ok (.aload_n 0, 1) := by decide +kernel
theorem dX4_bayOf_83 : decode cX4_bayOf 83 = .ok (.getfield 10, 3) := by decide +kernel
theorem dX4_bayOf_86 : decode cX4_bayOf 86 = .ok (.iload_n 1, 1) := by decide +kernel
theorem dX4_bayOf_87 : decode cX4_bayOf 87 = .ok (.invokevirtual 99, 3) := by decide +kernel
theorem dX4_bayOf_90 : decode cX4_bayOf 90 = .ok (.ireturn, 1) := by decide +kernel
theorem dX4_bayOf_91 : decode cX4_bayOf 91 = .ok (.aload_n 0, 1) := by decide +kernel
theorem dX4_bayOf_92 : decode cX4_bayOf 92 = .ok (.getfield 10, 3) := by decide +kernel
theorem dX4_bayOf_95 : decode cX4_bayOf 95 = .ok (.iload_n 1, 1) := by decide +kernel
theorem dX4_bayOf_96 : decode cX4_bayOf 96 = .ok (.aload_n 0, 1) := by decide +kernel
theorem dX4_bayOf_97 : decode cX4_bayOf 97 = .ok (.getfield 10, 3) := by decide +kernel
theorem dX4_bayOf_100 : decode cX4_bayOf 100 = .ok (.iload_n 1, 1) := by decide +kernel
theorem dX4_bayOf_101 : decode cX4_bayOf 101 = .ok (.invokevirtual 99, 3) := by decide +kernel
theorem dX4_bayOf_104 : decode cX4_bayOf 104 = .ok (.iconst 1, 1) := by decide +kernel
theorem dX4_bayOf_105 : decode cX4_bayOf 105 = .ok (.iadd, 1) := by decide +kernel
theorem dX4_bayOf_106 : decode cX4_bayOf 106 = .ok (.invokevirtual 102, 3) := by decide +kernel
theorem dX4_bayOf_109 : decode cX4_bayOf 109 = .ok (.ireturn, 1) := by decide +kernel
theorem dX4_bayOf_110 : decode cX4_bayOf 110 = .ok (.aload_n 0, 1) := by decide +kernel
theorem dX4_bayOf_111 : decode cX4_bayOf 111 = .ok (.getfield 10, 3) := by decide +kernel
theorem dX4_bayOf_114 : decode cX4_bayOf 114 = .ok (.iload_n 1, 1) := by decide +kernel
theorem dX4_bayOf_115 : decode cX4_bayOf 115 = .ok (.invokevirtual 105, 3) := by decide +kernel
theorem dX4_bayOf_118 : decode cX4_bayOf 118 = .ok (.ireturn, 1) := by decide +kernel
theorem dX4_bayOf_119 : decode cX4_bayOf 119 = .ok (.aload_n 0, 1) := by decide +kernel
theorem dX4_bayOf_120 : decode cX4_bayOf 120 = .ok (.getfield 10, 3) := by decide +kernel
theorem dX4_bayOf_123 : decode cX4_bayOf 123 = .ok (.iload_n 1, 1) := by decide +kernel
theorem dX4_bayOf_124 : decode cX4_bayOf 124 = .ok (.invokevirtual 108, 3) := by decide +kernel
theorem dX4_bayOf_127 : decode cX4_bayOf 127 = .ok (.ireturn, 1) := by decide +kernel
theorem dX4_bayOf_128 : decode cX4_bayOf 128 = .ok (.bipush (-12), 2) := by decide +kernel
theorem dX4_bayOf_130 : decode cX4_bayOf 130 = .ok (.ireturn, 1) := by decide +kernel
theorem dX4_rungOf_0 : decode cX4_rungOf 0 = .ok (.iload_n 1, 1) := by decide +kernel
theorem dX4_rungOf_1 : decode cX4_rungOf 1 = .ok (.invokestatic 111, 3) := by decide +kernel
theorem dX4_rungOf_4 : decode cX4_rungOf 4 = .ok (.ifCond .ne 6, 3) := by decide +kernel
theorem dX4_rungOf_7 : decode cX4_rungOf 7 = .ok (.bipush (-11), 2) := by decide +kernel
theorem dX4_rungOf_9 : decode cX4_rungOf 9 = .ok (.ireturn, 1) := by decide +kernel
theorem dX4_rungOf_10 : decode cX4_rungOf 10 = .ok (.iload_n 2, 1) := by decide +kernel
theorem dX4_rungOf_11 : decode cX4_rungOf 11 = .ok (.tableswitch 83 0 5 #[37, 42, 51, 56, 73, 78], 37) := by decide +kernel
theorem dX4_rungOf_48 : decode cX4_rungOf 48 = .ok (.iload_n 1, 1) := by decide +kernel
theorem dX4_rungOf_49 : decode cX4_rungOf 49 = .ok (.invokestatic 114, 3) := by decide +kernel
theorem dX4_rungOf_52 : decode cX4_rungOf 52 = .ok (.ireturn, 1) := by decide +kernel
theorem dX4_rungOf_53 : decode cX4_rungOf 53 = .ok (.aload_n 0, 1) := by decide +kernel
theorem dX4_rungOf_54 : decode cX4_rungOf 54 = .ok (.getfield 10, 3) := by decide +kernel
theorem dX4_rungOf_57 : decode cX4_rungOf 57 = .ok (.iload_n 1, 1) := by decide +kernel
theorem dX4_rungOf_58 : decode cX4_rungOf 58 = .ok (.invokevirtual 117, 3) := by decide +kernel
theorem dX4_rungOf_61 : decode cX4_rungOf 61 = .ok (.ireturn, 1) := by decide +kernel
theorem dX4_rungOf_62 : decode cX4_rungOf 62 = .ok (.iload_n 1, 1) := by decide +kernel
theorem dX4_rungOf_63 : decode cX4_rungOf 63 = .ok (.invokestatic 120, 3) := by decide +kernel
theorem dX4_rungOf_66 : decode cX4_rungOf 66 = .ok (.ireturn, 1) := by decide +kernel
theorem dX4_rungOf_67 : decode cX4_rungOf 67 = .ok (.aload_n 0, 1) := by decide +kernel
theorem dX4_rungOf_68 : decode cX4_rungOf 68 = .ok (.getfield 10, 3) := by decide +kernel
theorem dX4_rungOf_71 : decode cX4_rungOf 71 = .ok (.iload_n 1, 1) := by decide +kernel
theorem dX4_rungOf_72 : decode cX4_rungOf 72 = .ok (.invokevirtual 123, 3) := by decide +kernel
theorem dX4_rungOf_75 : decode cX4_rungOf 75 = .ok (.ifCond .eq 7, 3) := by decide +kernel
theorem dX4_rungOf_78 : decode cX4_rungOf 78 = .ok (.iconst 1, 1) := by decide +kernel
theorem dX4_rungOf_79 : decode cX4_rungOf 79 = .ok (.goto 4, 3) := by decide +kernel
theorem dX4_rungOf_82 : decode cX4_rungOf 82 = .ok (.iconst 0, 1) := by decide +kernel
theorem dX4_rungOf_83 : decode cX4_rungOf 83 = .ok (.ireturn, 1) := by decide +kernel
theorem dX4_rungOf_84 : decode cX4_rungOf 84 = .ok (.iload_n 1, 1) := by decide +kernel
theorem dX4_rungOf_85 : decode cX4_rungOf 85 = .ok (.invokestatic 126, 3) := by decide +kernel
theorem dX4_rungOf_88 : decode cX4_rungOf 88 = .ok (.ireturn, 1) := by decide +kernel
theorem dX4_rungOf_89 : decode cX4_rungOf 89 = .ok (.iload_n 1, 1) := by decide +kernel
theorem dX4_rungOf_90 : decode cX4_rungOf 90 = .ok (.invokestatic 129, 3) := by decide +kernel
theorem dX4_rungOf_93 : decode cX4_rungOf 93 = .ok (.ireturn, 1) := by decide +kernel
theorem dX4_rungOf_94 : decode cX4_rungOf 94 = .ok (.bipush (-12), 2) := by decide +kernel
theorem dX4_rungOf_96 : decode cX4_rungOf 96 = .ok (.ireturn, 1) := by decide +kernel
theorem dX4_sum_0 : decode cX4_sum 0 = .ok (.iload_n 1, 1) := by decide +kernel
theorem dX4_sum_1 : decode cX4_sum 1 = .ok (.invokestatic 86, 3) := by decide +kernel
theorem dX4_sum_4 : decode cX4_sum 4 = .ok (.ifCond .eq 10, 3) := by decide +kernel
theorem dX4_sum_7 : decode cX4_sum 7 = .ok (.iload_n 2, 1) := by decide +kernel
theorem dX4_sum_8 : decode cX4_sum 8 = .ok (.invokestatic 86, 3) := by decide +kernel
theorem dX4_sum_11 : decode cX4_sum 11 = .ok (.ifCond .ne 6, 3) := by decide +kernel
theorem dX4_sum_14 : decode cX4_sum 14 = .ok (.bipush (-11), 2) := by decide +kernel
theorem dX4_sum_16 : decode cX4_sum 16 = .ok (.ireturn, 1) := by decide +kernel
theorem dX4_sum_17 : decode cX4_sum 17 = .ok (.iload_n 2, 1) := by decide +kernel
theorem dX4_sum_18 : decode cX4_sum 18 = .ok (.iload_n 1, 1) := by decide +kernel
theorem dX4_sum_19 : decode cX4_sum 19 = .ok (.if_icmp .ge 6, 3) := by decide +kernel
theorem dX4_sum_22 : decode cX4_sum 22 = .ok (.bipush (-12), 2) := by decide +kernel
theorem dX4_sum_24 : decode cX4_sum 24 = .ok (.ireturn, 1) := by decide +kernel
theorem dX4_sum_25 : decode cX4_sum 25 = .ok (.aload_n 0, 1) := by decide +kernel
theorem dX4_sum_26 : decode cX4_sum 26 = .ok (.getfield 10, 3) := by decide +kernel
theorem dX4_sum_29 : decode cX4_sum 29 = .ok (.iload_n 2, 1) := by decide +kernel
theorem dX4_sum_30 : decode cX4_sum 30 = .ok (.invokevirtual 132, 3) := by decide +kernel
theorem dX4_sum_33 : decode cX4_sum 33 = .ok (.aload_n 0, 1) := by decide +kernel
theorem dX4_sum_34 : decode cX4_sum 34 = .ok (.getfield 10, 3) := by decide +kernel
theorem dX4_sum_37 : decode cX4_sum 37 = .ok (.iload_n 1, 1) := by decide +kernel
theorem dX4_sum_38 : decode cX4_sum 38 = .ok (.iconst 1, 1) := by decide +kernel
theorem dX4_sum_39 : decode cX4_sum 39 = .ok (.isub, 1) := by decide +kernel
theorem dX4_sum_40 : decode cX4_sum 40 = .ok (.invokevirtual 132, 3) := by decide +kernel
theorem dX4_sum_43 : decode cX4_sum 43 = .ok (.isub, 1) := by decide +kernel
theorem dX4_sum_44 : decode cX4_sum 44 = .ok (.ireturn, 1) := by decide +kernel
theorem dX4_sumAgain_0 : decode cX4_sumAgain 0 = .ok (.iload_n 1, 1) := by decide +kernel
theorem dX4_sumAgain_1 : decode cX4_sumAgain 1 = .ok (.invokestatic 86, 3) := by decide +kernel
theorem dX4_sumAgain_4 : decode cX4_sumAgain 4 = .ok (.ifCond .eq 10, 3) := by decide +kernel
theorem dX4_sumAgain_7 : decode cX4_sumAgain 7 = .ok (.iload_n 2, 1) := by decide +kernel
theorem dX4_sumAgain_8 : decode cX4_sumAgain 8 = .ok (.invokestatic 86, 3) := by decide +kernel
theorem dX4_sumAgain_11 : decode cX4_sumAgain 11 = .ok (.ifCond .ne 6, 3) := by decide +kernel
theorem dX4_sumAgain_14 : decode cX4_sumAgain 14 = .ok (.bipush (-11), 2) := by decide +kernel
theorem dX4_sumAgain_16 : decode cX4_sumAgain 16 = .ok (.ireturn, 1) := by decide +kernel
theorem dX4_sumAgain_17 : decode cX4_sumAgain 17 = .ok (.iload_n 2, 1) := by decide +kernel
theorem dX4_sumAgain_18 : decode cX4_sumAgain 18 = .ok (.iload_n 1, 1) := by decide +kernel
theorem dX4_sumAgain_19 : decode cX4_sumAgain 19 = .ok (.if_icmp .ge 6, 3) := by decide +kernel
theorem dX4_sumAgain_22 : decode cX4_sumAgain 22 = .ok (.bipush (-12), 2) := by decide +kernel
theorem dX4_sumAgain_24 : decode cX4_sumAgain 24 = .ok (.ireturn, 1) := by decide +kernel
theorem dX4_sumAgain_25 : decode cX4_sumAgain 25 = .ok (.aload_n 0, 1) := by decide +kernel
theorem dX4_sumAgain_26 : decode cX4_sumAgain 26 = .ok (.getfield 10, 3) := by decide +kernel
theorem dX4_sumAgain_29 : decode cX4_sumAgain 29 = .ok (.iload_n 1, 1) := by decide +kernel
theorem dX4_sumAgain_30 : decode cX4_sumAgain 30 = .ok (.iload_n 2, 1) := by decide +kernel
theorem dX4_sumAgain_31 : decode cX4_sumAgain 31 = .ok (.invokevirtual 135, 3) := by decide +kernel
theorem dX4_sumAgain_34 : decode cX4_sumAgain 34 = .ok (.ireturn, 1) := by decide +kernel
theorem dX4_reach_0 : decode cX4_reach 0 = .ok (.iload_n 1, 1) := by decide +kernel
theorem dX4_reach_1 : decode cX4_reach 1 = .ok (.iconst 1, 1) := by decide +kernel
theorem dX4_reach_2 : decode cX4_reach 2 = .ok (.sipush 9999, 3) := by decide +kernel
theorem dX4_reach_5 : decode cX4_reach 5 = .ok (.invokestatic 138, 3) := by decide +kernel
theorem dX4_reach_8 : decode cX4_reach 8 = .ok (.ifCond .ne 6, 3) := by decide +kernel
theorem dX4_reach_11 : decode cX4_reach 11 = .ok (.bipush (-12), 2) := by decide +kernel
theorem dX4_reach_13 : decode cX4_reach 13 = .ok (.ireturn, 1) := by decide +kernel
theorem dX4_reach_14 : decode cX4_reach 14 = .ok (.iconst 0, 1) := by decide +kernel
theorem dX4_reach_15 : decode cX4_reach 15 = .ok (.istore_n 2, 1) := by decide +kernel
theorem dX4_reach_16 : decode cX4_reach 16 = .ok (.iload_n 1, 1) := by decide +kernel
theorem dX4_reach_17 : decode cX4_reach 17 = .ok (.istore_n 3, 1) := by decide +kernel
theorem dX4_reach_18 : decode cX4_reach 18 = .ok (.bipush 32, 2) := by decide +kernel
theorem dX4_reach_20 : decode cX4_reach 20 = .ok (.istore 4, 2) := by decide +kernel
theorem dX4_reach_22 : decode cX4_reach 22 = .ok (.iload 4, 2) := by decide +kernel
theorem dX4_reach_24 : decode cX4_reach 24 = .ok (.iconst 1, 1) := by decide +kernel
theorem dX4_reach_25 : decode cX4_reach 25 = .ok (.if_icmp .lt 53, 3) := by decide +kernel
theorem dX4_reach_28 : decode cX4_reach 28 = .ok (.iload_n 2, 1) := by decide +kernel
theorem dX4_reach_29 : decode cX4_reach 29 = .ok (.iload 4, 2) := by decide +kernel
theorem dX4_reach_31 : decode cX4_reach 31 = .ok (.iadd, 1) := by decide +kernel
theorem dX4_reach_32 : decode cX4_reach 32 = .ok (.istore 5, 2) := by decide +kernel
theorem dX4_reach_34 : decode cX4_reach 34 = .ok (.iload 5, 2) := by decide +kernel
theorem dX4_reach_36 : decode cX4_reach 36 = .ok (.bipush 32, 2) := by decide +kernel
theorem dX4_reach_38 : decode cX4_reach 38 = .ok (.if_icmp .gt 31, 3) := by decide +kernel
theorem dX4_reach_41 : decode cX4_reach 41 = .ok (.aload_n 0, 1) := by decide +kernel
theorem dX4_reach_42 : decode cX4_reach 42 = .ok (.getfield 10, 3) := by decide +kernel
theorem dX4_reach_45 : decode cX4_reach 45 = .ok (.iload 5, 2) := by decide +kernel
theorem dX4_reach_47 : decode cX4_reach 47 = .ok (.invokevirtual 117, 3) := by decide +kernel
theorem dX4_reach_50 : decode cX4_reach 50 = .ok (.iload_n 3, 1) := by decide +kernel
theorem dX4_reach_51 : decode cX4_reach 51 = .ok (.if_icmp .ge 18, 3) := by decide +kernel
theorem dX4_reach_54 : decode cX4_reach 54 = .ok (.iload_n 3, 1) := by decide +kernel
theorem dX4_reach_55 : decode cX4_reach 55 = .ok (.aload_n 0, 1) := by decide +kernel
theorem dX4_reach_56 : decode cX4_reach 56 = .ok (.getfield 10, 3) := by decide +kernel
theorem dX4_reach_59 : decode cX4_reach 59 = .ok (.iload 5, 2) := by decide +kernel
theorem dX4_reach_61 : decode cX4_reach 61 = .ok (.invokevirtual 117, 3) := by decide +kernel
theorem dX4_reach_64 : decode cX4_reach 64 = .ok (.isub, 1) := by decide +kernel
theorem dX4_reach_65 : decode cX4_reach 65 = .ok (.istore_n 3, 1) := by decide +kernel
theorem dX4_reach_66 : decode cX4_reach 66 = .ok (.iload 5, 2) := by decide +kernel
theorem dX4_reach_68 : decode cX4_reach 68 = .ok (.istore_n 2, 1) := by decide +kernel
theorem dX4_reach_69 : decode cX4_reach 69 = .ok (.iload 4, 2) := by decide +kernel
theorem dX4_reach_71 : decode cX4_reach 71 = .ok (.iconst 2, 1) := by decide +kernel
theorem dX4_reach_72 : decode cX4_reach 72 = .ok (.idiv, 1) := by decide +kernel
theorem dX4_reach_73 : decode cX4_reach 73 = .ok (.istore 4, 2) := by decide +kernel
theorem dX4_reach_75 : decode cX4_reach 75 = .ok (.goto (-53), 3) := by decide +kernel
theorem dX4_reach_78 : decode cX4_reach 78 = .ok (.iload_n 2, 1) := by decide +kernel
theorem dX4_reach_79 : decode cX4_reach 79 = .ok (.bipush 32, 2) := by decide +kernel
theorem dX4_reach_81 : decode cX4_reach 81 = .ok (.if_icmp .ge 7, 3) := by decide +kernel
theorem dX4_reach_84 : decode cX4_reach 84 = .ok (.iload_n 2, 1) := by decide +kernel
theorem dX4_reach_85 : decode cX4_reach 85 = .ok (.goto 5, 3) := by decide +kernel
theorem dX4_reach_88 : decode cX4_reach 88 = .ok (.bipush (-15), 2) := by decide +kernel
theorem dX4_reach_90 : decode cX4_reach 90 = .ok (.ireturn, 1) := by decide +kernel
theorem dX4_reachAgain_0 : decode cX4_reachAgain 0 = .ok (.iload_n 1, 1) := by decide +kernel
theorem dX4_reachAgain_1 : decode cX4_reachAgain 1 = .ok (.iconst 1, 1) := by decide +kernel
theorem dX4_reachAgain_2 : decode cX4_reachAgain 2 = .ok (.sipush 9999, 3) := by decide +kernel
theorem dX4_reachAgain_5 : decode cX4_reachAgain 5 = .ok (.invokestatic 138, 3) := by decide +kernel
theorem dX4_reachAgain_8 : decode cX4_reachAgain 8 = .ok (.ifCond .ne 6, 3) := by decide +kernel
theorem dX4_reachAgain_11 : decode cX4_reachAgain 11 = .ok (.bipush (-12), 2) := by decide +kernel
theorem dX4_reachAgain_13 : decode cX4_reachAgain 13 = .ok (.ireturn, 1) := by decide +kernel
theorem dX4_reachAgain_14 : decode cX4_reachAgain 14 = .ok (.iconst 0, 1) := by decide +kernel
theorem dX4_reachAgain_15 : decode cX4_reachAgain 15 = .ok (.istore_n 2, 1) := by decide +kernel
theorem dX4_reachAgain_16 : decode cX4_reachAgain 16 = .ok (.iconst 0, 1) := by decide +kernel
theorem dX4_reachAgain_17 : decode cX4_reachAgain 17 = .ok (.istore_n 3, 1) := by decide +kernel
theorem dX4_reachAgain_18 : decode cX4_reachAgain 18 = .ok (.iload_n 3, 1) := by decide +kernel
theorem dX4_reachAgain_19 : decode cX4_reachAgain 19 = .ok (.bipush 32, 2) := by decide +kernel
theorem dX4_reachAgain_21 : decode cX4_reachAgain 21 = .ok (.if_icmp .ge 27, 3) := by decide +kernel
theorem dX4_reachAgain_24 : decode cX4_reachAgain 24 = .ok (.iload_n 2, 1) := by decide +kernel
theorem dX4_reachAgain_25 : decode cX4_reachAgain 25 = .ok (.aload_n 0, 1) := by decide +kernel
theorem dX4_reachAgain_26 : decode cX4_reachAgain 26 = .ok (.getfield 10, 3) := by decide +kernel
theorem dX4_reachAgain_29 : decode cX4_reachAgain 29 = .ok (.iload_n 3, 1) := by decide +kernel
theorem dX4_reachAgain_30 : decode cX4_reachAgain 30 = .ok (.invokevirtual 96, 3) := by decide +kernel
theorem dX4_reachAgain_33 : decode cX4_reachAgain 33 = .ok (.iadd, 1) := by decide +kernel
theorem dX4_reachAgain_34 : decode cX4_reachAgain 34 = .ok (.istore_n 2, 1) := by decide +kernel
theorem dX4_reachAgain_35 : decode cX4_reachAgain 35 = .ok (.iload_n 2, 1) := by decide +kernel
theorem dX4_reachAgain_36 : decode cX4_reachAgain 36 = .ok (.iload_n 1, 1) := by decide +kernel
theorem dX4_reachAgain_37 : decode cX4_reachAgain 37 = .ok (.if_icmp .lt 5, 3) := by decide +kernel
theorem dX4_reachAgain_40 : decode cX4_reachAgain 40 = .ok (.iload_n 3, 1) := by decide +kernel
theorem dX4_reachAgain_41 : decode cX4_reachAgain 41 = .ok (.ireturn, 1) := by decide +kernel
theorem dX4_reachAgain_42 : decode cX4_reachAgain 42 = .ok (.iinc 3 1, 3) := by decide +kernel
theorem dX4_reachAgain_45 : decode cX4_reachAgain 45 = .ok (.goto (-27), 3) := by decide +kernel
theorem dX4_reachAgain_48 : decode cX4_reachAgain 48 = .ok (.bipush (-15), 2) := by decide +kernel
theorem dX4_reachAgain_50 : decode cX4_reachAgain 50 = .ok (.ireturn, 1) := by decide +kernel
theorem dX4_steps_0 : decode cX4_steps 0 = .ok (.iload_n 1, 1) := by decide +kernel
theorem dX4_steps_1 : decode cX4_steps 1 = .ok (.invokestatic 86, 3) := by decide +kernel
theorem dX4_steps_4 : decode cX4_steps 4 = .ok (.ifCond .ne 6, 3) := by decide +kernel
theorem dX4_steps_7 : decode cX4_steps 7 = .ok (.bipush (-11), 2) := by decide +kernel
theorem dX4_steps_9 : decode cX4_steps 9 = .ok (.ireturn, 1) := by decide +kernel
theorem dX4_steps_10 : decode cX4_steps 10 = .ok (.iconst 0, 1) := by decide +kernel
theorem dX4_steps_11 : decode cX4_steps 11 = .ok (.istore_n 2, 1) := by decide +kernel
theorem dX4_steps_12 : decode cX4_steps 12 = .ok (.iload_n 1, 1) := by decide +kernel
theorem dX4_steps_13 : decode cX4_steps 13 = .ok (.iconst 1, 1) := by decide +kernel
theorem dX4_steps_14 : decode cX4_steps 14 = .ok (.iadd, 1) := by decide +kernel
theorem dX4_steps_15 : decode cX4_steps 15 = .ok (.istore_n 3, 1) := by decide +kernel
theorem dX4_steps_16 : decode cX4_steps 16 = .ok (.iconst 0, 1) := by decide +kernel
theorem dX4_steps_17 : decode cX4_steps 17 = .ok (.istore 4, 2) := by decide +kernel
theorem dX4_steps_19 : decode cX4_steps 19 = .ok (.iload 4, 2) := by decide +kernel
theorem dX4_steps_21 : decode cX4_steps 21 = .ok (.bipush 32, 2) := by decide +kernel
theorem dX4_steps_23 : decode cX4_steps 23 = .ok (.if_icmp .ge 32, 3) := by decide +kernel
theorem dX4_steps_26 : decode cX4_steps 26 = .ok (.iload_n 3, 1) := by decide +kernel
theorem dX4_steps_27 : decode cX4_steps 27 = .ok (.ifCond .le 28, 3) := by decide +kernel
theorem dX4_steps_30 : decode cX4_steps 30 = .ok (.iload_n 2, 1) := by decide +kernel
theorem dX4_steps_31 : decode cX4_steps 31 = .ok (.aload_n 0, 1) := by decide +kernel
theorem dX4_steps_32 : decode cX4_steps 32 = .ok (.getfield 10, 3) := by decide +kernel
theorem dX4_steps_35 : decode cX4_steps 35 = .ok (.iload_n 3, 1) := by decide +kernel
theorem dX4_steps_36 : decode cX4_steps 36 = .ok (.iconst 0, 1) := by decide +kernel
theorem dX4_steps_37 : decode cX4_steps 37 = .ok (.invokestatic 142, 3) := by decide +kernel
theorem dX4_steps_40 : decode cX4_steps 40 = .ok (.iadd, 1) := by decide +kernel
theorem dX4_steps_41 : decode cX4_steps 41 = .ok (.istore_n 2, 1) := by decide +kernel
theorem dX4_steps_42 : decode cX4_steps 42 = .ok (.iload_n 3, 1) := by decide +kernel
theorem dX4_steps_43 : decode cX4_steps 43 = .ok (.iload_n 3, 1) := by decide +kernel
theorem dX4_steps_44 : decode cX4_steps 44 = .ok (.invokestatic 114, 3) := by decide +kernel
theorem dX4_steps_47 : decode cX4_steps 47 = .ok (.isub, 1) := by decide +kernel
theorem dX4_steps_48 : decode cX4_steps 48 = .ok (.istore_n 3, 1) := by decide +kernel
theorem dX4_steps_49 : decode cX4_steps 49 = .ok (.iinc 4 1, 3) := by decide +kernel
theorem dX4_steps_52 : decode cX4_steps 52 = .ok (.goto (-33), 3) := by decide +kernel
theorem dX4_steps_55 : decode cX4_steps 55 = .ok (.iload_n 2, 1) := by decide +kernel
theorem dX4_steps_56 : decode cX4_steps 56 = .ok (.ireturn, 1) := by decide +kernel
theorem dX4_stepsAgain_0 : decode cX4_stepsAgain 0 = .ok (.iload_n 1, 1) := by decide +kernel
theorem dX4_stepsAgain_1 : decode cX4_stepsAgain 1 = .ok (.invokestatic 86, 3) := by decide +kernel
theorem dX4_stepsAgain_4 : decode cX4_stepsAgain 4 = .ok (.ifCond .ne 6, 3) := by decide +kernel
theorem dX4_stepsAgain_7 : decode cX4_stepsAgain 7 = .ok (.bipush (-11), 2) := by decide +kernel
theorem dX4_stepsAgain_9 : decode cX4_stepsAgain 9 = .ok (.ireturn, 1) := by decide +kernel
theorem dX4_stepsAgain_10 : decode cX4_stepsAgain 10 = .ok (.iconst 1, 1) := by decide +kernel
theorem dX4_stepsAgain_11 : decode cX4_stepsAgain 11 = .ok (.istore_n 2, 1) := by decide +kernel
theorem dX4_stepsAgain_12 : decode cX4_stepsAgain 12 = .ok (.iload_n 2, 1) := by decide +kernel
theorem dX4_stepsAgain_13 : decode cX4_stepsAgain 13 = .ok (.iload_n 1, 1) := by decide +kernel
theorem dX4_stepsAgain_14 : decode cX4_stepsAgain 14 = .ok (.iconst 1, 1) := by decide +kernel
theorem dX4_stepsAgain_15 : decode cX4_stepsAgain 15 = .ok (.iadd, 1) := by decide +kernel
theorem dX4_stepsAgain_16 : decode cX4_stepsAgain 16 = .ok (.if_icmp .gt 22, 3) := by decide +kernel
theorem dX4_stepsAgain_19 : decode cX4_stepsAgain 19 = .ok (.aload_n 0, 1) := by decide +kernel
theorem dX4_stepsAgain_20 : decode cX4_stepsAgain 20 = .ok (.getfield 54, 3) := by decide +kernel
theorem dX4_stepsAgain_23 : decode cX4_stepsAgain 23 = .ok (.iload_n 2, 1) := by decide +kernel
theorem dX4_stepsAgain_24 : decode cX4_stepsAgain 24 = .ok (.aload_n 0, 1) := by decide +kernel
theorem dX4_stepsAgain_25 : decode cX4_stepsAgain 25 = .ok (.iload_n 2, 1) := by decide +kernel
theorem dX4_stepsAgain_26 : decode cX4_stepsAgain 26 = .ok (.invokevirtual 146, 3) := by decide +kernel
theorem dX4_stepsAgain_29 : decode cX4_stepsAgain 29 = .ok (.invokestatic 149, 3) := by decide +kernel
theorem dX4_stepsAgain_32 : decode cX4_stepsAgain 32 = .ok (.iinc 2 1, 3) := by decide +kernel
theorem dX4_stepsAgain_35 : decode cX4_stepsAgain 35 = .ok (.goto (-23), 3) := by decide +kernel
theorem dX4_stepsAgain_38 : decode cX4_stepsAgain 38 = .ok (.aload_n 0, 1) := by decide +kernel
theorem dX4_stepsAgain_39 : decode cX4_stepsAgain 39 = .ok (.iload_n 1, 1) := by decide +kernel
theorem dX4_stepsAgain_40 : decode cX4_stepsAgain 40 = .ok (.iconst 1, 1) := by decide +kernel
theorem dX4_stepsAgain_41 : decode cX4_stepsAgain 41 = .ok (.iadd, 1) := by decide +kernel
theorem dX4_stepsAgain_42 : decode cX4_stepsAgain 42 = .ok (.iconst 0, 1) := by decide +kernel
theorem dX4_stepsAgain_43 : decode cX4_stepsAgain 43 = .ok (.invokevirtual 153, 3) := by decide +kernel
theorem dX4_stepsAgain_46 : decode cX4_stepsAgain 46 = .ok (.ireturn, 1) := by decide +kernel
theorem dX4_oldest_0 : decode cX4_oldest 0 = .ok (.iconst 0, 1) := by decide +kernel
theorem dX4_oldest_1 : decode cX4_oldest 1 = .ok (.istore_n 2, 1) := by decide +kernel
theorem dX4_oldest_2 : decode cX4_oldest 2 = .ok (.iload_n 2, 1) := by decide +kernel
theorem dX4_oldest_3 : decode cX4_oldest 3 = .ok (.bipush 32, 2) := by decide +kernel
theorem dX4_oldest_5 : decode cX4_oldest 5 = .ok (.if_icmp .ge 34, 3) := by decide +kernel
theorem dX4_oldest_8 : decode cX4_oldest 8 = .ok (.aload_n 0, 1) := by decide +kernel
theorem dX4_oldest_9 : decode cX4_oldest 9 = .ok (.getfield 10, 3) := by decide +kernel
theorem dX4_oldest_12 : decode cX4_oldest 12 = .ok (.iload_n 2, 1) := by decide +kernel
theorem dX4_oldest_13 : decode cX4_oldest 13 = .ok (.invokevirtual 90, 3) := by decide +kernel
theorem dX4_oldest_16 : decode cX4_oldest 16 = .ok (.ifCond .ne 17, 3) := by decide +kernel
theorem dX4_oldest_19 : decode cX4_oldest 19 = .ok (.aload_n 0, 1) := by decide +kernel
theorem dX4_oldest_20 : decode cX4_oldest 20 = .ok (.getfield 10, 3) := by decide +kernel
theorem dX4_oldest_23 : decode cX4_oldest 23 = .ok (.iload_n 2, 1) := by decide +kernel
theorem dX4_oldest_24 : decode cX4_oldest 24 = .ok (.invokevirtual 156, 3) := by decide +kernel
theorem dX4_oldest_27 : decode cX4_oldest 27 = .ok (.iload_n 1, 1) := by decide +kernel
theorem dX4_oldest_28 : decode cX4_oldest 28 = .ok (.if_icmp .ne 5, 3) := by decide +kernel
theorem dX4_oldest_31 : decode cX4_oldest 31 = .ok (.iload_n 2, 1) := by decide +kernel
theorem dX4_oldest_32 : decode cX4_oldest 32 = .ok (.ireturn, 1) := by decide +kernel
theorem dX4_oldest_33 : decode cX4_oldest 33 = .ok (.iinc 2 1, 3) := by decide +kernel
theorem dX4_oldest_36 : decode cX4_oldest 36 = .ok (.goto (-34), 3) := by decide +kernel
theorem dX4_oldest_39 : decode cX4_oldest 39 = .ok (.bipush (-11), 2) := by decide +kernel
theorem dX4_oldest_41 : decode cX4_oldest 41 = .ok (.ireturn, 1) := by decide +kernel
theorem dX4_commonAge_0 : decode cX4_commonAge 0 = .ok (.bipush (-15), 2) := by decide +kernel
theorem dX4_commonAge_2 : decode cX4_commonAge 2 = .ok (.istore_n 1, 1) := by decide +kernel
theorem dX4_commonAge_3 : decode cX4_commonAge 3 = .ok (.iconst 0, 1) := by decide +kernel
theorem dX4_commonAge_4 : decode cX4_commonAge 4 = .ok (.istore_n 2, 1) := by decide +kernel
theorem dX4_commonAge_5 : decode cX4_commonAge 5 = .ok (.iconst 0, 1) := by decide +kernel
theorem dX4_commonAge_6 : decode cX4_commonAge 6 = .ok (.istore_n 3, 1) := by decide +kernel
theorem dX4_commonAge_7 : decode cX4_commonAge 7 = .ok (.iload_n 3, 1) := by decide +kernel
theorem dX4_commonAge_8 : decode cX4_commonAge 8 = .ok (.bipush 32, 2) := by decide +kernel
theorem dX4_commonAge_10 : decode cX4_commonAge 10 = .ok (.if_icmp .ge 65, 3) := by decide +kernel
theorem dX4_commonAge_13 : decode cX4_commonAge 13 = .ok (.aload_n 0, 1) := by decide +kernel
theorem dX4_commonAge_14 : decode cX4_commonAge 14 = .ok (.getfield 10, 3) := by decide +kernel
theorem dX4_commonAge_17 : decode cX4_commonAge 17 = .ok (.iload_n 3, 1) := by decide +kernel
theorem dX4_commonAge_18 : decode cX4_commonAge 18 = .ok (.invokevirtual 99, 3) := by decide +kernel
theorem dX4_commonAge_21 : decode cX4_commonAge 21 = .ok (.istore 4, 2) := by decide +kernel
theorem dX4_commonAge_23 : decode cX4_commonAge 23 = .ok (.aload_n 0, 1) := by decide +kernel
theorem dX4_commonAge_24 : decode cX4_commonAge 24 = .ok (.getfield 10, 3) := by decide +kernel
theorem dX4_commonAge_27 : decode cX4_commonAge 27 = .ok (.iload 4, 2) := by decide +kernel
theorem dX4_commonAge_29 : decode cX4_commonAge 29 = .ok (.invokevirtual 159, 3) := by decide +kernel
theorem dX4_commonAge_32 : decode cX4_commonAge 32 = .ok (.istore 5, 2) := by decide +kernel
theorem dX4_commonAge_34 : decode cX4_commonAge 34 = .ok (.aload_n 0, 1) := by decide +kernel
theorem dX4_commonAge_35 : decode cX4_commonAge 35 = .ok (.getfield 10, 3) := by decide +kernel
theorem dX4_commonAge_38 : decode cX4_commonAge 38 = .ok (.iload_n 3, 1) := by decide +kernel
theorem dX4_commonAge_39 : decode cX4_commonAge 39 = .ok (.invokevirtual 90, 3) := by decide +kernel
theorem dX4_commonAge_42 : decode cX4_commonAge 42 = .ok (.ifCond .ne 27, 3) := by decide +kernel
theorem dX4_commonAge_45 : decode cX4_commonAge 45 = .ok (.iload 5, 2) := by decide +kernel
theorem dX4_commonAge_47 : decode cX4_commonAge 47 = .ok (.iload_n 2, 1) := by decide +kernel
theorem dX4_commonAge_48 : decode cX4_commonAge 48 = .ok (.if_icmp .gt 15, 3) := by decide +kernel
theorem dX4_commonAge_51 : decode cX4_commonAge 51 = .ok (.iload 5, 2) := by decide +kernel
theorem dX4_commonAge_53 : decode cX4_commonAge 53 = .ok (.iload_n 2, 1) := by decide +kernel
theorem dX4_commonAge_54 : decode cX4_commonAge 54 = .ok (.if_icmp .ne 15, 3) := by decide +kernel
theorem dX4_commonAge_57 : decode cX4_commonAge 57 = .ok (.iload 4, 2) := by decide +kernel
theorem dX4_commonAge_59 : decode cX4_commonAge 59 = .ok (.iload_n 1, 1) := by decide +kernel
theorem dX4_commonAge_60 : decode cX4_commonAge 60 = .ok (.if_icmp .ge 9, 3) := by decide +kernel
theorem dX4_commonAge_63 : decode cX4_commonAge 63 = .ok (.iload 5, 2) := by decide +kernel
theorem dX4_commonAge_65 : decode cX4_commonAge 65 = .ok (.istore_n 2, 1) := by decide +kernel
theorem dX4_commonAge_66 : decode cX4_commonAge 66 = .ok (.iload 4, 2) := by decide +kernel
theorem dX4_commonAge_68 : decode cX4_commonAge 68 = .ok (.istore_n 1, 1) := by decide +kernel
theorem dX4_commonAge_69 : decode cX4_commonAge 69 = .ok (.iinc 3 1, 3) := by decide +kernel
theorem dX4_commonAge_72 : decode cX4_commonAge 72 = .ok (.goto (-65), 3) := by decide +kernel
theorem dX4_commonAge_75 : decode cX4_commonAge 75 = .ok (.iload_n 1, 1) := by decide +kernel
theorem dX4_commonAge_76 : decode cX4_commonAge 76 = .ok (.ireturn, 1) := by decide +kernel
theorem dX4_tightest_0 : decode cX4_tightest 0 = .ok (.bipush (-15), 2) := by decide +kernel
theorem dX4_tightest_2 : decode cX4_tightest 2 = .ok (.istore_n 1, 1) := by decide +kernel
theorem dX4_tightest_3 : decode cX4_tightest 3 = .ok (.iconst 0, 1) := by decide +kernel
theorem dX4_tightest_4 : decode cX4_tightest 4 = .ok (.istore_n 2, 1) := by decide +kernel
theorem dX4_tightest_5 : decode cX4_tightest 5 = .ok (.iconst 1, 1) := by decide +kernel
theorem dX4_tightest_6 : decode cX4_tightest 6 = .ok (.istore_n 3, 1) := by decide +kernel
theorem dX4_tightest_7 : decode cX4_tightest 7 = .ok (.iload_n 3, 1) := by decide +kernel
theorem dX4_tightest_8 : decode cX4_tightest 8 = .ok (.bipush 32, 2) := by decide +kernel
theorem dX4_tightest_10 : decode cX4_tightest 10 = .ok (.if_icmp .gt 52, 3) := by decide +kernel
theorem dX4_tightest_13 : decode cX4_tightest 13 = .ok (.iload_n 3, 1) := by decide +kernel
theorem dX4_tightest_14 : decode cX4_tightest 14 = .ok (.invokestatic 120, 3) := by decide +kernel
theorem dX4_tightest_17 : decode cX4_tightest 17 = .ok (.aload_n 0, 1) := by decide +kernel
theorem dX4_tightest_18 : decode cX4_tightest 18 = .ok (.getfield 10, 3) := by decide +kernel
theorem dX4_tightest_21 : decode cX4_tightest 21 = .ok (.iload_n 3, 1) := by decide +kernel
theorem dX4_tightest_22 : decode cX4_tightest 22 = .ok (.invokevirtual 117, 3) := by decide +kernel
theorem dX4_tightest_25 : decode cX4_tightest 25 = .ok (.isub, 1) := by decide +kernel
theorem dX4_tightest_26 : decode cX4_tightest 26 = .ok (.istore 4, 2) := by decide +kernel
theorem dX4_tightest_28 : decode cX4_tightest 28 = .ok (.aload_n 0, 1) := by decide +kernel
theorem dX4_tightest_29 : decode cX4_tightest 29 = .ok (.getfield 10, 3) := by decide +kernel
theorem dX4_tightest_32 : decode cX4_tightest 32 = .ok (.iload_n 3, 1) := by decide +kernel
theorem dX4_tightest_33 : decode cX4_tightest 33 = .ok (.invokevirtual 123, 3) := by decide +kernel
theorem dX4_tightest_36 : decode cX4_tightest 36 = .ok (.ifCond .ne 20, 3) := by decide +kernel
theorem dX4_tightest_39 : decode cX4_tightest 39 = .ok (.iload_n 1, 1) := by decide +kernel
theorem dX4_tightest_40 : decode cX4_tightest 40 = .ok (.bipush (-15), 2) := by decide +kernel
theorem dX4_tightest_42 : decode cX4_tightest 42 = .ok (.if_icmp .eq 9, 3) := by decide +kernel
theorem dX4_tightest_45 : decode cX4_tightest 45 = .ok (.iload 4, 2) := by decide +kernel
theorem dX4_tightest_47 : decode cX4_tightest 47 = .ok (.iload_n 2, 1) := by decide +kernel
theorem dX4_tightest_48 : decode cX4_tightest 48 = .ok (.if_icmp .ge 8, 3) := by decide +kernel
theorem dX4_tightest_51 : decode cX4_tightest 51 = .ok (.iload_n 3, 1) := by decide +kernel
theorem dX4_tightest_52 : decode cX4_tightest 52 = .ok (.istore_n 1, 1) := by decide +kernel
theorem dX4_tightest_53 : decode cX4_tightest 53 = .ok (.iload 4, 2) := by decide +kernel
theorem dX4_tightest_55 : decode cX4_tightest 55 = .ok (.istore_n 2, 1) := by decide +kernel
theorem dX4_tightest_56 : decode cX4_tightest 56 = .ok (.iinc 3 1, 3) := by decide +kernel
theorem dX4_tightest_59 : decode cX4_tightest 59 = .ok (.goto (-52), 3) := by decide +kernel
theorem dX4_tightest_62 : decode cX4_tightest 62 = .ok (.iload_n 1, 1) := by decide +kernel
theorem dX4_tightest_63 : decode cX4_tightest 63 = .ok (.ireturn, 1) := by decide +kernel
theorem dX4_bestBay_0 : decode cX4_bestBay 0 = .ok (.iload_n 1, 1) := by decide +kernel
theorem dX4_bestBay_1 : decode cX4_bestBay 1 = .ok (.invokestatic 162, 3) := by decide +kernel
theorem dX4_bestBay_4 : decode cX4_bestBay 4 = .ok (.ifCond .eq 14, 3) := by decide +kernel
theorem dX4_bestBay_7 : decode cX4_bestBay 7 = .ok (.iload_n 2, 1) := by decide +kernel
theorem dX4_bestBay_8 : decode cX4_bestBay 8 = .ok (.iconst 1, 1) := by decide +kernel
theorem dX4_bestBay_9 : decode cX4_bestBay 9 = .ok (.sipush 200, 3) := by decide +kernel
theorem dX4_bestBay_12 : decode cX4_bestBay 12 = .ok (.invokestatic 138, 3) := by decide +kernel
theorem dX4_bestBay_15 : decode cX4_bestBay 15 = .ok (.ifCond .ne 6, 3) := by decide +kernel
theorem dX4_bestBay_18 : decode cX4_bestBay 18 = .ok (.bipush (-12), 2) := by decide +kernel
theorem dX4_bestBay_20 : decode cX4_bestBay 20 = .ok (.ireturn, 1) := by decide +kernel
theorem dX4_bestBay_21 : decode cX4_bestBay 21 = .ok (.bipush (-15), 2) := by decide +kernel
theorem dX4_bestBay_23 : decode cX4_bestBay 23 = .ok (.istore_n 3, 1) := by decide +kernel
theorem dX4_bestBay_24 : decode cX4_bestBay 24 = .ok (.iconst 0, 1) := by decide +kernel
theorem dX4_bestBay_25 : decode cX4_bestBay 25 = .ok (.istore 4, 2) := by decide +kernel
theorem dX4_bestBay_27 : decode cX4_bestBay 27 = .ok (.iload 4, 2) := by decide +kernel
theorem dX4_bestBay_29 : decode cX4_bestBay 29 = .ok (.bipush 32, 2) := by decide +kernel
theorem dX4_bestBay_31 : decode cX4_bestBay 31 = .ok (.if_icmp .ge 74, 3) := by decide +kernel
theorem dX4_bestBay_34 : decode cX4_bestBay 34 = .ok (.aload_n 0, 1) := by decide +kernel
theorem dX4_bestBay_35 : decode cX4_bestBay 35 = .ok (.iload 4, 2) := by decide +kernel
theorem dX4_bestBay_37 : decode cX4_bestBay 37 = .ok (.iload_n 1, 1) := by decide +kernel
theorem dX4_bestBay_38 : decode cX4_bestBay 38 = .ok (.iload_n 2, 1) := by decide +kernel
theorem dX4_bestBay_39 : decode cX4_bestBay 39 = .ok (.invokevirtual 165, 3) := by decide +kernel
theorem dX4_bestBay_42 : decode cX4_bestBay 42 = .ok (.ifCond .eq 20, 3) := by decide +kernel
theorem dX4_bestBay_45 : decode cX4_bestBay 45 = .ok (.aload_n 0, 1) := by decide +kernel
theorem dX4_bestBay_46 : decode cX4_bestBay 46 = .ok (.getfield 10, 3) := by decide +kernel
theorem dX4_bestBay_49 : decode cX4_bestBay 49 = .ok (.iload 4, 2) := by decide +kernel
theorem dX4_bestBay_51 : decode cX4_bestBay 51 = .ok (.iload_n 2, 1) := by decide +kernel
theorem dX4_bestBay_52 : decode cX4_bestBay 52 = .ok (.invokevirtual 168, 3) := by decide +kernel
theorem dX4_bestBay_55 : decode cX4_bestBay 55 = .ok (.ifCond .ne 7, 3) := by decide +kernel
theorem dX4_bestBay_58 : decode cX4_bestBay 58 = .ok (.iconst 1, 1) := by decide +kernel
theorem dX4_bestBay_59 : decode cX4_bestBay 59 = .ok (.goto 4, 3) := by decide +kernel
theorem dX4_bestBay_62 : decode cX4_bestBay 62 = .ok (.iconst 0, 1) := by decide +kernel
theorem dX4_bestBay_63 : decode cX4_bestBay 63 = .ok (.istore 5, 2) := by decide +kernel
theorem dX4_bestBay_65 : decode cX4_bestBay 65 = .ok (.iload 5, 2) := by decide +kernel
theorem dX4_bestBay_67 : decode cX4_bestBay 67 = .ok (.ifCond .eq 18, 3) := by decide +kernel
theorem dX4_bestBay_70 : decode cX4_bestBay 70 = .ok (.aload_n 0, 1) := by decide +kernel
theorem dX4_bestBay_71 : decode cX4_bestBay 71 = .ok (.getfield 10, 3) := by decide +kernel
theorem dX4_bestBay_74 : decode cX4_bestBay 74 = .ok (.iload 4, 2) := by decide +kernel
theorem dX4_bestBay_76 : decode cX4_bestBay 76 = .ok (.invokevirtual 90, 3) := by decide +kernel
theorem dX4_bestBay_79 : decode cX4_bestBay 79 = .ok (.ifCond .ne 6, 3) := by decide +kernel
theorem dX4_bestBay_82 : decode cX4_bestBay 82 = .ok (.iload 4, 2) := by decide +kernel
theorem dX4_bestBay_84 : decode cX4_bestBay 84 = .ok (.ireturn, 1) := by decide +kernel
theorem dX4_bestBay_85 : decode cX4_bestBay 85 = .ok (.iload 5, 2) := by decide +kernel
theorem dX4_bestBay_87 : decode cX4_bestBay 87 = .ok (.ifCond .eq 12, 3) := by decide +kernel
theorem dX4_bestBay_90 : decode cX4_bestBay 90 = .ok (.iload_n 3, 1) := by decide +kernel
theorem dX4_bestBay_91 : decode cX4_bestBay 91 = .ok (.bipush (-15), 2) := by decide +kernel
theorem dX4_bestBay_93 : decode cX4_bestBay 93 = .ok (.if_icmp .ne 6, 3) := by decide +kernel
theorem dX4_bestBay_96 : decode cX4_bestBay 96 = .ok (.iload 4, 2) := by decide +kernel
theorem dX4_bestBay_98 : decode cX4_bestBay 98 = .ok (.istore_n 3, 1) := by decide +kernel
theorem dX4_bestBay_99 : decode cX4_bestBay 99 = .ok (.iinc 4 1, 3) := by decide +kernel
theorem dX4_bestBay_102 : decode cX4_bestBay 102 = .ok (.goto (-75), 3) := by decide +kernel
theorem dX4_bestBay_105 : decode cX4_bestBay 105 = .ok (.iload_n 3, 1) := by decide +kernel
theorem dX4_bestBay_106 : decode cX4_bestBay 106 = .ok (.ireturn, 1) := by decide +kernel
theorem dX4_price_0 : decode cX4_price 0 = .ok (.iload_n 1, 1) := by decide +kernel
theorem dX4_price_1 : decode cX4_price 1 = .ok (.invokestatic 162, 3) := by decide +kernel
theorem dX4_price_4 : decode cX4_price 4 = .ok (.ifCond .eq 14, 3) := by decide +kernel
theorem dX4_price_7 : decode cX4_price 7 = .ok (.iload_n 2, 1) := by decide +kernel
theorem dX4_price_8 : decode cX4_price 8 = .ok (.iconst 1, 1) := by decide +kernel
theorem dX4_price_9 : decode cX4_price 9 = .ok (.sipush 999, 3) := by decide +kernel
theorem dX4_price_12 : decode cX4_price 12 = .ok (.invokestatic 138, 3) := by decide +kernel
theorem dX4_price_15 : decode cX4_price 15 = .ok (.ifCond .ne 6, 3) := by decide +kernel
theorem dX4_price_18 : decode cX4_price 18 = .ok (.bipush (-12), 2) := by decide +kernel
theorem dX4_price_20 : decode cX4_price 20 = .ok (.ireturn, 1) := by decide +kernel
theorem dX4_price_21 : decode cX4_price 21 = .ok (.iload_n 1, 1) := by decide +kernel
theorem dX4_price_22 : decode cX4_price 22 = .ok (.iload_n 2, 1) := by decide +kernel
theorem dX4_price_23 : decode cX4_price 23 = .ok (.invokestatic 172, 3) := by decide +kernel
theorem dX4_price_26 : decode cX4_price 26 = .ok (.ireturn, 1) := by decide +kernel
theorem dX4_append_0 : decode cX4_append 0 = .ok (.iload_n 1, 1) := by decide +kernel
theorem dX4_append_1 : decode cX4_append 1 = .ok (.bipush 32, 2) := by decide +kernel
theorem dX4_append_3 : decode cX4_append 3 = .ok (.bipush 126, 2) := by decide +kernel
theorem dX4_append_5 : decode cX4_append 5 = .ok (.invokestatic 138, 3) := by decide +kernel
theorem dX4_append_8 : decode cX4_append 8 = .ok (.ifCond .ne 6, 3) := by decide +kernel
theorem dX4_append_11 : decode cX4_append 11 = .ok (.bipush (-12), 2) := by decide +kernel
theorem dX4_append_13 : decode cX4_append 13 = .ok (.ireturn, 1) := by decide +kernel
theorem dX4_append_14 : decode cX4_append 14 = .ok (.aload_n 0, 1) := by decide +kernel
theorem dX4_append_15 : decode cX4_append 15 = .ok (.getfield 36, 3) := by decide +kernel
theorem dX4_append_18 : decode cX4_append 18 = .ok (.iload_n 1, 1) := by decide +kernel
theorem dX4_append_19 : decode cX4_append 19 = .ok (.invokevirtual 175, 3) := by decide +kernel
theorem dX4_append_22 : decode cX4_append 22 = .ok (.ireturn, 1) := by decide +kernel
theorem dX4_run_0 : decode cX4_run 0 = .ok (.aload_n 0, 1) := by decide +kernel
theorem dX4_run_1 : decode cX4_run 1 = .ok (.getfield 36, 3) := by decide +kernel
theorem dX4_run_4 : decode cX4_run 4 = .ok (.invokevirtual 178, 3) := by decide +kernel
theorem dX4_run_7 : decode cX4_run 7 = .ok (.istore_n 1, 1) := by decide +kernel
theorem dX4_run_8 : decode cX4_run 8 = .ok (.aload_n 0, 1) := by decide +kernel
theorem dX4_run_9 : decode cX4_run 9 = .ok (.getfield 36, 3) := by decide +kernel
theorem dX4_run_12 : decode cX4_run 12 = .ok (.invokevirtual 182, 3) := by decide +kernel
theorem dX4_run_15 : decode cX4_run 15 = .ok (.iload_n 1, 1) := by decide +kernel
theorem dX4_run_16 : decode cX4_run 16 = .ok (.ifCond .ne 15, 3) := by decide +kernel
theorem dX4_run_19 : decode cX4_run 19 = .ok (.sipush (-1000), 3) := by decide +kernel
theorem dX4_run_22 : decode cX4_run 22 = .ok (.aload_n 0, 1) := by decide +kernel
theorem dX4_run_23 : decode cX4_run 23 = .ok (.getfield 36, 3) := by decide +kernel
theorem dX4_run_26 : decode cX4_run 26 = .ok (.invokevirtual 185, 3) := by decide +kernel
theorem dX4_run_29 : decode cX4_run 29 = .ok (.isub, 1) := by decide +kernel
theorem dX4_run_30 : decode cX4_run 30 = .ok (.ireturn, 1) := by decide +kernel
theorem dX4_run_31 : decode cX4_run 31 = .ok (.aload_n 0, 1) := by decide +kernel
theorem dX4_run_32 : decode cX4_run 32 = .ok (.getfield 16, 3) := by decide +kernel
theorem dX4_run_35 : decode cX4_run 35 = .ok (.aload_n 0, 1) := by decide +kernel
theorem dX4_run_36 : decode cX4_run 36 = .ok (.getfield 10, 3) := by decide +kernel
theorem dX4_run_39 : decode cX4_run 39 = .ok (.invokevirtual 58, 3) := by decide +kernel
theorem dX4_run_42 : decode cX4_run 42 = .ok (.aload_n 0, 1) := by decide +kernel
theorem dX4_run_43 : decode cX4_run 43 = .ok (.getfield 36, 3) := by decide +kernel
theorem dX4_run_46 : decode cX4_run 46 = .ok (.invokevirtual 189, 3) := by decide +kernel
theorem dX4_run_49 : decode cX4_run 49 = .ok (.istore_n 2, 1) := by decide +kernel
theorem dX4_run_50 : decode cX4_run 50 = .ok (.iconst 0, 1) := by decide +kernel
theorem dX4_run_51 : decode cX4_run 51 = .ok (.istore_n 3, 1) := by decide +kernel
theorem dX4_run_52 : decode cX4_run 52 = .ok (.iload_n 3, 1) := by decide +kernel
theorem dX4_run_53 : decode cX4_run 53 = .ok (.iload_n 2, 1) := by decide +kernel
theorem dX4_run_54 : decode cX4_run 54 = .ok (.if_icmp .ge 36, 3) := by decide +kernel
theorem dX4_run_57 : decode cX4_run 57 = .ok (.aload_n 0, 1) := by decide +kernel
theorem dX4_run_58 : decode cX4_run 58 = .ok (.iload_n 3, 1) := by decide +kernel
theorem dX4_run_59 : decode cX4_run 59 = .ok (.invokevirtual 192, 3) := by decide +kernel
theorem dX4_run_62 : decode cX4_run 62 = .ok (.ifCond .ge 22, 3) := by decide +kernel
theorem dX4_run_65 : decode cX4_run 65 = .ok (.aload_n 0, 1) := by decide +kernel
theorem dX4_run_66 : decode cX4_run 66 = .ok (.getfield 10, 3) := by decide +kernel
theorem dX4_run_69 : decode cX4_run 69 = .ok (.aload_n 0, 1) := by decide +kernel
theorem dX4_run_70 : decode cX4_run 70 = .ok (.getfield 16, 3) := by decide +kernel
theorem dX4_run_73 : decode cX4_run 73 = .ok (.invokevirtual 58, 3) := by decide +kernel
theorem dX4_run_76 : decode cX4_run 76 = .ok (.aload_n 0, 1) := by decide +kernel
theorem dX4_run_77 : decode cX4_run 77 = .ok (.bipush 9, 2) := by decide +kernel
theorem dX4_run_79 : decode cX4_run 79 = .ok (.iload_n 3, 1) := by decide +kernel
theorem dX4_run_80 : decode cX4_run 80 = .ok (.invokevirtual 195, 3) := by decide +kernel
theorem dX4_run_83 : decode cX4_run 83 = .ok (.ireturn, 1) := by decide +kernel
theorem dX4_run_84 : decode cX4_run 84 = .ok (.iinc 3 1, 3) := by decide +kernel
theorem dX4_run_87 : decode cX4_run 87 = .ok (.goto (-35), 3) := by decide +kernel
theorem dX4_run_90 : decode cX4_run 90 = .ok (.aload_n 0, 1) := by decide +kernel
theorem dX4_run_91 : decode cX4_run 91 = .ok (.iload_n 2, 1) := by decide +kernel
theorem dX4_run_92 : decode cX4_run 92 = .ok (.invokevirtual 66, 3) := by decide +kernel
theorem dX4_run_95 : decode cX4_run 95 = .ok (.ireturn, 1) := by decide +kernel
theorem dX4_tellRung_0 : decode cX4_tellRung 0 = .ok (.iload_n 1, 1) := by decide +kernel
theorem dX4_tellRung_1 : decode cX4_tellRung 1 = .ok (.invokestatic 111, 3) := by decide +kernel
theorem dX4_tellRung_4 : decode cX4_tellRung 4 = .ok (.ifCond .ne 6, 3) := by decide +kernel
theorem dX4_tellRung_7 : decode cX4_tellRung 7 = .ok (.bipush (-11), 2) := by decide +kernel
theorem dX4_tellRung_9 : decode cX4_tellRung 9 = .ok (.ireturn, 1) := by decide +kernel
theorem dX4_tellRung_10 : decode cX4_tellRung 10 = .ok (.aload_n 0, 1) := by decide +kernel
theorem dX4_tellRung_11 : decode cX4_tellRung 11 = .ok (.getfield 43, 3) := by decide +kernel
theorem dX4_tellRung_14 : decode cX4_tellRung 14 = .ok (.invokevirtual 198, 3) := by decide +kernel
theorem dX4_tellRung_17 : decode cX4_tellRung 17 = .ok (.aload_n 0, 1) := by decide +kernel
theorem dX4_tellRung_18 : decode cX4_tellRung 18 = .ok (.getfield 43, 3) := by decide +kernel
theorem dX4_tellRung_21 : decode cX4_tellRung 21 = .ok (.iload_n 1, 1) := by decide +kernel
theorem dX4_tellRung_22 : decode cX4_tellRung 22 = .ok (.invokevirtual 209, 3) := by decide +kernel
theorem dX4_tellRung_25 : decode cX4_tellRung 25 = .ok (.aload_n 0, 1) := by decide +kernel
theorem dX4_tellRung_26 : decode cX4_tellRung 26 = .ok (.getfield 43, 3) := by decide +kernel
theorem dX4_tellRung_29 : decode cX4_tellRung 29 = .ok (.bipush 58, 2) := by decide +kernel
theorem dX4_tellRung_31 : decode cX4_tellRung 31 = .ok (.invokevirtual 199, 3) := by decide +kernel
theorem dX4_tellRung_34 : decode cX4_tellRung 34 = .ok (.aload_n 0, 1) := by decide +kernel
theorem dX4_tellRung_35 : decode cX4_tellRung 35 = .ok (.getfield 43, 3) := by decide +kernel
theorem dX4_tellRung_38 : decode cX4_tellRung 38 = .ok (.iload_n 1, 1) := by decide +kernel
theorem dX4_tellRung_39 : decode cX4_tellRung 39 = .ok (.invokestatic 126, 3) := by decide +kernel
theorem dX4_tellRung_42 : decode cX4_tellRung 42 = .ok (.invokevirtual 209, 3) := by decide +kernel
theorem dX4_tellRung_45 : decode cX4_tellRung 45 = .ok (.aload_n 0, 1) := by decide +kernel
theorem dX4_tellRung_46 : decode cX4_tellRung 46 = .ok (.getfield 43, 3) := by decide +kernel
theorem dX4_tellRung_49 : decode cX4_tellRung 49 = .ok (.bipush 45, 2) := by decide +kernel
theorem dX4_tellRung_51 : decode cX4_tellRung 51 = .ok (.invokevirtual 199, 3) := by decide +kernel
theorem dX4_tellRung_54 : decode cX4_tellRung 54 = .ok (.aload_n 0, 1) := by decide +kernel
theorem dX4_tellRung_55 : decode cX4_tellRung 55 = .ok (.getfield 43, 3) := by decide +kernel
theorem dX4_tellRung_58 : decode cX4_tellRung 58 = .ok (.iload_n 1, 1) := by decide +kernel
theorem dX4_tellRung_59 : decode cX4_tellRung 59 = .ok (.iconst 1, 1) := by decide +kernel
theorem dX4_tellRung_60 : decode cX4_tellRung 60 = .ok (.isub, 1) := by decide +kernel
theorem dX4_tellRung_61 : decode cX4_tellRung 61 = .ok (.invokevirtual 209, 3) := by decide +kernel
theorem dX4_tellRung_64 : decode cX4_tellRung 64 = .ok (.aload_n 0, 1) := by decide +kernel
theorem dX4_tellRung_65 : decode cX4_tellRung 65 = .ok (.getfield 43, 3) := by decide +kernel
theorem dX4_tellRung_68 : decode cX4_tellRung 68 = .ok (.bipush 61, 2) := by decide +kernel
theorem dX4_tellRung_70 : decode cX4_tellRung 70 = .ok (.invokevirtual 199, 3) := by decide +kernel
theorem dX4_tellRung_73 : decode cX4_tellRung 73 = .ok (.aload_n 0, 1) := by decide +kernel
theorem dX4_tellRung_74 : decode cX4_tellRung 74 = .ok (.getfield 43, 3) := by decide +kernel
theorem dX4_tellRung_77 : decode cX4_tellRung 77 = .ok (.aload_n 0, 1) := by decide +kernel
theorem dX4_tellRung_78 : decode cX4_tellRung 78 = .ok (.getfield 10, 3) := by decide +kernel
theorem dX4_tellRung_81 : decode cX4_tellRung 81 = .ok (.iload_n 1, 1) := by decide +kernel
theorem dX4_tellRung_82 : decode cX4_tellRung 82 = .ok (.invokevirtual 117, 3) := by decide +kernel
theorem dX4_tellRung_85 : decode cX4_tellRung 85 = .ok (.invokevirtual 209, 3) := by decide +kernel
theorem dX4_tellRung_88 : decode cX4_tellRung 88 = .ok (.aload_n 0, 1) := by decide +kernel
theorem dX4_tellRung_89 : decode cX4_tellRung 89 = .ok (.getfield 10, 3) := by decide +kernel
theorem dX4_tellRung_92 : decode cX4_tellRung 92 = .ok (.iload_n 1, 1) := by decide +kernel
theorem dX4_tellRung_93 : decode cX4_tellRung 93 = .ok (.invokevirtual 123, 3) := by decide +kernel
theorem dX4_tellRung_96 : decode cX4_tellRung 96 = .ok (.ifCond .eq 12, 3) := by decide +kernel
theorem dX4_tellRung_99 : decode cX4_tellRung 99 = .ok (.aload_n 0, 1) := by decide +kernel
theorem dX4_tellRung_100 : decode cX4_tellRung 100 = .ok (.getfield 43, 3) := by decide +kernel
theorem dX4_tellRung_103 : decode cX4_tellRung 103 = .ok (.bipush 33, 2) := by decide +kernel
theorem dX4_tellRung_105 : decode cX4_tellRung 105 = .ok (.invokevirtual 199, 3) := by decide +kernel
theorem dX4_tellRung_108 : decode cX4_tellRung 108 = .ok (.aload_n 0, 1) := by decide +kernel
theorem dX4_tellRung_109 : decode cX4_tellRung 109 = .ok (.getfield 43, 3) := by decide +kernel
theorem dX4_tellRung_112 : decode cX4_tellRung 112 = .ok (.invokevirtual 212, 3) := by decide +kernel
theorem dX4_tellRung_115 : decode cX4_tellRung 115 = .ok (.ireturn, 1) := by decide +kernel
theorem dX4_character_0 : decode cX4_character 0 = .ok (.aload_n 0, 1) := by decide +kernel
theorem dX4_character_1 : decode cX4_character 1 = .ok (.getfield 43, 3) := by decide +kernel
theorem dX4_character_4 : decode cX4_character 4 = .ok (.iload_n 1, 1) := by decide +kernel
theorem dX4_character_5 : decode cX4_character 5 = .ok (.invokevirtual 215, 3) := by decide +kernel
theorem dX4_character_8 : decode cX4_character 8 = .ok (.ireturn, 1) := by decide +kernel
theorem dX4_reason_0 : decode cX4_reason 0 = .ok (.aload_n 0, 1) := by decide +kernel
theorem dX4_reason_1 : decode cX4_reason 1 = .ok (.getfield 47, 3) := by decide +kernel
theorem dX4_reason_4 : decode cX4_reason 4 = .ok (.ifCond .ne 6, 3) := by decide +kernel
theorem dX4_reason_7 : decode cX4_reason 7 = .ok (.bipush (-15), 2) := by decide +kernel
theorem dX4_reason_9 : decode cX4_reason 9 = .ok (.ireturn, 1) := by decide +kernel
theorem dX4_reason_10 : decode cX4_reason 10 = .ok (.iload_n 1, 1) := by decide +kernel
theorem dX4_reason_11 : decode cX4_reason 11 = .ok (.ifCond .eq 10, 3) := by decide +kernel
theorem dX4_reason_14 : decode cX4_reason 14 = .ok (.aload_n 0, 1) := by decide +kernel
theorem dX4_reason_15 : decode cX4_reason 15 = .ok (.getfield 51, 3) := by decide +kernel
theorem dX4_reason_18 : decode cX4_reason 18 = .ok (.goto 7, 3) := by decide +kernel
theorem dX4_reason_21 : decode cX4_reason 21 = .ok (.aload_n 0, 1) := by decide +kernel
theorem dX4_reason_22 : decode cX4_reason 22 = .ok (.getfield 47, 3) := by decide +kernel
theorem dX4_reason_25 : decode cX4_reason 25 = .ok (.ireturn, 1) := by decide +kernel
theorem dX4_account_0 : decode cX4_account 0 = .ok (.iload_n 1, 1) := by decide +kernel
theorem dX4_account_1 : decode cX4_account 1 = .ok (.tableswitch 130 2 17 #[79, 87, 95, 95, 95, 95, 130, 130, 130, 130, 130, 106, 130, 130, 114, 122], 79) := by decide +kernel
theorem dX4_account_80 : decode cX4_account 80 = .ok (.aload_n 0, 1) := by decide +kernel
theorem dX4_account_81 : decode cX4_account 81 = .ok (.getfield 10, 3) := by decide +kernel
theorem dX4_account_84 : decode cX4_account 84 = .ok (.invokevirtual 218, 3) := by decide +kernel
theorem dX4_account_87 : decode cX4_account 87 = .ok (.ireturn, 1) := by decide +kernel
theorem dX4_account_88 : decode cX4_account 88 = .ok (.aload_n 0, 1) := by decide +kernel
theorem dX4_account_89 : decode cX4_account 89 = .ok (.getfield 10, 3) := by decide +kernel
theorem dX4_account_92 : decode cX4_account 92 = .ok (.invokevirtual 221, 3) := by decide +kernel
theorem dX4_account_95 : decode cX4_account 95 = .ok (.ireturn, 1) := by decide +kernel
theorem dX4_account_96 : decode cX4_account 96 = .ok (.aload_n 0, 1) := by decide +kernel
theorem dX4_account_97 : decode cX4_account 97 = .ok (.getfield 10, 3) := by decide +kernel
theorem dX4_account_100 : decode cX4_account 100 = .ok (.iload_n 1, 1) := by decide +kernel
theorem dX4_account_101 : decode cX4_account 101 = .ok (.iconst 4, 1) := by decide +kernel
theorem dX4_account_102 : decode cX4_account 102 = .ok (.isub, 1) := by decide +kernel
theorem dX4_account_103 : decode cX4_account 103 = .ok (.invokevirtual 224, 3) := by decide +kernel
theorem dX4_account_106 : decode cX4_account 106 = .ok (.ireturn, 1) := by decide +kernel
theorem dX4_account_107 : decode cX4_account 107 = .ok (.aload_n 0, 1) := by decide +kernel
theorem dX4_account_108 : decode cX4_account 108 = .ok (.getfield 10, 3) := by decide +kernel
theorem dX4_account_111 : decode cX4_account 111 = .ok (.invokevirtual 227, 3) := by decide +kernel
theorem dX4_account_114 : decode cX4_account 114 = .ok (.ireturn, 1) := by decide +kernel
theorem dX4_account_115 : decode cX4_account 115 = .ok (.aload_n 0, 1) := by decide +kernel
theorem dX4_account_116 : decode cX4_account 116 = .ok (.getfield 36, 3) := by decide +kernel
theorem dX4_account_119 : decode cX4_account 119 = .ok (.invokevirtual 230, 3) := by decide +kernel
theorem dX4_account_122 : decode cX4_account 122 = .ok (.ireturn, 1) := by decide +kernel
theorem dX4_account_123 : decode cX4_account 123 = .ok (.aload_n 0, 1) := by decide +kernel
theorem dX4_account_124 : decode cX4_account 124 = .ok (.getfield 29, 3) := by decide +kernel
theorem dX4_account_127 : decode cX4_account 127 = .ok (.invokevirtual 231, 3) := by decide +kernel
theorem dX4_account_130 : decode cX4_account 130 = .ok (.ireturn, 1) := by decide +kernel
theorem dX4_account_131 : decode cX4_account 131 = .ok (.iload_n 1, 1) := by decide +kernel
theorem dX4_account_132 : decode cX4_account 132 = .ok (.iconst 0, 1) := by decide +kernel
theorem dX4_account_133 : decode cX4_account 133 = .ok (.bipush 15, 2) := by decide +kernel
theorem dX4_account_135 : decode cX4_account 135 = .ok (.invokestatic 138, 3) := by decide +kernel
theorem dX4_account_138 : decode cX4_account 138 = .ok (.ifCond .eq 14, 3) := by decide +kernel
theorem dX4_account_141 : decode cX4_account 141 = .ok (.aload_n 0, 1) := by decide +kernel
theorem dX4_account_142 : decode cX4_account 142 = .ok (.getfield 10, 3) := by decide +kernel
theorem dX4_account_145 : decode cX4_account 145 = .ok (.iload_n 1, 1) := by decide +kernel
theorem dX4_account_146 : decode cX4_account 146 = .ok (.invokevirtual 232, 3) := by decide +kernel
theorem dX4_account_149 : decode cX4_account 149 = .ok (.goto 5, 3) := by decide +kernel
theorem dX4_account_152 : decode cX4_account 152 = .ok (.bipush (-12), 2) := by decide +kernel
theorem dX4_account_154 : decode cX4_account 154 = .ok (.ireturn, 1) := by decide +kernel
theorem dX4_isBalanced_0 : decode cX4_isBalanced 0 = .ok (.iconst 1, 1) := by decide +kernel
theorem dX4_isBalanced_1 : decode cX4_isBalanced 1 = .ok (.istore_n 1, 1) := by decide +kernel
theorem dX4_isBalanced_2 : decode cX4_isBalanced 2 = .ok (.iload_n 1, 1) := by decide +kernel
theorem dX4_isBalanced_3 : decode cX4_isBalanced 3 = .ok (.bipush 32, 2) := by decide +kernel
theorem dX4_isBalanced_5 : decode cX4_isBalanced 5 = .ok (.if_icmp .gt 36, 3) := by decide +kernel
theorem dX4_isBalanced_8 : decode cX4_isBalanced 8 = .ok (.aload_n 0, 1) := by decide +kernel
theorem dX4_isBalanced_9 : decode cX4_isBalanced 9 = .ok (.getfield 10, 3) := by decide +kernel
theorem dX4_isBalanced_12 : decode cX4_isBalanced 12 = .ok (.iload_n 1, 1) := by decide +kernel
theorem dX4_isBalanced_13 : decode cX4_isBalanced 13 = .ok (.invokevirtual 117, 3) := by decide +kernel
theorem dX4_isBalanced_16 : decode cX4_isBalanced 16 = .ok (.aload_n 0, 1) := by decide +kernel
theorem dX4_isBalanced_17 : decode cX4_isBalanced 17 = .ok (.getfield 10, 3) := by decide +kernel
theorem dX4_isBalanced_20 : decode cX4_isBalanced 20 = .ok (.iload_n 1, 1) := by decide +kernel
theorem dX4_isBalanced_21 : decode cX4_isBalanced 21 = .ok (.invokestatic 126, 3) := by decide +kernel
theorem dX4_isBalanced_24 : decode cX4_isBalanced 24 = .ok (.iload_n 1, 1) := by decide +kernel
theorem dX4_isBalanced_25 : decode cX4_isBalanced 25 = .ok (.iconst 1, 1) := by decide +kernel
theorem dX4_isBalanced_26 : decode cX4_isBalanced 26 = .ok (.isub, 1) := by decide +kernel
theorem dX4_isBalanced_27 : decode cX4_isBalanced 27 = .ok (.invokevirtual 135, 3) := by decide +kernel
theorem dX4_isBalanced_30 : decode cX4_isBalanced 30 = .ok (.if_icmp .eq 5, 3) := by decide +kernel
theorem dX4_isBalanced_33 : decode cX4_isBalanced 33 = .ok (.iconst 0, 1) := by decide +kernel
theorem dX4_isBalanced_34 : decode cX4_isBalanced 34 = .ok (.ireturn, 1) := by decide +kernel
theorem dX4_isBalanced_35 : decode cX4_isBalanced 35 = .ok (.iinc 1 1, 3) := by decide +kernel
theorem dX4_isBalanced_38 : decode cX4_isBalanced 38 = .ok (.goto (-36), 3) := by decide +kernel
theorem dX4_isBalanced_41 : decode cX4_isBalanced 41 = .ok (.aload_n 0, 1) := by decide +kernel
theorem dX4_isBalanced_42 : decode cX4_isBalanced 42 = .ok (.getfield 10, 3) := by decide +kernel
theorem dX4_isBalanced_45 : decode cX4_isBalanced 45 = .ok (.bipush 9, 2) := by decide +kernel
theorem dX4_isBalanced_47 : decode cX4_isBalanced 47 = .ok (.invokevirtual 232, 3) := by decide +kernel
theorem dX4_isBalanced_50 : decode cX4_isBalanced 50 = .ok (.aload_n 0, 1) := by decide +kernel
theorem dX4_isBalanced_51 : decode cX4_isBalanced 51 = .ok (.getfield 10, 3) := by decide +kernel
theorem dX4_isBalanced_54 : decode cX4_isBalanced 54 = .ok (.bipush 10, 2) := by decide +kernel
theorem dX4_isBalanced_56 : decode cX4_isBalanced 56 = .ok (.invokevirtual 232, 3) := by decide +kernel
theorem dX4_isBalanced_59 : decode cX4_isBalanced 59 = .ok (.iadd, 1) := by decide +kernel
theorem dX4_isBalanced_60 : decode cX4_isBalanced 60 = .ok (.aload_n 0, 1) := by decide +kernel
theorem dX4_isBalanced_61 : decode cX4_isBalanced 61 = .ok (.getfield 10, 3) := by decide +kernel
theorem dX4_isBalanced_64 : decode cX4_isBalanced 64 = .ok (.bipush 11, 2) := by decide +kernel
theorem dX4_isBalanced_66 : decode cX4_isBalanced 66 = .ok (.invokevirtual 232, 3) := by decide +kernel
theorem dX4_isBalanced_69 : decode cX4_isBalanced 69 = .ok (.iadd, 1) := by decide +kernel
theorem dX4_isBalanced_70 : decode cX4_isBalanced 70 = .ok (.istore_n 1, 1) := by decide +kernel
theorem dX4_isBalanced_71 : decode cX4_isBalanced 71 = .ok (.aload_n 0, 1) := by decide +kernel
theorem dX4_isBalanced_72 : decode cX4_isBalanced 72 = .ok (.getfield 10, 3) := by decide +kernel
theorem dX4_isBalanced_75 : decode cX4_isBalanced 75 = .ok (.invokevirtual 221, 3) := by decide +kernel
theorem dX4_isBalanced_78 : decode cX4_isBalanced 78 = .ok (.aload_n 0, 1) := by decide +kernel
theorem dX4_isBalanced_79 : decode cX4_isBalanced 79 = .ok (.getfield 10, 3) := by decide +kernel
theorem dX4_isBalanced_82 : decode cX4_isBalanced 82 = .ok (.bipush 8, 2) := by decide +kernel
theorem dX4_isBalanced_84 : decode cX4_isBalanced 84 = .ok (.invokevirtual 232, 3) := by decide +kernel
theorem dX4_isBalanced_87 : decode cX4_isBalanced 87 = .ok (.iload_n 1, 1) := by decide +kernel
theorem dX4_isBalanced_88 : decode cX4_isBalanced 88 = .ok (.isub, 1) := by decide +kernel
theorem dX4_isBalanced_89 : decode cX4_isBalanced 89 = .ok (.if_icmp .ne 7, 3) := by decide +kernel
theorem dX4_isBalanced_92 : decode cX4_isBalanced 92 = .ok (.iconst 1, 1) := by decide +kernel
theorem dX4_isBalanced_93 : decode cX4_isBalanced 93 = .ok (.goto 4, 3) := by decide +kernel
theorem dX4_isBalanced_96 : decode cX4_isBalanced 96 = .ok (.iconst 0, 1) := by decide +kernel
theorem dX4_isBalanced_97 : decode cX4_isBalanced 97 = .ok (.ireturn, 1) := by decide +kernel
theorem dX4_meanSacks_0 : decode cX4_meanSacks 0 = .ok (.aload_n 0, 1) := by decide +kernel
theorem dX4_meanSacks_1 : decode cX4_meanSacks 1 = .ok (.getfield 10, 3) := by decide +kernel
theorem dX4_meanSacks_4 : decode cX4_meanSacks 4 = .ok (.invokevirtual 218, 3) := by decide +kernel
theorem dX4_meanSacks_7 : decode cX4_meanSacks 7 = .ok (.istore_n 1, 1) := by decide +kernel
theorem dX4_meanSacks_8 : decode cX4_meanSacks 8 = .ok (.iload_n 1, 1) := by decide +kernel
theorem dX4_meanSacks_9 : decode cX4_meanSacks 9 = .ok (.ifCond .ne 5, 3) := by decide +kernel
theorem dX4_meanSacks_12 : decode cX4_meanSacks 12 = .ok (.dconst 0, 1) := by decide +kernel
theorem dX4_meanSacks_13 : decode cX4_meanSacks 13 = .ok (.dreturn, 1) := by decide +kernel
theorem dX4_meanSacks_14 : decode cX4_meanSacks 14 = .ok (.aload_n 0, 1) := by decide +kernel
theorem dX4_meanSacks_15 : decode cX4_meanSacks 15 = .ok (.getfield 10, 3) := by decide +kernel
theorem dX4_meanSacks_18 : decode cX4_meanSacks 18 = .ok (.invokevirtual 221, 3) := by decide +kernel
theorem dX4_meanSacks_21 : decode cX4_meanSacks 21 = .ok (.i2d, 1) := by decide +kernel
theorem dX4_meanSacks_22 : decode cX4_meanSacks 22 = .ok (.iload_n 1, 1) := by decide +kernel
theorem dX4_meanSacks_23 : decode cX4_meanSacks 23 = .ok (.i2d, 1) := by decide +kernel
theorem dX4_meanSacks_24 : decode cX4_meanSacks 24 = .ok (.ddiv, 1) := by decide +kernel
theorem dX4_meanSacks_25 : decode cX4_meanSacks 25 = .ok (.dreturn, 1) := by decide +kernel
theorem dX4_soundShare_0 : decode cX4_soundShare 0 = .ok (.bipush 32, 2) := by decide +kernel
theorem dX4_soundShare_2 : decode cX4_soundShare 2 = .ok (.aload_n 0, 1) := by decide +kernel
theorem dX4_soundShare_3 : decode cX4_soundShare 3 = .ok (.getfield 10, 3) := by decide +kernel
theorem dX4_soundShare_6 : decode cX4_soundShare 6 = .ok (.invokevirtual 227, 3) := by decide +kernel
theorem dX4_soundShare_9 : decode cX4_soundShare 9 = .ok (.isub, 1) := by decide +kernel
theorem dX4_soundShare_10 : decode cX4_soundShare 10 = .ok (.i2f, 1) := by decide +kernel
theorem dX4_soundShare_11 : decode cX4_soundShare 11 = .ok (.ldc 235, 2) := by decide +kernel
theorem dX4_soundShare_13 : decode cX4_soundShare 13 = .ok (.fdiv, 1) := by decide +kernel
theorem dX4_soundShare_14 : decode cX4_soundShare 14 = .ok (.freturn, 1) := by decide +kernel
theorem dX4_undo_0 : decode cX4_undo 0 = .ok (.aload_n 0, 1) := by decide +kernel
theorem dX4_undo_1 : decode cX4_undo 1 = .ok (.getfield 29, 3) := by decide +kernel
theorem dX4_undo_4 : decode cX4_undo 4 = .ok (.invokevirtual 231, 3) := by decide +kernel
theorem dX4_undo_7 : decode cX4_undo 7 = .ok (.ifCond .ne 6, 3) := by decide +kernel
theorem dX4_undo_10 : decode cX4_undo 10 = .ok (.bipush (-15), 2) := by decide +kernel
theorem dX4_undo_12 : decode cX4_undo 12 = .ok (.ireturn, 1) := by decide +kernel
theorem dX4_undo_13 : decode cX4_undo 13 = .ok (.aload_n 0, 1) := by decide +kernel
theorem dX4_undo_14 : decode cX4_undo 14 = .ok (.getfield 29, 3) := by decide +kernel
theorem dX4_undo_17 : decode cX4_undo 17 = .ok (.aload_n 0, 1) := by decide +kernel
theorem dX4_undo_18 : decode cX4_undo 18 = .ok (.getfield 10, 3) := by decide +kernel
theorem dX4_undo_21 : decode cX4_undo 21 = .ok (.invokevirtual 236, 3) := by decide +kernel
theorem dX4_undo_24 : decode cX4_undo 24 = .ok (.aload_n 0, 1) := by decide +kernel
theorem dX4_undo_25 : decode cX4_undo 25 = .ok (.getfield 29, 3) := by decide +kernel
theorem dX4_undo_28 : decode cX4_undo 28 = .ok (.invokevirtual 231, 3) := by decide +kernel
theorem dX4_undo_31 : decode cX4_undo 31 = .ok (.ireturn, 1) := by decide +kernel
theorem dX4_save_0 : decode cX4_save 0 = .ok (.aload_n 0, 1) := by decide +kernel
theorem dX4_save_1 : decode cX4_save 1 = .ok (.getfield 19, 3) := by decide +kernel
theorem dX4_save_4 : decode cX4_save 4 = .ok (.aload_n 0, 1) := by decide +kernel
theorem dX4_save_5 : decode cX4_save 5 = .ok (.getfield 10, 3) := by decide +kernel
theorem dX4_save_8 : decode cX4_save 8 = .ok (.invokevirtual 58, 3) := by decide +kernel
theorem dX4_save_11 : decode cX4_save 11 = .ok (.aload_n 0, 1) := by decide +kernel
theorem dX4_save_12 : decode cX4_save 12 = .ok (.iconst 1, 1) := by decide +kernel
theorem dX4_save_13 : decode cX4_save 13 = .ok (.putfield 22, 3) := by decide +kernel
theorem dX4_save_16 : decode cX4_save 16 = .ok (.aload_n 0, 1) := by decide +kernel
theorem dX4_save_17 : decode cX4_save 17 = .ok (.getfield 10, 3) := by decide +kernel
theorem dX4_save_20 : decode cX4_save 20 = .ok (.invokevirtual 221, 3) := by decide +kernel
theorem dX4_save_23 : decode cX4_save 23 = .ok (.ireturn, 1) := by decide +kernel
theorem dX4_restore_0 : decode cX4_restore 0 = .ok (.aload_n 0, 1) := by decide +kernel
theorem dX4_restore_1 : decode cX4_restore 1 = .ok (.getfield 22, 3) := by decide +kernel
theorem dX4_restore_4 : decode cX4_restore 4 = .ok (.ifCond .ne 6, 3) := by decide +kernel
theorem dX4_restore_7 : decode cX4_restore 7 = .ok (.bipush (-15), 2) := by decide +kernel
theorem dX4_restore_9 : decode cX4_restore 9 = .ok (.ireturn, 1) := by decide +kernel
theorem dX4_restore_10 : decode cX4_restore 10 = .ok (.aload_n 0, 1) := by decide +kernel
theorem dX4_restore_11 : decode cX4_restore 11 = .ok (.getfield 10, 3) := by decide +kernel
theorem dX4_restore_14 : decode cX4_restore 14 = .ok (.aload_n 0, 1) := by decide +kernel
theorem dX4_restore_15 : decode cX4_restore 15 = .ok (.getfield 19, 3) := by decide +kernel
theorem dX4_restore_18 : decode cX4_restore 18 = .ok (.invokevirtual 58, 3) := by decide +kernel
theorem dX4_restore_21 : decode cX4_restore 21 = .ok (.aload_n 0, 1) := by decide +kernel
theorem dX4_restore_22 : decode cX4_restore 22 = .ok (.getfield 29, 3) := by decide +kernel
theorem dX4_restore_25 : decode cX4_restore 25 = .ok (.invokevirtual 239, 3) := by decide +kernel
theorem dX4_restore_28 : decode cX4_restore 28 = .ok (.aload_n 0, 1) := by decide +kernel
theorem dX4_restore_29 : decode cX4_restore 29 = .ok (.getfield 10, 3) := by decide +kernel
theorem dX4_restore_32 : decode cX4_restore 32 = .ok (.invokevirtual 221, 3) := by decide +kernel
theorem dX4_restore_35 : decode cX4_restore 35 = .ok (.ireturn, 1) := by decide +kernel
theorem dX4_storeSacks_0 : decode cX4_storeSacks 0 = .ok (.iload_n 1, 1) := by decide +kernel
theorem dX4_storeSacks_1 : decode cX4_storeSacks 1 = .ok (.invokestatic 86, 3) := by decide +kernel
theorem dX4_storeSacks_4 : decode cX4_storeSacks 4 = .ok (.ifCond .ne 6, 3) := by decide +kernel
theorem dX4_storeSacks_7 : decode cX4_storeSacks 7 = .ok (.bipush (-11), 2) := by decide +kernel
theorem dX4_storeSacks_9 : decode cX4_storeSacks 9 = .ok (.ireturn, 1) := by decide +kernel
theorem dX4_storeSacks_10 : decode cX4_storeSacks 10 = .ok (.iload_n 2, 1) := by decide +kernel
theorem dX4_storeSacks_11 : decode cX4_storeSacks 11 = .ok (.invokestatic 162, 3) := by decide +kernel
theorem dX4_storeSacks_14 : decode cX4_storeSacks 14 = .ok (.ifCond .eq 14, 3) := by decide +kernel
theorem dX4_storeSacks_17 : decode cX4_storeSacks 17 = .ok (.iload_n 3, 1) := by decide +kernel
theorem dX4_storeSacks_18 : decode cX4_storeSacks 18 = .ok (.iconst 1, 1) := by decide +kernel
theorem dX4_storeSacks_19 : decode cX4_storeSacks 19 = .ok (.sipush 200, 3) := by decide +kernel
theorem dX4_storeSacks_22 : decode cX4_storeSacks 22 = .ok (.invokestatic 138, 3) := by decide +kernel
theorem dX4_storeSacks_25 : decode cX4_storeSacks 25 = .ok (.ifCond .ne 6, 3) := by decide +kernel
theorem dX4_storeSacks_28 : decode cX4_storeSacks 28 = .ok (.bipush (-12), 2) := by decide +kernel
theorem dX4_storeSacks_30 : decode cX4_storeSacks 30 = .ok (.ireturn, 1) := by decide +kernel
theorem dX4_storeSacks_31 : decode cX4_storeSacks 31 = .ok (.aload_n 0, 1) := by decide +kernel
theorem dX4_storeSacks_32 : decode cX4_storeSacks 32 = .ok (.iload_n 1, 1) := by decide +kernel
theorem dX4_storeSacks_33 : decode cX4_storeSacks 33 = .ok (.iload_n 2, 1) := by decide +kernel
theorem dX4_storeSacks_34 : decode cX4_storeSacks 34 = .ok (.iload_n 3, 1) := by decide +kernel
theorem dX4_storeSacks_35 : decode cX4_storeSacks 35 = .ok (.invokevirtual 165, 3) := by decide +kernel
theorem dX4_storeSacks_38 : decode cX4_storeSacks 38 = .ok (.ifCond .ne 11, 3) := by decide +kernel
theorem dX4_storeSacks_41 : decode cX4_storeSacks 41 = .ok (.aload_n 0, 1) := by decide +kernel
theorem dX4_storeSacks_42 : decode cX4_storeSacks 42 = .ok (.iload_n 1, 1) := by decide +kernel
theorem dX4_storeSacks_43 : decode cX4_storeSacks 43 = .ok (.iload_n 2, 1) := by decide +kernel
theorem dX4_storeSacks_44 : decode cX4_storeSacks 44 = .ok (.iload_n 3, 1) := by decide +kernel
theorem dX4_storeSacks_45 : decode cX4_storeSacks 45 = .ok (.invokevirtual 242, 3) := by decide +kernel
theorem dX4_storeSacks_48 : decode cX4_storeSacks 48 = .ok (.ireturn, 1) := by decide +kernel
theorem dX4_storeSacks_49 : decode cX4_storeSacks 49 = .ok (.aload_n 0, 1) := by decide +kernel
theorem dX4_storeSacks_50 : decode cX4_storeSacks 50 = .ok (.getfield 10, 3) := by decide +kernel
theorem dX4_storeSacks_53 : decode cX4_storeSacks 53 = .ok (.bipush 8, 2) := by decide +kernel
theorem dX4_storeSacks_55 : decode cX4_storeSacks 55 = .ok (.iload_n 3, 1) := by decide +kernel
theorem dX4_storeSacks_56 : decode cX4_storeSacks 56 = .ok (.invokevirtual 245, 3) := by decide +kernel
theorem dX4_storeSacks_59 : decode cX4_storeSacks 59 = .ok (.aload_n 0, 1) := by decide +kernel
theorem dX4_storeSacks_60 : decode cX4_storeSacks 60 = .ok (.getfield 10, 3) := by decide +kernel
theorem dX4_storeSacks_63 : decode cX4_storeSacks 63 = .ok (.iload_n 1, 1) := by decide +kernel
theorem dX4_storeSacks_64 : decode cX4_storeSacks 64 = .ok (.iload_n 2, 1) := by decide +kernel
theorem dX4_storeSacks_65 : decode cX4_storeSacks 65 = .ok (.iload_n 3, 1) := by decide +kernel
theorem dX4_storeSacks_66 : decode cX4_storeSacks 66 = .ok (.aload_n 0, 1) := by decide +kernel
theorem dX4_storeSacks_67 : decode cX4_storeSacks 67 = .ok (.getfield 10, 3) := by decide +kernel
theorem dX4_storeSacks_70 : decode cX4_storeSacks 70 = .ok (.iload_n 1, 1) := by decide +kernel
theorem dX4_storeSacks_71 : decode cX4_storeSacks 71 = .ok (.invokevirtual 99, 3) := by decide +kernel
theorem dX4_storeSacks_74 : decode cX4_storeSacks 74 = .ok (.invokevirtual 249, 3) := by decide +kernel
theorem dX4_storeSacks_77 : decode cX4_storeSacks 77 = .ok (.ireturn, 1) := by decide +kernel
theorem dX4_takeSacks_0 : decode cX4_takeSacks 0 = .ok (.iload_n 1, 1) := by decide +kernel
theorem dX4_takeSacks_1 : decode cX4_takeSacks 1 = .ok (.invokestatic 86, 3) := by decide +kernel
theorem dX4_takeSacks_4 : decode cX4_takeSacks 4 = .ok (.ifCond .ne 6, 3) := by decide +kernel
theorem dX4_takeSacks_7 : decode cX4_takeSacks 7 = .ok (.bipush (-11), 2) := by decide +kernel
theorem dX4_takeSacks_9 : decode cX4_takeSacks 9 = .ok (.ireturn, 1) := by decide +kernel
theorem dX4_takeSacks_10 : decode cX4_takeSacks 10 = .ok (.iload_n 2, 1) := by decide +kernel
theorem dX4_takeSacks_11 : decode cX4_takeSacks 11 = .ok (.iconst 1, 1) := by decide +kernel
theorem dX4_takeSacks_12 : decode cX4_takeSacks 12 = .ok (.sipush 200, 3) := by decide +kernel
theorem dX4_takeSacks_15 : decode cX4_takeSacks 15 = .ok (.invokestatic 138, 3) := by decide +kernel
theorem dX4_takeSacks_18 : decode cX4_takeSacks 18 = .ok (.ifCond .ne 6, 3) := by decide +kernel
theorem dX4_takeSacks_21 : decode cX4_takeSacks 21 = .ok (.bipush (-12), 2) := by decide +kernel
theorem dX4_takeSacks_23 : decode cX4_takeSacks 23 = .ok (.ireturn, 1) := by decide +kernel
theorem dX4_takeSacks_24 : decode cX4_takeSacks 24 = .ok (.aload_n 0, 1) := by decide +kernel
theorem dX4_takeSacks_25 : decode cX4_takeSacks 25 = .ok (.iload_n 1, 1) := by decide +kernel
theorem dX4_takeSacks_26 : decode cX4_takeSacks 26 = .ok (.iload_n 2, 1) := by decide +kernel
theorem dX4_takeSacks_27 : decode cX4_takeSacks 27 = .ok (.invokevirtual 253, 3) := by decide +kernel
theorem dX4_takeSacks_30 : decode cX4_takeSacks 30 = .ok (.ifCond .ne 9, 3) := by decide +kernel
theorem dX4_takeSacks_33 : decode cX4_takeSacks 33 = .ok (.aload_n 0, 1) := by decide +kernel
theorem dX4_takeSacks_34 : decode cX4_takeSacks 34 = .ok (.iload_n 1, 1) := by decide +kernel
theorem dX4_takeSacks_35 : decode cX4_takeSacks 35 = .ok (.invokevirtual 256, 3) := by decide +kernel
theorem dX4_takeSacks_38 : decode cX4_takeSacks 38 = .ok (.ireturn, 1) := by decide +kernel
theorem dX4_takeSacks_39 : decode cX4_takeSacks 39 = .ok (.aload_n 0, 1) := by decide +kernel
theorem dX4_takeSacks_40 : decode cX4_takeSacks 40 = .ok (.getfield 10, 3) := by decide +kernel
theorem dX4_takeSacks_43 : decode cX4_takeSacks 43 = .ok (.iload_n 1, 1) := by decide +kernel
theorem dX4_takeSacks_44 : decode cX4_takeSacks 44 = .ok (.iload_n 2, 1) := by decide +kernel
theorem dX4_takeSacks_45 : decode cX4_takeSacks 45 = .ok (.invokevirtual 259, 3) := by decide +kernel
theorem dX4_takeSacks_48 : decode cX4_takeSacks 48 = .ok (.aload_n 0, 1) := by decide +kernel
theorem dX4_takeSacks_49 : decode cX4_takeSacks 49 = .ok (.getfield 10, 3) := by decide +kernel
theorem dX4_takeSacks_52 : decode cX4_takeSacks 52 = .ok (.bipush 9, 2) := by decide +kernel
theorem dX4_takeSacks_54 : decode cX4_takeSacks 54 = .ok (.iload_n 2, 1) := by decide +kernel
theorem dX4_takeSacks_55 : decode cX4_takeSacks 55 = .ok (.invokevirtual 245, 3) := by decide +kernel
theorem dX4_takeSacks_58 : decode cX4_takeSacks 58 = .ok (.aload_n 0, 1) := by decide +kernel
theorem dX4_takeSacks_59 : decode cX4_takeSacks 59 = .ok (.getfield 10, 3) := by decide +kernel
theorem dX4_takeSacks_62 : decode cX4_takeSacks 62 = .ok (.iload_n 1, 1) := by decide +kernel
theorem dX4_takeSacks_63 : decode cX4_takeSacks 63 = .ok (.invokevirtual 96, 3) := by decide +kernel
theorem dX4_takeSacks_66 : decode cX4_takeSacks 66 = .ok (.ireturn, 1) := by decide +kernel
theorem dX4_moveSacks_0 : decode cX4_moveSacks 0 = .ok (.iload_n 1, 1) := by decide +kernel
theorem dX4_moveSacks_1 : decode cX4_moveSacks 1 = .ok (.invokestatic 86, 3) := by decide +kernel
theorem dX4_moveSacks_4 : decode cX4_moveSacks 4 = .ok (.ifCond .eq 10, 3) := by decide +kernel
theorem dX4_moveSacks_7 : decode cX4_moveSacks 7 = .ok (.iload_n 2, 1) := by decide +kernel
theorem dX4_moveSacks_8 : decode cX4_moveSacks 8 = .ok (.invokestatic 86, 3) := by decide +kernel
theorem dX4_moveSacks_11 : decode cX4_moveSacks 11 = .ok (.ifCond .ne 6, 3) := by decide +kernel
theorem dX4_moveSacks_14 : decode cX4_moveSacks 14 = .ok (.bipush (-11), 2) := by decide +kernel
theorem dX4_moveSacks_16 : decode cX4_moveSacks 16 = .ok (.ireturn, 1) := by decide +kernel
theorem dX4_moveSacks_17 : decode cX4_moveSacks 17 = .ok (.iload_n 3, 1) := by decide +kernel
theorem dX4_moveSacks_18 : decode cX4_moveSacks 18 = .ok (.iconst 1, 1) := by decide +kernel
theorem dX4_moveSacks_19 : decode cX4_moveSacks 19 = .ok (.sipush 200, 3) := by decide +kernel
theorem dX4_moveSacks_22 : decode cX4_moveSacks 22 = .ok (.invokestatic 138, 3) := by decide +kernel
theorem dX4_moveSacks_25 : decode cX4_moveSacks 25 = .ok (.ifCond .ne 6, 3) := by decide +kernel
theorem dX4_moveSacks_28 : decode cX4_moveSacks 28 = .ok (.bipush (-12), 2) := by decide +kernel
theorem dX4_moveSacks_30 : decode cX4_moveSacks 30 = .ok (.ireturn, 1) := by decide +kernel
theorem dX4_moveSacks_31 : decode cX4_moveSacks 31 = .ok (.iload_n 1, 1) := by decide +kernel
theorem dX4_moveSacks_32 : decode cX4_moveSacks 32 = .ok (.iload_n 2, 1) := by decide +kernel
theorem dX4_moveSacks_33 : decode cX4_moveSacks 33 = .ok (.if_icmp .ne 10, 3) := by decide +kernel
theorem dX4_moveSacks_36 : decode cX4_moveSacks 36 = .ok (.aload_n 0, 1) := by decide +kernel
theorem dX4_moveSacks_37 : decode cX4_moveSacks 37 = .ok (.iconst 4, 1) := by decide +kernel
theorem dX4_moveSacks_38 : decode cX4_moveSacks 38 = .ok (.iload_n 1, 1) := by decide +kernel
theorem dX4_moveSacks_39 : decode cX4_moveSacks 39 = .ok (.invokevirtual 195, 3) := by decide +kernel
theorem dX4_moveSacks_42 : decode cX4_moveSacks 42 = .ok (.ireturn, 1) := by decide +kernel
theorem dX4_moveSacks_43 : decode cX4_moveSacks 43 = .ok (.aload_n 0, 1) := by decide +kernel
theorem dX4_moveSacks_44 : decode cX4_moveSacks 44 = .ok (.iload_n 1, 1) := by decide +kernel
theorem dX4_moveSacks_45 : decode cX4_moveSacks 45 = .ok (.iload_n 3, 1) := by decide +kernel
theorem dX4_moveSacks_46 : decode cX4_moveSacks 46 = .ok (.invokevirtual 253, 3) := by decide +kernel
theorem dX4_moveSacks_49 : decode cX4_moveSacks 49 = .ok (.ifCond .ne 9, 3) := by decide +kernel
theorem dX4_moveSacks_52 : decode cX4_moveSacks 52 = .ok (.aload_n 0, 1) := by decide +kernel
theorem dX4_moveSacks_53 : decode cX4_moveSacks 53 = .ok (.iload_n 1, 1) := by decide +kernel
theorem dX4_moveSacks_54 : decode cX4_moveSacks 54 = .ok (.invokevirtual 256, 3) := by decide +kernel
theorem dX4_moveSacks_57 : decode cX4_moveSacks 57 = .ok (.ireturn, 1) := by decide +kernel
theorem dX4_moveSacks_58 : decode cX4_moveSacks 58 = .ok (.aload_n 0, 1) := by decide +kernel
theorem dX4_moveSacks_59 : decode cX4_moveSacks 59 = .ok (.getfield 10, 3) := by decide +kernel
theorem dX4_moveSacks_62 : decode cX4_moveSacks 62 = .ok (.iload_n 1, 1) := by decide +kernel
theorem dX4_moveSacks_63 : decode cX4_moveSacks 63 = .ok (.invokevirtual 93, 3) := by decide +kernel
theorem dX4_moveSacks_66 : decode cX4_moveSacks 66 = .ok (.istore 4, 2) := by decide +kernel
theorem dX4_moveSacks_68 : decode cX4_moveSacks 68 = .ok (.aload_n 0, 1) := by decide +kernel
theorem dX4_moveSacks_69 : decode cX4_moveSacks 69 = .ok (.iload_n 2, 1) := by decide +kernel
theorem dX4_moveSacks_70 : decode cX4_moveSacks 70 = .ok (.iload 4, 2) := by decide +kernel
