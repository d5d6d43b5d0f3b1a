theorem dX0_init_0 : decode cX0_init 0 = .ok (.aload_n 0, 1) := by decide +kernel
theorem dX0_init_1 : decode cX0_init 1 = .ok (.invokespecial 3, 3) := by decide +kernel
theorem dX0_init_4 : decode cX0_init 4 = .ok (.aload_n 0, 1) := by decide +kernel
theorem dX0_init_5 : decode cX0_init 5 = .ok (.bipush 60, 2) := by decide +kernel
theorem dX0_init_7 : decode cX0_init 7 = .ok (.newarray .int, 2) := by decide +kernel
theorem dX0_init_9 : decode cX0_init 9 = .ok (.putfield 9, 3) := by decide +kernel
theorem dX0_init_12 : decode cX0_init 12 = .ok (.aload_n 0, 1) := by decide +kernel
theorem dX0_init_13 : decode cX0_init 13 = .ok (.iconst 0, 1) := by decide +kernel
theorem dX0_init_14 : decode cX0_init 14 = .ok (.putfield 15, 3) := by decide +kernel
theorem dX0_init_17 : decode cX0_init 17 = .ok (.aload_n 0, 1) := by decide +kernel
theorem dX0_init_18 : decode cX0_init 18 = .ok (.bipush 40, 2) := by decide +kernel
theorem dX0_init_20 : decode cX0_init 20 = .ok (.newarray .int, 2) := by decide +kernel
theorem dX0_init_22 : decode cX0_init 22 = .ok (.putfield 19, 3) := by decide +kernel
theorem dX0_init_25 : decode cX0_init 25 = .ok (.aload_n 0, 1) := by decide +kernel
theorem dX0_init_26 : decode cX0_init 26 = .ok (.iconst 0, 1) := by decide +kernel
theorem dX0_init_27 : decode cX0_init 27 = .ok (.putfield 22, 3) := by decide +kernel
theorem dX0_init_30 : decode cX0_init 30 = .ok (.aload_n 0, 1) := by decide +kernel
theorem dX0_init_31 : decode cX0_init 31 = .ok (.iconst 0, 1) := by decide +kernel
theorem dX0_init_32 : decode cX0_init 32 = .ok (.putfield 25, 3) := by decide +kernel
theorem dX0_init_35 : decode cX0_init 35 = .ok (.aload_n 0, 1) := by decide +kernel
theorem dX0_init_36 : decode cX0_init 36 = .ok (.iconst 0, 1) := by decide +kernel
theorem dX0_init_37 : decode cX0_init 37 = .ok (.putfield 28, 3) := by decide +kernel
theorem dX0_init_40 : decode cX0_init 40 = .ok (.return_, 1) := by decide +kernel
theorem dX0_size_0 : decode cX0_size 0 = .ok (.aload_n 0, 1) := by decide +kernel
theorem dX0_size_1 : decode cX0_size 1 = .ok (.getfield 15, 3) := by decide +kernel
theorem dX0_size_4 : decode cX0_size 4 = .ok (.ireturn, 1) := by decide +kernel
theorem dX0_addCode_0 : decode cX0_addCode 0 = .ok (.aload_n 0, 1) := by decide +kernel
theorem dX0_addCode_1 : decode cX0_addCode 1 = .ok (.getfield 15, 3) := by decide +kernel
theorem dX0_addCode_4 : decode cX0_addCode 4 = .ok (.bipush 60, 2) := by decide +kernel
theorem dX0_addCode_6 : decode cX0_addCode 6 = .ok (.if_icmp .lt 6, 3) := by decide +kernel
theorem dX0_addCode_9 : decode cX0_addCode 9 = .ok (.bipush (-13), 2) := by decide +kernel
theorem dX0_addCode_11 : decode cX0_addCode 11 = .ok (.ireturn, 1) := by decide +kernel
theorem dX0_addCode_12 : decode cX0_addCode 12 = .ok (.aload_n 0, 1) := by decide +kernel
theorem dX0_addCode_13 : decode cX0_addCode 13 = .ok (.getfield 9, 3) := by decide +kernel
theorem dX0_addCode_16 : decode cX0_addCode 16 = .ok (.aload_n 0, 1) := by decide +kernel
theorem dX0_addCode_17 : decode cX0_addCode 17 = .ok (.getfield 15, 3) := by decide +kernel
theorem dX0_addCode_20 : decode cX0_addCode 20 = .ok (.iload_n 1, 1) := by decide +kernel
theorem dX0_addCode_21 : decode cX0_addCode 21 = .ok (.invokestatic 31, 3) := by decide +kernel
theorem dX0_addCode_24 : decode cX0_addCode 24 = .ok (.aload_n 0, 1) := by decide +kernel
theorem dX0_addCode_25 : decode cX0_addCode 25 = .ok (.dup, 1) := by decide +kernel
theorem dX0_addCode_26 : decode cX0_addCode 26 = .ok (.getfield 15, 3) := by decide +kernel
theorem dX0_addCode_29 : decode cX0_addCode 29 = .ok (.iconst 1, 1) := by decide +kernel
theorem dX0_addCode_30 : decode cX0_addCode 30 = .ok (.iadd, 1) := by decide +kernel
theorem dX0_addCode_31 : decode cX0_addCode 31 = .ok (.putfield 15, 3) := by decide +kernel
theorem dX0_addCode_34 : decode cX0_addCode 34 = .ok (.aload_n 0, 1) := by decide +kernel
theorem dX0_addCode_35 : decode cX0_addCode 35 = .ok (.getfield 15, 3) := by decide +kernel
theorem dX0_addCode_38 : decode cX0_addCode 38 = .ok (.ireturn, 1) := by decide +kernel
theorem dX0_becomeEmpty_0 : decode cX0_becomeEmpty 0 = .ok (.aload_n 0, 1) := by decide +kernel
theorem dX0_becomeEmpty_1 : decode cX0_becomeEmpty 1 = .ok (.iconst 0, 1) := by decide +kernel
theorem dX0_becomeEmpty_2 : decode cX0_becomeEmpty 2 = .ok (.putfield 15, 3) := by decide +kernel
theorem dX0_becomeEmpty_5 : decode cX0_becomeEmpty 5 = .ok (.return_, 1) := by decide +kernel
theorem dX0_faultPosition_0 : decode cX0_faultPosition 0 = .ok (.aload_n 0, 1) := by decide +kernel
theorem dX0_faultPosition_1 : decode cX0_faultPosition 1 = .ok (.getfield 28, 3) := by decide +kernel
theorem dX0_faultPosition_4 : decode cX0_faultPosition 4 = .ok (.ireturn, 1) := by decide +kernel
theorem dX0_commandCount_0 : decode cX0_commandCount 0 = .ok (.aload_n 0, 1) := by decide +kernel
theorem dX0_commandCount_1 : decode cX0_commandCount 1 = .ok (.getfield 22, 3) := by decide +kernel
theorem dX0_commandCount_4 : decode cX0_commandCount 4 = .ok (.ireturn, 1) := by decide +kernel
theorem dX0_verb_0 : decode cX0_verb 0 = .ok (.aload_n 0, 1) := by decide +kernel
theorem dX0_verb_1 : decode cX0_verb 1 = .ok (.getfield 19, 3) := by decide +kernel
theorem dX0_verb_4 : decode cX0_verb 4 = .ok (.iload_n 1, 1) := by decide +kernel
theorem dX0_verb_5 : decode cX0_verb 5 = .ok (.iconst 4, 1) := by decide +kernel
theorem dX0_verb_6 : decode cX0_verb 6 = .ok (.imul, 1) := by decide +kernel
theorem dX0_verb_7 : decode cX0_verb 7 = .ok (.invokestatic 35, 3) := by decide +kernel
theorem dX0_verb_10 : decode cX0_verb 10 = .ok (.ireturn, 1) := by decide +kernel
theorem dX0_argument_0 : decode cX0_argument 0 = .ok (.aload_n 0, 1) := by decide +kernel
theorem dX0_argument_1 : decode cX0_argument 1 = .ok (.getfield 19, 3) := by decide +kernel
theorem dX0_argument_4 : decode cX0_argument 4 = .ok (.iload_n 1, 1) := by decide +kernel
theorem dX0_argument_5 : decode cX0_argument 5 = .ok (.iconst 4, 1) := by decide +kernel
theorem dX0_argument_6 : decode cX0_argument 6 = .ok (.imul, 1) := by decide +kernel
theorem dX0_argument_7 : decode cX0_argument 7 = .ok (.iload_n 2, 1) := by decide +kernel
theorem dX0_argument_8 : decode cX0_argument 8 = .ok (.iadd, 1) := by decide +kernel
theorem dX0_argument_9 : decode cX0_argument 9 = .ok (.invokestatic 35, 3) := by decide +kernel
theorem dX0_argument_12 : decode cX0_argument 12 = .ok (.ireturn, 1) := by decide +kernel
theorem dX0_readCommands_0 : decode cX0_readCommands 0 = .ok (.aload_n 0, 1) := by decide +kernel
theorem dX0_readCommands_1 : decode cX0_readCommands 1 = .ok (.iconst 0, 1) := by decide +kernel
theorem dX0_readCommands_2 : decode cX0_readCommands 2 = .ok (.putfield 28, 3) := by decide +kernel
theorem dX0_readCommands_5 : decode cX0_readCommands 5 = .ok (.aload_n 0, 1) := by decide +kernel
theorem dX0_readCommands_6 : decode cX0_readCommands 6 = .ok (.iconst 0, 1) := by decide +kernel
theorem dX0_readCommands_7 : decode cX0_readCommands 7 = .ok (.putfield 22, 3) := by decide +kernel
theorem dX0_readCommands_10 : decode cX0_readCommands 10 = .ok (.iconst 0, 1) := by decide +kernel
theorem dX0_readCommands_11 : decode cX0_readCommands 11 = .ok (.istore_n 1, 1) := by decide +kernel
theorem dX0_readCommands_12 : decode cX0_readCommands 12 = .ok (.iload_n 1, 1) := by decide +kernel
theorem dX0_readCommands_13 : decode cX0_readCommands 13 = .ok (.bipush 10, 2) := by decide +kernel
theorem dX0_readCommands_15 : decode cX0_readCommands 15 = .ok (.if_icmp .gt 42, 3) := by decide +kernel
theorem dX0_readCommands_18 : decode cX0_readCommands 18 = .ok (.aload_n 0, 1) := by decide +kernel
theorem dX0_readCommands_19 : decode cX0_readCommands 19 = .ok (.invokevirtual 39, 3) := by decide +kernel
theorem dX0_readCommands_22 : decode cX0_readCommands 22 = .ok (.ifCond .ne 5, 3) := by decide +kernel
theorem dX0_readCommands_25 : decode cX0_readCommands 25 = .ok (.iconst 0, 1) := by decide +kernel
theorem dX0_readCommands_26 : decode cX0_readCommands 26 = .ok (.ireturn, 1) := by decide +kernel
theorem dX0_readCommands_27 : decode cX0_readCommands 27 = .ok (.aload_n 0, 1) := by decide +kernel
theorem dX0_readCommands_28 : decode cX0_readCommands 28 = .ok (.getfield 28, 3) := by decide +kernel
theorem dX0_readCommands_31 : decode cX0_readCommands 31 = .ok (.aload_n 0, 1) := by decide +kernel
theorem dX0_readCommands_32 : decode cX0_readCommands 32 = .ok (.getfield 15, 3) := by decide +kernel
theorem dX0_readCommands_35 : decode cX0_readCommands 35 = .ok (.if_icmp .ne 5, 3) := by decide +kernel
theorem dX0_readCommands_38 : decode cX0_readCommands 38 = .ok (.iconst 1, 1) := by decide +kernel
theorem dX0_readCommands_39 : decode cX0_readCommands 39 = .ok (.ireturn, 1) := by decide +kernel
theorem dX0_readCommands_40 : decode cX0_readCommands 40 = .ok (.aload_n 0, 1) := by decide +kernel
theorem dX0_readCommands_41 : decode cX0_readCommands 41 = .ok (.bipush 59, 2) := by decide +kernel
theorem dX0_readCommands_43 : decode cX0_readCommands 43 = .ok (.invokevirtual 43, 3) := by decide +kernel
theorem dX0_readCommands_46 : decode cX0_readCommands 46 = .ok (.ifCond .ne 5, 3) := by decide +kernel
theorem dX0_readCommands_49 : decode cX0_readCommands 49 = .ok (.iconst 0, 1) := by decide +kernel
theorem dX0_readCommands_50 : decode cX0_readCommands 50 = .ok (.ireturn, 1) := by decide +kernel
theorem dX0_readCommands_51 : decode cX0_readCommands 51 = .ok (.iinc 1 1, 3) := by decide +kernel
theorem dX0_readCommands_54 : decode cX0_readCommands 54 = .ok (.goto (-42), 3) := by decide +kernel
theorem dX0_readCommands_57 : decode cX0_readCommands 57 = .ok (.iconst 0, 1) := by decide +kernel
theorem dX0_readCommands_58 : decode cX0_readCommands 58 = .ok (.ireturn, 1) := by decide +kernel
theorem dX0_readCommand_0 : decode cX0_readCommand 0 = .ok (.iconst 0, 1) := by decide +kernel
theorem dX0_readCommand_1 : decode cX0_readCommand 1 = .ok (.istore_n 1, 1) := by decide +kernel
theorem dX0_readCommand_2 : decode cX0_readCommand 2 = .ok (.iload_n 1, 1) := by decide +kernel
theorem dX0_readCommand_3 : decode cX0_readCommand 3 = .ok (.bipush 6, 2) := by decide +kernel
theorem dX0_readCommand_5 : decode cX0_readCommand 5 = .ok (.if_icmp .ge 64, 3) := by decide +kernel
theorem dX0_readCommand_8 : decode cX0_readCommand 8 = .ok (.iload_n 1, 1) := by decide +kernel
theorem dX0_readCommand_9 : decode cX0_readCommand 9 = .ok (.invokestatic 47, 3) := by decide +kernel
theorem dX0_readCommand_12 : decode cX0_readCommand 12 = .ok (.astore_n 2, 1) := by decide +kernel
theorem dX0_readCommand_13 : decode cX0_readCommand 13 = .ok (.aload_n 2, 1) := by decide +kernel
theorem dX0_readCommand_14 : decode cX0_readCommand 14 = .ok (.invokevirtual 51, 3) := by decide +kernel
theorem dX0_readCommand_17 : decode cX0_readCommand 17 = .ok (.ifCond .ne 46, 3) := by decide +kernel
theorem dX0_readCommand_20 : decode cX0_readCommand 20 = .ok (.aload_n 0, 1) := by decide +kernel
theorem dX0_readCommand_21 : decode cX0_readCommand 21 = .ok (.invokevirtual 56, 3) := by decide +kernel
theorem dX0_readCommand_24 : decode cX0_readCommand 24 = .ok (.aload_n 2, 1) := by decide +kernel
theorem dX0_readCommand_25 : decode cX0_readCommand 25 = .ok (.iconst 0, 1) := by decide +kernel
theorem dX0_readCommand_26 : decode cX0_readCommand 26 = .ok (.invokevirtual 60, 3) := by decide +kernel
theorem dX0_readCommand_29 : decode cX0_readCommand 29 = .ok (.if_icmp .ne 34, 3) := by decide +kernel
theorem dX0_readCommand_32 : decode cX0_readCommand 32 = .ok (.aload_n 0, 1) := by decide +kernel
theorem dX0_readCommand_33 : decode cX0_readCommand 33 = .ok (.aload_n 0, 1) := by decide +kernel
theorem dX0_readCommand_34 : decode cX0_readCommand 34 = .ok (.getfield 22, 3) := by decide +kernel
theorem dX0_readCommand_37 : decode cX0_readCommand 37 = .ok (.iconst 4, 1) := by decide +kernel
theorem dX0_readCommand_38 : decode cX0_readCommand 38 = .ok (.imul, 1) := by decide +kernel
theorem dX0_readCommand_39 : decode cX0_readCommand 39 = .ok (.putfield 25, 3) := by decide +kernel
theorem dX0_readCommand_42 : decode cX0_readCommand 42 = .ok (.aload_n 0, 1) := by decide +kernel
theorem dX0_readCommand_43 : decode cX0_readCommand 43 = .ok (.iload_n 1, 1) := by decide +kernel
theorem dX0_readCommand_44 : decode cX0_readCommand 44 = .ok (.invokevirtual 64, 3) := by decide +kernel
theorem dX0_readCommand_47 : decode cX0_readCommand 47 = .ok (.aload_n 0, 1) := by decide +kernel
theorem dX0_readCommand_48 : decode cX0_readCommand 48 = .ok (.dup, 1) := by decide +kernel
theorem dX0_readCommand_49 : decode cX0_readCommand 49 = .ok (.getfield 22, 3) := by decide +kernel
theorem dX0_readCommand_52 : decode cX0_readCommand 52 = .ok (.iconst 1, 1) := by decide +kernel
theorem dX0_readCommand_53 : decode cX0_readCommand 53 = .ok (.iadd, 1) := by decide +kernel
theorem dX0_readCommand_54 : decode cX0_readCommand 54 = .ok (.putfield 22, 3) := by decide +kernel
theorem dX0_readCommand_57 : decode cX0_readCommand 57 = .ok (.aload_n 0, 1) := by decide +kernel
theorem dX0_readCommand_58 : decode cX0_readCommand 58 = .ok (.aload_n 2, 1) := by decide +kernel
theorem dX0_readCommand_59 : decode cX0_readCommand 59 = .ok (.invokevirtual 68, 3) := by decide +kernel
theorem dX0_readCommand_62 : decode cX0_readCommand 62 = .ok (.ireturn, 1) := by decide +kernel
theorem dX0_readCommand_63 : decode cX0_readCommand 63 = .ok (.iinc 1 1, 3) := by decide +kernel
theorem dX0_readCommand_66 : decode cX0_readCommand 66 = .ok (.goto (-64), 3) := by decide +kernel
theorem dX0_readCommand_69 : decode cX0_readCommand 69 = .ok (.iconst 0, 1) := by decide +kernel
theorem dX0_readCommand_70 : decode cX0_readCommand 70 = .ok (.ireturn, 1) := by decide +kernel
theorem dX0_patternOf_0 : decode cX0_patternOf 0 = .ok (.iload_n 0, 1) := by decide +kernel
theorem dX0_patternOf_1 : decode cX0_patternOf 1 = .ok (.tableswitch 57 0 5 #[39, 42, 45, 48, 51, 54], 39) := by decide +kernel
theorem dX0_patternOf_40 : decode cX0_patternOf 40 = .ok (.ldc 72, 2) := by decide +kernel
theorem dX0_patternOf_42 : decode cX0_patternOf 42 = .ok (.areturn, 1) := by decide +kernel
theorem dX0_patternOf_43 : decode cX0_patternOf 43 = .ok (.ldc 74, 2) := by decide +kernel
theorem dX0_patternOf_45 : decode cX0_patternOf 45 = .ok (.areturn, 1) := by decide +kernel
theorem dX0_patternOf_46 : decode cX0_patternOf 46 = .ok (.ldc 76, 2) := by decide +kernel
theorem dX0_patternOf_48 : decode cX0_patternOf 48 = .ok (.areturn, 1) := by decide +kernel
theorem dX0_patternOf_49 : decode cX0_patternOf 49 = .ok (.ldc 78, 2) := by decide +kernel
theorem dX0_patternOf_51 : decode cX0_patternOf 51 = .ok (.areturn, 1) := by decide +kernel
theorem dX0_patternOf_52 : decode cX0_patternOf 52 = .ok (.ldc 80, 2) := by decide +kernel
theorem dX0_patternOf_54 : decode cX0_patternOf 54 = .ok (.areturn, 1) := by decide +kernel
theorem dX0_patternOf_55 : decode cX0_patternOf 55 = .ok (.ldc 82, 2) := by decide +kernel
theorem dX0_patternOf_57 : decode cX0_patternOf 57 = .ok (.areturn, 1) := by decide +kernel
theorem dX0_patternOf_58 : decode cX0_patternOf 58 = .ok (.ldc 84, 2) := by decide +kernel
theorem dX0_patternOf_60 : decode cX0_patternOf 60 = .ok (.areturn, 1) := by decide +kernel
theorem dX0_readAlong_0 : decode cX0_readAlong 0 = .ok (.iconst 1, 1) := by decide +kernel
theorem dX0_readAlong_1 : decode cX0_readAlong 1 = .ok (.istore_n 2, 1) := by decide +kernel
theorem dX0_readAlong_2 : decode cX0_readAlong 2 = .ok (.iconst 0, 1) := by decide +kernel
theorem dX0_readAlong_3 : decode cX0_readAlong 3 = .ok (.istore_n 3, 1) := by decide +kernel
theorem dX0_readAlong_4 : decode cX0_readAlong 4 = .ok (.iload_n 3, 1) := by decide +kernel
theorem dX0_readAlong_5 : decode cX0_readAlong 5 = .ok (.aload_n 1, 1) := by decide +kernel
theorem dX0_readAlong_6 : decode cX0_readAlong 6 = .ok (.invokevirtual 86, 3) := by decide +kernel
theorem dX0_readAlong_9 : decode cX0_readAlong 9 = .ok (.if_icmp .ge 74, 3) := by decide +kernel
theorem dX0_readAlong_12 : decode cX0_readAlong 12 = .ok (.iload_n 2, 1) := by decide +kernel
theorem dX0_readAlong_13 : decode cX0_readAlong 13 = .ok (.ifCond .eq 70, 3) := by decide +kernel
theorem dX0_readAlong_16 : decode cX0_readAlong 16 = .ok (.aload_n 1, 1) := by decide +kernel
theorem dX0_readAlong_17 : decode cX0_readAlong 17 = .ok (.iload_n 3, 1) := by decide +kernel
theorem dX0_readAlong_18 : decode cX0_readAlong 18 = .ok (.invokevirtual 60, 3) := by decide +kernel
theorem dX0_readAlong_21 : decode cX0_readAlong 21 = .ok (.istore 4, 2) := by decide +kernel
theorem dX0_readAlong_23 : decode cX0_readAlong 23 = .ok (.iload 4, 2) := by decide +kernel
theorem dX0_readAlong_25 : decode cX0_readAlong 25 = .ok (.bipush 50, 2) := by decide +kernel
theorem dX0_readAlong_27 : decode cX0_readAlong 27 = .ok (.if_icmp .ne 12, 3) := by decide +kernel
theorem dX0_readAlong_30 : decode cX0_readAlong 30 = .ok (.aload_n 0, 1) := by decide +kernel
theorem dX0_readAlong_31 : decode cX0_readAlong 31 = .ok (.iconst 2, 1) := by decide +kernel
theorem dX0_readAlong_32 : decode cX0_readAlong 32 = .ok (.invokevirtual 88, 3) := by decide +kernel
theorem dX0_readAlong_35 : decode cX0_readAlong 35 = .ok (.istore_n 2, 1) := by decide +kernel
theorem dX0_readAlong_36 : decode cX0_readAlong 36 = .ok (.goto 41, 3) := by decide +kernel
theorem dX0_readAlong_39 : decode cX0_readAlong 39 = .ok (.iload 4, 2) := by decide +kernel
theorem dX0_readAlong_41 : decode cX0_readAlong 41 = .ok (.bipush 51, 2) := by decide +kernel
theorem dX0_readAlong_43 : decode cX0_readAlong 43 = .ok (.if_icmp .ne 12, 3) := by decide +kernel
theorem dX0_readAlong_46 : decode cX0_readAlong 46 = .ok (.aload_n 0, 1) := by decide +kernel
theorem dX0_readAlong_47 : decode cX0_readAlong 47 = .ok (.iconst 3, 1) := by decide +kernel
theorem dX0_readAlong_48 : decode cX0_readAlong 48 = .ok (.invokevirtual 88, 3) := by decide +kernel
theorem dX0_readAlong_51 : decode cX0_readAlong 51 = .ok (.istore_n 2, 1) := by decide +kernel
theorem dX0_readAlong_52 : decode cX0_readAlong 52 = .ok (.goto 25, 3) := by decide +kernel
theorem dX0_readAlong_55 : decode cX0_readAlong 55 = .ok (.iload 4, 2) := by decide +kernel
theorem dX0_readAlong_57 : decode cX0_readAlong 57 = .ok (.bipush 63, 2) := by decide +kernel
theorem dX0_readAlong_59 : decode cX0_readAlong 59 = .ok (.if_icmp .ne 11, 3) := by decide +kernel
theorem dX0_readAlong_62 : decode cX0_readAlong 62 = .ok (.aload_n 0, 1) := by decide +kernel
theorem dX0_readAlong_63 : decode cX0_readAlong 63 = .ok (.invokevirtual 91, 3) := by decide +kernel
theorem dX0_readAlong_66 : decode cX0_readAlong 66 = .ok (.istore_n 2, 1) := by decide +kernel
theorem dX0_readAlong_67 : decode cX0_readAlong 67 = .ok (.goto 10, 3) := by decide +kernel
theorem dX0_readAlong_70 : decode cX0_readAlong 70 = .ok (.aload_n 0, 1) := by decide +kernel
theorem dX0_readAlong_71 : decode cX0_readAlong 71 = .ok (.iload 4, 2) := by decide +kernel
theorem dX0_readAlong_73 : decode cX0_readAlong 73 = .ok (.invokevirtual 43, 3) := by decide +kernel
theorem dX0_readAlong_76 : decode cX0_readAlong 76 = .ok (.istore_n 2, 1) := by decide +kernel
theorem dX0_readAlong_77 : decode cX0_readAlong 77 = .ok (.iinc 3 1, 3) := by decide +kernel
theorem dX0_readAlong_80 : decode cX0_readAlong 80 = .ok (.goto (-76), 3) := by decide +kernel
theorem dX0_readAlong_83 : decode cX0_readAlong 83 = .ok (.iload_n 2, 1) := by decide +kernel
theorem dX0_readAlong_84 : decode cX0_readAlong 84 = .ok (.ireturn, 1) := by decide +kernel
theorem dX0_readNumber_0 : decode cX0_readNumber 0 = .ok (.iconst 0, 1) := by decide +kernel
theorem dX0_readNumber_1 : decode cX0_readNumber 1 = .ok (.istore_n 2, 1) := by decide +kernel
theorem dX0_readNumber_2 : decode cX0_readNumber 2 = .ok (.iconst 0, 1) := by decide +kernel
theorem dX0_readNumber_3 : decode cX0_readNumber 3 = .ok (.istore_n 3, 1) := by decide +kernel
theorem dX0_readNumber_4 : decode cX0_readNumber 4 = .ok (.iload_n 3, 1) := by decide +kernel
theorem dX0_readNumber_5 : decode cX0_readNumber 5 = .ok (.iload_n 1, 1) := by decide +kernel
theorem dX0_readNumber_6 : decode cX0_readNumber 6 = .ok (.if_icmp .ge 46, 3) := by decide +kernel
theorem dX0_readNumber_9 : decode cX0_readNumber 9 = .ok (.aload_n 0, 1) := by decide +kernel
theorem dX0_readNumber_10 : decode cX0_readNumber 10 = .ok (.invokevirtual 56, 3) := by decide +kernel
theorem dX0_readNumber_13 : decode cX0_readNumber 13 = .ok (.bipush 48, 2) := by decide +kernel
theorem dX0_readNumber_15 : decode cX0_readNumber 15 = .ok (.bipush 57, 2) := by decide +kernel
theorem dX0_readNumber_17 : decode cX0_readNumber 17 = .ok (.invokestatic 94, 3) := by decide +kernel
theorem dX0_readNumber_20 : decode cX0_readNumber 20 = .ok (.ifCond .eq 32, 3) := by decide +kernel
theorem dX0_readNumber_23 : decode cX0_readNumber 23 = .ok (.bipush 10, 2) := by decide +kernel
theorem dX0_readNumber_25 : decode cX0_readNumber 25 = .ok (.iload_n 2, 1) := by decide +kernel
theorem dX0_readNumber_26 : decode cX0_readNumber 26 = .ok (.imul, 1) := by decide +kernel
theorem dX0_readNumber_27 : decode cX0_readNumber 27 = .ok (.aload_n 0, 1) := by decide +kernel
theorem dX0_readNumber_28 : decode cX0_readNumber 28 = .ok (.invokevirtual 56, 3) := by decide +kernel
theorem dX0_readNumber_31 : decode cX0_readNumber 31 = .ok (.iadd, 1) := by decide +kernel
theorem dX0_readNumber_32 : decode cX0_readNumber 32 = .ok (.bipush 48, 2) := by decide +kernel
theorem dX0_readNumber_34 : decode cX0_readNumber 34 = .ok (.isub, 1) := by decide +kernel
theorem dX0_readNumber_35 : decode cX0_readNumber 35 = .ok (.istore_n 2, 1) := by decide +kernel
theorem dX0_readNumber_36 : decode cX0_readNumber 36 = .ok (.iinc 3 1, 3) := by decide +kernel
theorem dX0_readNumber_39 : decode cX0_readNumber 39 = .ok (.aload_n 0, 1) := by decide +kernel
theorem dX0_readNumber_40 : decode cX0_readNumber 40 = .ok (.dup, 1) := by decide +kernel
theorem dX0_readNumber_41 : decode cX0_readNumber 41 = .ok (.getfield 28, 3) := by decide +kernel
theorem dX0_readNumber_44 : decode cX0_readNumber 44 = .ok (.iconst 1, 1) := by decide +kernel
theorem dX0_readNumber_45 : decode cX0_readNumber 45 = .ok (.iadd, 1) := by decide +kernel
theorem dX0_readNumber_46 : decode cX0_readNumber 46 = .ok (.putfield 28, 3) := by decide +kernel
theorem dX0_readNumber_49 : decode cX0_readNumber 49 = .ok (.goto (-45), 3) := by decide +kernel
theorem dX0_readNumber_52 : decode cX0_readNumber 52 = .ok (.aload_n 0, 1) := by decide +kernel
theorem dX0_readNumber_53 : decode cX0_readNumber 53 = .ok (.iload_n 2, 1) := by decide +kernel
theorem dX0_readNumber_54 : decode cX0_readNumber 54 = .ok (.invokevirtual 64, 3) := by decide +kernel
theorem dX0_readNumber_57 : decode cX0_readNumber 57 = .ok (.iload_n 3, 1) := by decide +kernel
theorem dX0_readNumber_58 : decode cX0_readNumber 58 = .ok (.ifCond .le 7, 3) := by decide +kernel
theorem dX0_readNumber_61 : decode cX0_readNumber 61 = .ok (.iconst 1, 1) := by decide +kernel
theorem dX0_readNumber_62 : decode cX0_readNumber 62 = .ok (.goto 4, 3) := by decide +kernel
theorem dX0_readNumber_65 : decode cX0_readNumber 65 = .ok (.iconst 0, 1) := by decide +kernel
theorem dX0_readNumber_66 : decode cX0_readNumber 66 = .ok (.ireturn, 1) := by decide +kernel
theorem dX0_readKind_0 : decode cX0_readKind 0 = .ok (.iconst 0, 1) := by decide +kernel
theorem dX0_readKind_1 : decode cX0_readKind 1 = .ok (.istore_n 1, 1) := by decide +kernel
theorem dX0_readKind_2 : decode cX0_readKind 2 = .ok (.iload_n 1, 1) := by decide +kernel
theorem dX0_readKind_3 : decode cX0_readKind 3 = .ok (.iconst 4, 1) := by decide +kernel
theorem dX0_readKind_4 : decode cX0_readKind 4 = .ok (.if_icmp .ge 40, 3) := by decide +kernel
theorem dX0_readKind_7 : decode cX0_readKind 7 = .ok (.aload_n 0, 1) := by decide +kernel
theorem dX0_readKind_8 : decode cX0_readKind 8 = .ok (.invokevirtual 56, 3) := by decide +kernel
theorem dX0_readKind_11 : decode cX0_readKind 11 = .ok (.getstatic 98, 3) := by decide +kernel
theorem dX0_readKind_14 : decode cX0_readKind 14 = .ok (.iload_n 1, 1) := by decide +kernel
theorem dX0_readKind_15 : decode cX0_readKind 15 = .ok (.invokestatic 35, 3) := by decide +kernel
theorem dX0_readKind_18 : decode cX0_readKind 18 = .ok (.if_icmp .ne 20, 3) := by decide +kernel
theorem dX0_readKind_21 : decode cX0_readKind 21 = .ok (.aload_n 0, 1) := by decide +kernel
theorem dX0_readKind_22 : decode cX0_readKind 22 = .ok (.iload_n 1, 1) := by decide +kernel
theorem dX0_readKind_23 : decode cX0_readKind 23 = .ok (.invokevirtual 64, 3) := by decide +kernel
theorem dX0_readKind_26 : decode cX0_readKind 26 = .ok (.aload_n 0, 1) := by decide +kernel
theorem dX0_readKind_27 : decode cX0_readKind 27 = .ok (.dup, 1) := by decide +kernel
theorem dX0_readKind_28 : decode cX0_readKind 28 = .ok (.getfield 28, 3) := by decide +kernel
theorem dX0_readKind_31 : decode cX0_readKind 31 = .ok (.iconst 1, 1) := by decide +kernel
theorem dX0_readKind_32 : decode cX0_readKind 32 = .ok (.iadd, 1) := by decide +kernel
theorem dX0_readKind_33 : decode cX0_readKind 33 = .ok (.putfield 28, 3) := by decide +kernel
theorem dX0_readKind_36 : decode cX0_readKind 36 = .ok (.iconst 1, 1) := by decide +kernel
theorem dX0_readKind_37 : decode cX0_readKind 37 = .ok (.ireturn, 1) := by decide +kernel
theorem dX0_readKind_38 : decode cX0_readKind 38 = .ok (.iinc 1 1, 3) := by decide +kernel
theorem dX0_readKind_41 : decode cX0_readKind 41 = .ok (.goto (-39), 3) := by decide +kernel
theorem dX0_readKind_44 : decode cX0_readKind 44 = .ok (.iconst 0, 1) := by decide +kernel
theorem dX0_readKind_45 : decode cX0_readKind 45 = .ok (.ireturn, 1) := by decide +kernel
theorem dX0_readCode_0 : decode cX0_readCode 0 = .ok (.aload_n 0, 1) := by decide +kernel
theorem dX0_readCode_1 : decode cX0_readCode 1 = .ok (.invokevirtual 56, 3) := by decide +kernel
theorem dX0_readCode_4 : decode cX0_readCode 4 = .ok (.iload_n 1, 1) := by decide +kernel
theorem dX0_readCode_5 : decode cX0_readCode 5 = .ok (.if_icmp .eq 5, 3) := by decide +kernel
theorem dX0_readCode_8 : decode cX0_readCode 8 = .ok (.iconst 0, 1) := by decide +kernel
theorem dX0_readCode_9 : decode cX0_readCode 9 = .ok (.ireturn, 1) := by decide +kernel
theorem dX0_readCode_10 : decode cX0_readCode 10 = .ok (.aload_n 0, 1) := by decide +kernel
theorem dX0_readCode_11 : decode cX0_readCode 11 = .ok (.dup, 1) := by decide +kernel
theorem dX0_readCode_12 : decode cX0_readCode 12 = .ok (.getfield 28, 3) := by decide +kernel
theorem dX0_readCode_15 : decode cX0_readCode 15 = .ok (.iconst 1, 1) := by decide +kernel
theorem dX0_readCode_16 : decode cX0_readCode 16 = .ok (.iadd, 1) := by decide +kernel
theorem dX0_readCode_17 : decode cX0_readCode 17 = .ok (.putfield 28, 3) := by decide +kernel
theorem dX0_readCode_20 : decode cX0_readCode 20 = .ok (.iconst 1, 1) := by decide +kernel
theorem dX0_readCode_21 : decode cX0_readCode 21 = .ok (.ireturn, 1) := by decide +kernel
theorem dX0_nextCode_0 : decode cX0_nextCode 0 = .ok (.aload_n 0, 1) := by decide +kernel
theorem dX0_nextCode_1 : decode cX0_nextCode 1 = .ok (.getfield 28, 3) := by decide +kernel
theorem dX0_nextCode_4 : decode cX0_nextCode 4 = .ok (.aload_n 0, 1) := by decide +kernel
theorem dX0_nextCode_5 : decode cX0_nextCode 5 = .ok (.getfield 15, 3) := by decide +kernel
theorem dX0_nextCode_8 : decode cX0_nextCode 8 = .ok (.if_icmp .ge 17, 3) := by decide +kernel
theorem dX0_nextCode_11 : decode cX0_nextCode 11 = .ok (.aload_n 0, 1) := by decide +kernel
theorem dX0_nextCode_12 : decode cX0_nextCode 12 = .ok (.getfield 9, 3) := by decide +kernel
theorem dX0_nextCode_15 : decode cX0_nextCode 15 = .ok (.aload_n 0, 1) := by decide +kernel
theorem dX0_nextCode_16 : decode cX0_nextCode 16 = .ok (.getfield 28, 3) := by decide +kernel
theorem dX0_nextCode_19 : decode cX0_nextCode 19 = .ok (.invokestatic 35, 3) := by decide +kernel
theorem dX0_nextCode_22 : decode cX0_nextCode 22 = .ok (.goto 5, 3) := by decide +kernel
theorem dX0_nextCode_25 : decode cX0_nextCode 25 = .ok (.bipush (-11), 2) := by decide +kernel
theorem dX0_nextCode_27 : decode cX0_nextCode 27 = .ok (.ireturn, 1) := by decide +kernel
theorem dX0_addCell_0 : decode cX0_addCell 0 = .ok (.aload_n 0, 1) := by decide +kernel
theorem dX0_addCell_1 : decode cX0_addCell 1 = .ok (.getfield 19, 3) := by decide +kernel
theorem dX0_addCell_4 : decode cX0_addCell 4 = .ok (.aload_n 0, 1) := by decide +kernel
theorem dX0_addCell_5 : decode cX0_addCell 5 = .ok (.getfield 25, 3) := by decide +kernel
theorem dX0_addCell_8 : decode cX0_addCell 8 = .ok (.iload_n 1, 1) := by decide +kernel
theorem dX0_addCell_9 : decode cX0_addCell 9 = .ok (.invokestatic 31, 3) := by decide +kernel
theorem dX0_addCell_12 : decode cX0_addCell 12 = .ok (.aload_n 0, 1) := by decide +kernel
theorem dX0_addCell_13 : decode cX0_addCell 13 = .ok (.dup, 1) := by decide +kernel
theorem dX0_addCell_14 : decode cX0_addCell 14 = .ok (.getfield 25, 3) := by decide +kernel
theorem dX0_addCell_17 : decode cX0_addCell 17 = .ok (.iconst 1, 1) := by decide +kernel
theorem dX0_addCell_18 : decode cX0_addCell 18 = .ok (.iadd, 1) := by decide +kernel
theorem dX0_addCell_19 : decode cX0_addCell 19 = .ok (.putfield 25, 3) := by decide +kernel
theorem dX0_addCell_22 : decode cX0_addCell 22 = .ok (.return_, 1) := by decide +kernel
theorem dX1_init_0 : decode cX1_init 0 = .ok (.aload_n 0, 1) := by decide +kernel
theorem dX1_init_1 : decode cX1_init 1 = .ok (.invokespecial 3, 3) := by decide +kernel
theorem dX1_init_4 : decode cX1_init 4 = .ok (.aload_n 0, 1) := by decide +kernel
theorem dX1_init_5 : decode cX1_init 5 = .ok (.bipush 39, 2) := by decide +kernel
theorem dX1_init_7 : decode cX1_init 7 = .ok (.newarray .int, 2) := by decide +kernel
theorem dX1_init_9 : decode cX1_init 9 = .ok (.putfield 9, 3) := by decide +kernel
theorem dX1_init_12 : decode cX1_init 12 = .ok (.aload_n 0, 1) := by decide +kernel
theorem dX1_init_13 : decode cX1_init 13 = .ok (.iconst 0, 1) := by decide +kernel
theorem dX1_init_14 : decode cX1_init 14 = .ok (.putfield 15, 3) := by decide +kernel
theorem dX1_init_17 : decode cX1_init 17 = .ok (.return_, 1) := by decide +kernel
theorem dX1_size_0 : decode cX1_size 0 = .ok (.aload_n 0, 1) := by decide +kernel
theorem dX1_size_1 : decode cX1_size 1 = .ok (.getfield 15, 3) := by decide +kernel
theorem dX1_size_4 : decode cX1_size 4 = .ok (.ireturn, 1) := by decide +kernel
theorem dX1_becomeEmpty_0 : decode cX1_becomeEmpty 0 = .ok (.aload_n 0, 1) := by decide +kernel
theorem dX1_becomeEmpty_1 : decode cX1_becomeEmpty 1 = .ok (.iconst 0, 1) := by decide +kernel
theorem dX1_becomeEmpty_2 : decode cX1_becomeEmpty 2 = .ok (.putfield 15, 3) := by decide +kernel
theorem dX1_becomeEmpty_5 : decode cX1_becomeEmpty 5 = .ok (.return_, 1) := by decide +kernel
theorem dX1_addCode_0 : decode cX1_addCode 0 = .ok (.aload_n 0, 1) := by decide +kernel
theorem dX1_addCode_1 : decode cX1_addCode 1 = .ok (.getfield 15, 3) := by decide +kernel
theorem dX1_addCode_4 : decode cX1_addCode 4 = .ok (.bipush 39, 2) := by decide +kernel
theorem dX1_addCode_6 : decode cX1_addCode 6 = .ok (.if_icmp .ge 25, 3) := by decide +kernel
theorem dX1_addCode_9 : decode cX1_addCode 9 = .ok (.aload_n 0, 1) := by decide +kernel
theorem dX1_addCode_10 : decode cX1_addCode 10 = .ok (.getfield 9, 3) := by decide +kernel
theorem dX1_addCode_13 : decode cX1_addCode 13 = .ok (.aload_n 0, 1) := by decide +kernel
theorem dX1_addCode_14 : decode cX1_addCode 14 = .ok (.getfield 15, 3) := by decide +kernel
theorem dX1_addCode_17 : decode cX1_addCode 17 = .ok (.iload_n 1, 1) := by decide +kernel
theorem dX1_addCode_18 : decode cX1_addCode 18 = .ok (.invokestatic 19, 3) := by decide +kernel
theorem dX1_addCode_21 : decode cX1_addCode 21 = .ok (.aload_n 0, 1) := by decide +kernel
theorem dX1_addCode_22 : decode cX1_addCode 22 = .ok (.dup, 1) := by decide +kernel
theorem dX1_addCode_23 : decode cX1_addCode 23 = .ok (.getfield 15, 3) := by decide +kernel
theorem dX1_addCode_26 : decode cX1_addCode 26 = .ok (.iconst 1, 1) := by decide +kernel
theorem dX1_addCode_27 : decode cX1_addCode 27 = .ok (.iadd, 1) := by decide +kernel
theorem dX1_addCode_28 : decode cX1_addCode 28 = .ok (.putfield 15, 3) := by decide +kernel
theorem dX1_addCode_31 : decode cX1_addCode 31 = .ok (.return_, 1) := by decide +kernel
theorem dX1_addNumber_0 : decode cX1_addNumber 0 = .ok (.sipush 1000, 3) := by decide +kernel
theorem dX1_addNumber_3 : decode cX1_addNumber 3 = .ok (.istore_n 2, 1) := by decide +kernel
theorem dX1_addNumber_4 : decode cX1_addNumber 4 = .ok (.iload_n 2, 1) := by decide +kernel
theorem dX1_addNumber_5 : decode cX1_addNumber 5 = .ok (.iconst 1, 1) := by decide +kernel
theorem dX1_addNumber_6 : decode cX1_addNumber 6 = .ok (.if_icmp .lt 34, 3) := by decide +kernel
theorem dX1_addNumber_9 : decode cX1_addNumber 9 = .ok (.iload_n 1, 1) := by decide +kernel
theorem dX1_addNumber_10 : decode cX1_addNumber 10 = .ok (.iload_n 2, 1) := by decide +kernel
theorem dX1_addNumber_11 : decode cX1_addNumber 11 = .ok (.if_icmp .ge 8, 3) := by decide +kernel
theorem dX1_addNumber_14 : decode cX1_addNumber 14 = .ok (.iload_n 2, 1) := by decide +kernel
theorem dX1_addNumber_15 : decode cX1_addNumber 15 = .ok (.iconst 1, 1) := by decide +kernel
theorem dX1_addNumber_16 : decode cX1_addNumber 16 = .ok (.if_icmp .ne 16, 3) := by decide +kernel
theorem dX1_addNumber_19 : decode cX1_addNumber 19 = .ok (.aload_n 0, 1) := by decide +kernel
theorem dX1_addNumber_20 : decode cX1_addNumber 20 = .ok (.bipush 48, 2) := by decide +kernel
theorem dX1_addNumber_22 : decode cX1_addNumber 22 = .ok (.iload_n 1, 1) := by decide +kernel
theorem dX1_addNumber_23 : decode cX1_addNumber 23 = .ok (.iload_n 2, 1) := by decide +kernel
theorem dX1_addNumber_24 : decode cX1_addNumber 24 = .ok (.idiv, 1) := by decide +kernel
theorem dX1_addNumber_25 : decode cX1_addNumber 25 = .ok (.bipush 10, 2) := by decide +kernel
theorem dX1_addNumber_27 : decode cX1_addNumber 27 = .ok (.irem, 1) := by decide +kernel
theorem dX1_addNumber_28 : decode cX1_addNumber 28 = .ok (.iadd, 1) := by decide +kernel
theorem dX1_addNumber_29 : decode cX1_addNumber 29 = .ok (.invokevirtual 23, 3) := by decide +kernel
theorem dX1_addNumber_32 : decode cX1_addNumber 32 = .ok (.iload_n 2, 1) := by decide +kernel
theorem dX1_addNumber_33 : decode cX1_addNumber 33 = .ok (.bipush 10, 2) := by decide +kernel
theorem dX1_addNumber_35 : decode cX1_addNumber 35 = .ok (.idiv, 1) := by decide +kernel
theorem dX1_addNumber_36 : decode cX1_addNumber 36 = .ok (.istore_n 2, 1) := by decide +kernel
theorem dX1_addNumber_37 : decode cX1_addNumber 37 = .ok (.goto (-33), 3) := by decide +kernel
theorem dX1_addNumber_40 : decode cX1_addNumber 40 = .ok (.return_, 1) := by decide +kernel
theorem dX1_codeAt_0 : decode cX1_codeAt 0 = .ok (.iload_n 1, 1) := by decide +kernel
theorem dX1_codeAt_1 : decode cX1_codeAt 1 = .ok (.iconst 0, 1) := by decide +kernel
theorem dX1_codeAt_2 : decode cX1_codeAt 2 = .ok (.aload_n 0, 1) := by decide +kernel
theorem dX1_codeAt_3 : decode cX1_codeAt 3 = .ok (.getfield 15, 3) := by decide +kernel
theorem dX1_codeAt_6 : decode cX1_codeAt 6 = .ok (.iconst 1, 1) := by decide +kernel
theorem dX1_codeAt_7 : decode cX1_codeAt 7 = .ok (.isub, 1) := by decide +kernel
theorem dX1_codeAt_8 : decode cX1_codeAt 8 = .ok (.invokestatic 27, 3) := by decide +kernel
theorem dX1_codeAt_11 : decode cX1_codeAt 11 = .ok (.ifCond .eq 14, 3) := by decide +kernel
theorem dX1_codeAt_14 : decode cX1_codeAt 14 = .ok (.aload_n 0, 1) := by decide +kernel
theorem dX1_codeAt_15 : decode cX1_codeAt 15 = .ok (.getfield 9, 3) := by decide +kernel
theorem dX1_codeAt_18 : decode cX1_codeAt 18 = .ok (.iload_n 1, 1) := by decide +kernel
theorem dX1_codeAt_19 : decode cX1_codeAt 19 = .ok (.invokestatic 31, 3) := by decide +kernel
theorem dX1_codeAt_22 : decode cX1_codeAt 22 = .ok (.goto 5, 3) := by decide +kernel
theorem dX1_codeAt_25 : decode cX1_codeAt 25 = .ok (.bipush (-11), 2) := by decide +kernel
theorem dX1_codeAt_27 : decode cX1_codeAt 27 = .ok (.ireturn, 1) := by decide +kernel
theorem dX2_init_0 : decode cX2_init 0 = .ok (.aload_n 0, 1) := by decide +kernel
theorem dX2_init_1 : decode cX2_init 1 = .ok (.invokespecial 3, 3) := by decide +kernel
theorem dX2_init_4 : decode cX2_init 4 = .ok (.aload_n 0, 1) := by decide +kernel
theorem dX2_init_5 : decode cX2_init 5 = .ok (.bipush 8, 2) := by decide +kernel
theorem dX2_init_7 : decode cX2_init 7 = .ok (.anewarray 9, 3) := by decide +kernel
theorem dX2_init_10 : decode cX2_init 10 = .ok (.putfield 11, 3) := by decide +kernel
theorem dX2_init_13 : decode cX2_init 13 = .ok (.aload_n 0, 1) := by decide +kernel
theorem dX2_init_14 : decode cX2_init 14 = .ok (.iconst 0, 1) := by decide +kernel
theorem dX2_init_15 : decode cX2_init 15 = .ok (.putfield 17, 3) := by decide +kernel
theorem dX2_init_18 : decode cX2_init 18 = .ok (.aload_n 0, 1) := by decide +kernel
theorem dX2_init_19 : decode cX2_init 19 = .ok (.iconst 0, 1) := by decide +kernel
theorem dX2_init_20 : decode cX2_init 20 = .ok (.putfield 21, 3) := by decide +kernel
theorem dX2_init_23 : decode cX2_init 23 = .ok (.iconst 0, 1) := by decide +kernel
theorem dX2_init_24 : decode cX2_init 24 = .ok (.istore_n 1, 1) := by decide +kernel
theorem dX2_init_25 : decode cX2_init 25 = .ok (.iload_n 1, 1) := by decide +kernel
theorem dX2_init_26 : decode cX2_init 26 = .ok (.aload_n 0, 1) := by decide +kernel
theorem dX2_init_27 : decode cX2_init 27 = .ok (.getfield 11, 3) := by decide +kernel
theorem dX2_init_30 : decode cX2_init 30 = .ok (.arraylength, 1) := by decide +kernel
theorem dX2_init_31 : decode cX2_init 31 = .ok (.if_icmp .ge 22, 3) := by decide +kernel
theorem dX2_init_34 : decode cX2_init 34 = .ok (.aload_n 0, 1) := by decide +kernel
theorem dX2_init_35 : decode cX2_init 35 = .ok (.getfield 11, 3) := by decide +kernel
theorem dX2_init_38 : decode cX2_init 38 = .ok (.iload_n 1, 1) := by decide +kernel
theorem dX2_init_39 : decode cX2_init 39 = .ok (.new 9, 3) := by decide +kernel
theorem dX2_init_42 : decode cX2_init 42 = .ok (.dup, 1) := by decide +kernel
theorem dX2_init_43 : decode cX2_init 43 = .ok (.invokespecial 24, 3) := by decide +kernel
theorem dX2_init_46 : decode cX2_init 46 = .ok (.aastore, 1) := by decide +kernel
theorem dX2_init_47 : decode cX2_init 47 = .ok (.iinc 1 1, 3) := by decide +kernel
theorem dX2_init_50 : decode cX2_init 50 = .ok (.goto (-25), 3) := by decide +kernel
theorem dX2_init_53 : decode cX2_init 53 = .ok (.return_, 1) := by decide +kernel
theorem dX2_size_0 : decode cX2_size 0 = .ok (.aload_n 0, 1) := by decide +kernel
theorem dX2_size_1 : decode cX2_size 1 = .ok (.getfield 21, 3) := by decide +kernel
theorem dX2_size_4 : decode cX2_size 4 = .ok (.ireturn, 1) := by decide +kernel
theorem dX2_keep_0 : decode cX2_keep 0 = .ok (.aload_n 0, 1) := by decide +kernel
theorem dX2_keep_1 : decode cX2_keep 1 = .ok (.getfield 17, 3) := by decide +kernel
theorem dX2_keep_4 : decode cX2_keep 4 = .ok (.ifCond .lt 40, 3) := by decide +kernel
theorem dX2_keep_7 : decode cX2_keep 7 = .ok (.aload_n 0, 1) := by decide +kernel
theorem dX2_keep_8 : decode cX2_keep 8 = .ok (.getfield 17, 3) := by decide +kernel
theorem dX2_keep_11 : decode cX2_keep 11 = .ok (.aload_n 0, 1) := by decide +kernel
theorem dX2_keep_12 : decode cX2_keep 12 = .ok (.getfield 11, 3) := by decide +kernel
theorem dX2_keep_15 : decode cX2_keep 15 = .ok (.arraylength, 1) := by decide +kernel
theorem dX2_keep_16 : decode cX2_keep 16 = .ok (.if_icmp .ge 28, 3) := by decide +kernel
theorem dX2_keep_19 : decode cX2_keep 19 = .ok (.aload_n 0, 1) := by decide +kernel
theorem dX2_keep_20 : decode cX2_keep 20 = .ok (.getfield 11, 3) := by decide +kernel
theorem dX2_keep_23 : decode cX2_keep 23 = .ok (.aload_n 0, 1) := by decide +kernel
theorem dX2_keep_24 : decode cX2_keep 24 = .ok (.getfield 17, 3) := by decide +kernel
theorem dX2_keep_27 : decode cX2_keep 27 = .ok (.aaload, 1) := by decide +kernel
theorem dX2_keep_28 : decode cX2_keep 28 = .ok (.ifnull 16, 3) := by decide +kernel
theorem dX2_keep_31 : decode cX2_keep 31 = .ok (.aload_n 0, 1) := by decide +kernel
theorem dX2_keep_32 : decode cX2_keep 32 = .ok (.getfield 11, 3) := by decide +kernel
theorem dX2_keep_35 : decode cX2_keep 35 = .ok (.aload_n 0, 1) := by decide +kernel
theorem dX2_keep_36 : decode cX2_keep 36 = .ok (.getfield 17, 3) := by decide +kernel
theorem dX2_keep_39 : decode cX2_keep 39 = .ok (.aaload, 1) := by decide +kernel
theorem dX2_keep_40 : decode cX2_keep 40 = .ok (.aload_n 1, 1) := by decide +kernel
theorem dX2_keep_41 : decode cX2_keep 41 = .ok (.invokevirtual 25, 3) := by decide +kernel
theorem dX2_keep_44 : decode cX2_keep 44 = .ok (.aload_n 0, 1) := by decide +kernel
theorem dX2_keep_45 : decode cX2_keep 45 = .ok (.aload_n 0, 1) := by decide +kernel
theorem dX2_keep_46 : decode cX2_keep 46 = .ok (.getfield 17, 3) := by decide +kernel
theorem dX2_keep_49 : decode cX2_keep 49 = .ok (.iconst 1, 1) := by decide +kernel
theorem dX2_keep_50 : decode cX2_keep 50 = .ok (.iadd, 1) := by decide +kernel
theorem dX2_keep_51 : decode cX2_keep 51 = .ok (.bipush 8, 2) := by decide +kernel
theorem dX2_keep_53 : decode cX2_keep 53 = .ok (.irem, 1) := by decide +kernel
theorem dX2_keep_54 : decode cX2_keep 54 = .ok (.putfield 17, 3) := by decide +kernel
theorem dX2_keep_57 : decode cX2_keep 57 = .ok (.aload_n 0, 1) := by decide +kernel
theorem dX2_keep_58 : decode cX2_keep 58 = .ok (.aload_n 0, 1) := by decide +kernel
theorem dX2_keep_59 : decode cX2_keep 59 = .ok (.getfield 21, 3) := by decide +kernel
theorem dX2_keep_62 : decode cX2_keep 62 = .ok (.iconst 1, 1) := by decide +kernel
theorem dX2_keep_63 : decode cX2_keep 63 = .ok (.iadd, 1) := by decide +kernel
theorem dX2_keep_64 : decode cX2_keep 64 = .ok (.bipush 8, 2) := by decide +kernel
theorem dX2_keep_66 : decode cX2_keep 66 = .ok (.invokestatic 29, 3) := by decide +kernel
theorem dX2_keep_69 : decode cX2_keep 69 = .ok (.putfield 21, 3) := by decide +kernel
theorem dX2_keep_72 : decode cX2_keep 72 = .ok (.return_, 1) := by decide +kernel
theorem dX2_giveBack_0 : decode cX2_giveBack 0 = .ok (.aload_n 0, 1) := by decide +kernel
theorem dX2_giveBack_1 : decode cX2_giveBack 1 = .ok (.aload_n 0, 1) := by decide +kernel
theorem dX2_giveBack_2 : decode cX2_giveBack 2 = .ok (.getfield 17, 3) := by decide +kernel
theorem dX2_giveBack_5 : decode cX2_giveBack 5 = .ok (.bipush 8, 2) := by decide +kernel
theorem dX2_giveBack_7 : decode cX2_giveBack 7 = .ok (.iadd, 1) := by decide +kernel
theorem dX2_giveBack_8 : decode cX2_giveBack 8 = .ok (.iconst 1, 1) := by decide +kernel
theorem dX2_giveBack_9 : decode cX2_giveBack 9 = .ok (.isub, 1) := by decide +kernel
theorem dX2_giveBack_10 : decode cX2_giveBack 10 = .ok (.bipush 8, 2) := by decide +kernel
theorem dX2_giveBack_12 : decode cX2_giveBack 12 = .ok (.irem, 1) := by decide +kernel
theorem dX2_giveBack_13 : decode cX2_giveBack 13 = .ok (.putfield 17, 3) := by decide +kernel
theorem dX2_giveBack_16 : decode cX2_giveBack 16 = .ok (.aload_n 0, 1) := by decide +kernel
theorem dX2_giveBack_17 : decode cX2_giveBack 17 = .ok (.aload_n 0, 1) := by decide +kernel
theorem dX2_giveBack_18 : decode cX2_giveBack 18 = .ok (.getfield 21, 3) := by decide +kernel
theorem dX2_giveBack_21 : decode cX2_giveBack 21 = .ok (.iconst 1, 1) := by decide +kernel
theorem dX2_giveBack_22 : decode cX2_giveBack 22 = .ok (.isub, 1) := by decide +kernel
theorem dX2_giveBack_23 : decode cX2_giveBack 23 = .ok (.iconst 0, 1) := by decide +kernel
theorem dX2_giveBack_24 : decode cX2_giveBack 24 = .ok (.invokestatic 35, 3) := by decide +kernel
theorem dX2_giveBack_27 : decode cX2_giveBack 27 = .ok (.putfield 21, 3) := by decide +kernel
theorem dX2_giveBack_30 : decode cX2_giveBack 30 = .ok (.aload_n 0, 1) := by decide +kernel
theorem dX2_giveBack_31 : decode cX2_giveBack 31 = .ok (.getfield 17, 3) := by decide +kernel
theorem dX2_giveBack_34 : decode cX2_giveBack 34 = .ok (.ifCond .lt 40, 3) := by decide +kernel
theorem dX2_giveBack_37 : decode cX2_giveBack 37 = .ok (.aload_n 0, 1) := by decide +kernel
theorem dX2_giveBack_38 : decode cX2_giveBack 38 = .ok (.getfield 17, 3) := by decide +kernel
theorem dX2_giveBack_41 : decode cX2_giveBack 41 = .ok (.aload_n 0, 1) := by decide +kernel
theorem dX2_giveBack_42 : decode cX2_giveBack 42 = .ok (.getfield 11, 3) := by decide +kernel
theorem dX2_giveBack_45 : decode cX2_giveBack 45 = .ok (.arraylength, 1) := by decide +kernel
theorem dX2_giveBack_46 : decode cX2_giveBack 46 = .ok (.if_icmp .ge 28, 3) := by decide +kernel
theorem dX2_giveBack_49 : decode cX2_giveBack 49 = .ok (.aload_n 0, 1) := by decide +kernel
theorem dX2_giveBack_50 : decode cX2_giveBack 50 = .ok (.getfield 11, 3) := by decide +kernel
theorem dX2_giveBack_53 : decode cX2_giveBack 53 = .ok (.aload_n 0, 1) := by decide +kernel
theorem dX2_giveBack_54 : decode cX2_giveBack 54 = .ok (.getfield 17, 3) := by decide +kernel
theorem dX2_giveBack_57 : decode cX2_giveBack 57 = .ok (.aaload, 1) := by decide +kernel
theorem dX2_giveBack_58 : decode cX2_giveBack 58 = .ok (.ifnull 16, 3) := by decide +kernel
theorem dX2_giveBack_61 : decode cX2_giveBack 61 = .ok (.aload_n 1, 1) := by decide +kernel
theorem dX2_giveBack_62 : decode cX2_giveBack 62 = .ok (.aload_n 0, 1) := by decide +kernel
theorem dX2_giveBack_63 : decode cX2_giveBack 63 = .ok (.getfield 11, 3) := by decide +kernel
theorem dX2_giveBack_66 : decode cX2_giveBack 66 = .ok (.aload_n 0, 1) := by decide +kernel
theorem dX2_giveBack_67 : decode cX2_giveBack 67 = .ok (.getfield 17, 3) := by decide +kernel
theorem dX2_giveBack_70 : decode cX2_giveBack 70 = .ok (.aaload, 1) := by decide +kernel
theorem dX2_giveBack_71 : decode cX2_giveBack 71 = .ok (.invokevirtual 25, 3) := by decide +kernel
theorem dX2_giveBack_74 : decode cX2_giveBack 74 = .ok (.return_, 1) := by decide +kernel
theorem dX2_forget_0 : decode cX2_forget 0 = .ok (.aload_n 0, 1) := by decide +kernel
theorem dX2_forget_1 : decode cX2_forget 1 = .ok (.iconst 0, 1) := by decide +kernel
theorem dX2_forget_2 : decode cX2_forget 2 = .ok (.putfield 21, 3) := by decide +kernel
theorem dX2_forget_5 : decode cX2_forget 5 = .ok (.return_, 1) := by decide +kernel
theorem dX3_init_0 : decode cX3_init 0 = .ok (.aload_n 0, 1) := by decide +kernel
theorem dX3_init_1 : decode cX3_init 1 = .ok (.invokespecial 3, 3) := by decide +kernel
theorem dX3_init_4 : decode cX3_init 4 = .ok (.aload_n 0, 1) := by decide +kernel
theorem dX3_init_5 : decode cX3_init 5 = .ok (.bipush 32, 2) := by decide +kernel
theorem dX3_init_7 : decode cX3_init 7 = .ok (.newarray .int, 2) := by decide +kernel
theorem dX3_init_9 : decode cX3_init 9 = .ok (.putfield 9, 3) := by decide +kernel
theorem dX3_init_12 : decode cX3_init 12 = .ok (.aload_n 0, 1) := by decide +kernel
theorem dX3_init_13 : decode cX3_init 13 = .ok (.bipush 32, 2) := by decide +kernel
theorem dX3_init_15 : decode cX3_init 15 = .ok (.newarray .int, 2) := by decide +kernel
theorem dX3_init_17 : decode cX3_init 17 = .ok (.putfield 15, 3) := by decide +kernel
theorem dX3_init_20 : decode cX3_init 20 = .ok (.aload_n 0, 1) := by decide +kernel
theorem dX3_init_21 : decode cX3_init 21 = .ok (.bipush 32, 2) := by decide +kernel
theorem dX3_init_23 : decode cX3_init 23 = .ok (.newarray .int, 2) := by decide +kernel
theorem dX3_init_25 : decode cX3_init 25 = .ok (.putfield 18, 3) := by decide +kernel
theorem dX3_init_28 : decode cX3_init 28 = .ok (.aload_n 0, 1) := by decide +kernel
theorem dX3_init_29 : decode cX3_init 29 = .ok (.bipush 33, 2) := by decide +kernel
theorem dX3_init_31 : decode cX3_init 31 = .ok (.newarray .int, 2) := by decide +kernel
theorem dX3_init_33 : decode cX3_init 33 = .ok (.putfield 21, 3) := by decide +kernel
theorem dX3_init_36 : decode cX3_init 36 = .ok (.aload_n 0, 1) := by decide +kernel
theorem dX3_init_37 : decode cX3_init 37 = .ok (.bipush 33, 2) := by decide +kernel
theorem dX3_init_39 : decode cX3_init 39 = .ok (.newarray .int, 2) := by decide +kernel
theorem dX3_init_41 : decode cX3_init 41 = .ok (.putfield 24, 3) := by decide +kernel
theorem dX3_init_44 : decode cX3_init 44 = .ok (.aload_n 0, 1) := by decide +kernel
theorem dX3_init_45 : decode cX3_init 45 = .ok (.bipush 16, 2) := by decide +kernel
theorem dX3_init_47 : decode cX3_init 47 = .ok (.newarray .int, 2) := by decide +kernel
theorem dX3_init_49 : decode cX3_init 49 = .ok (.putfield 27, 3) := by decide +kernel
theorem dX3_init_52 : decode cX3_init 52 = .ok (.iconst 1, 1) := by decide +kernel
theorem dX3_init_53 : decode cX3_init 53 = .ok (.aload_n 0, 1) := by decide +kernel
theorem dX3_init_54 : decode cX3_init 54 = .ok (.getfield 27, 3) := by decide +kernel
theorem dX3_init_57 : decode cX3_init 57 = .ok (.arraylength, 1) := by decide +kernel
theorem dX3_init_58 : decode cX3_init 58 = .ok (.if_icmp .ge 11, 3) := by decide +kernel
theorem dX3_init_61 : decode cX3_init 61 = .ok (.aload_n 0, 1) := by decide +kernel
theorem dX3_init_62 : decode cX3_init 62 = .ok (.getfield 27, 3) := by decide +kernel
theorem dX3_init_65 : decode cX3_init 65 = .ok (.iconst 1, 1) := by decide +kernel
theorem dX3_init_66 : decode cX3_init 66 = .ok (.bipush 50, 2) := by decide +kernel
theorem dX3_init_68 : decode cX3_init 68 = .ok (.iastore, 1) := by decide +kernel
theorem dX3_init_69 : decode cX3_init 69 = .ok (.return_, 1) := by decide +kernel
theorem dX3_copyFrom_0 : decode cX3_copyFrom 0 = .ok (.aload_n 1, 1) := by decide +kernel
theorem dX3_copyFrom_1 : decode cX3_copyFrom 1 = .ok (.getfield 9, 3) := by decide +kernel
theorem dX3_copyFrom_4 : decode cX3_copyFrom 4 = .ok (.aload_n 0, 1) := by decide +kernel
theorem dX3_copyFrom_5 : decode cX3_copyFrom 5 = .ok (.getfield 9, 3) := by decide +kernel
theorem dX3_copyFrom_8 : decode cX3_copyFrom 8 = .ok (.invokestatic 30, 3) := by decide +kernel
theorem dX3_copyFrom_11 : decode cX3_copyFrom 11 = .ok (.aload_n 1, 1) := by decide +kernel
theorem dX3_copyFrom_12 : decode cX3_copyFrom 12 = .ok (.getfield 15, 3) := by decide +kernel
theorem dX3_copyFrom_15 : decode cX3_copyFrom 15 = .ok (.aload_n 0, 1) := by decide +kernel
theorem dX3_copyFrom_16 : decode cX3_copyFrom 16 = .ok (.getfield 15, 3) := by decide +kernel
theorem dX3_copyFrom_19 : decode cX3_copyFrom 19 = .ok (.invokestatic 30, 3) := by decide +kernel
theorem dX3_copyFrom_22 : decode cX3_copyFrom 22 = .ok (.aload_n 1, 1) := by decide +kernel
theorem dX3_copyFrom_23 : decode cX3_copyFrom 23 = .ok (.getfield 18, 3) := by decide +kernel
theorem dX3_copyFrom_26 : decode cX3_copyFrom 26 = .ok (.aload_n 0, 1) := by decide +kernel
theorem dX3_copyFrom_27 : decode cX3_copyFrom 27 = .ok (.getfield 18, 3) := by decide +kernel
theorem dX3_copyFrom_30 : decode cX3_copyFrom 30 = .ok (.invokestatic 30, 3) := by decide +kernel
theorem dX3_copyFrom_33 : decode cX3_copyFrom 33 = .ok (.aload_n 1, 1) := by decide +kernel
theorem dX3_copyFrom_34 : decode cX3_copyFrom 34 = .ok (.getfield 21, 3) := by decide +kernel
theorem dX3_copyFrom_37 : decode cX3_copyFrom 37 = .ok (.aload_n 0, 1) := by decide +kernel
theorem dX3_copyFrom_38 : decode cX3_copyFrom 38 = .ok (.getfield 21, 3) := by decide +kernel
theorem dX3_copyFrom_41 : decode cX3_copyFrom 41 = .ok (.invokestatic 30, 3) := by decide +kernel
theorem dX3_copyFrom_44 : decode cX3_copyFrom 44 = .ok (.aload_n 1, 1) := by decide +kernel
theorem dX3_copyFrom_45 : decode cX3_copyFrom 45 = .ok (.getfield 24, 3) := by decide +kernel
theorem dX3_copyFrom_48 : decode cX3_copyFrom 48 = .ok (.aload_n 0, 1) := by decide +kernel
theorem dX3_copyFrom_49 : decode cX3_copyFrom 49 = .ok (.getfield 24, 3) := by decide +kernel
theorem dX3_copyFrom_52 : decode cX3_copyFrom 52 = .ok (.invokestatic 30, 3) := by decide +kernel
theorem dX3_copyFrom_55 : decode cX3_copyFrom 55 = .ok (.aload_n 1, 1) := by decide +kernel
theorem dX3_copyFrom_56 : decode cX3_copyFrom 56 = .ok (.getfield 27, 3) := by decide +kernel
theorem dX3_copyFrom_59 : decode cX3_copyFrom 59 = .ok (.aload_n 0, 1) := by decide +kernel
theorem dX3_copyFrom_60 : decode cX3_copyFrom 60 = .ok (.getfield 27, 3) := by decide +kernel
theorem dX3_copyFrom_63 : decode cX3_copyFrom 63 = .ok (.invokestatic 30, 3) := by decide +kernel
theorem dX3_copyFrom_66 : decode cX3_copyFrom 66 = .ok (.return_, 1) := by decide +kernel
theorem dX3_isEmpty_0 : decode cX3_isEmpty 0 = .ok (.aload_n 0, 1) := by decide +kernel
theorem dX3_isEmpty_1 : decode cX3_isEmpty 1 = .ok (.getfield 15, 3) := by decide +kernel
theorem dX3_isEmpty_4 : decode cX3_isEmpty 4 = .ok (.iload_n 1, 1) := by decide +kernel
theorem dX3_isEmpty_5 : decode cX3_isEmpty 5 = .ok (.invokestatic 34, 3) := by decide +kernel
theorem dX3_isEmpty_8 : decode cX3_isEmpty 8 = .ok (.ifCond .ne 7, 3) := by decide +kernel
theorem dX3_isEmpty_11 : decode cX3_isEmpty 11 = .ok (.iconst 1, 1) := by decide +kernel
theorem dX3_isEmpty_12 : decode cX3_isEmpty 12 = .ok (.goto 4, 3) := by decide +kernel
theorem dX3_isEmpty_15 : decode cX3_isEmpty 15 = .ok (.iconst 0, 1) := by decide +kernel
theorem dX3_isEmpty_16 : decode cX3_isEmpty 16 = .ok (.ireturn, 1) := by decide +kernel
theorem dX3_kindIn_0 : decode cX3_kindIn 0 = .ok (.aload_n 0, 1) := by decide +kernel
theorem dX3_kindIn_1 : decode cX3_kindIn 1 = .ok (.getfield 9, 3) := by decide +kernel
theorem dX3_kindIn_4 : decode cX3_kindIn 4 = .ok (.iload_n 1, 1) := by decide +kernel
theorem dX3_kindIn_5 : decode cX3_kindIn 5 = .ok (.invokestatic 34, 3) := by decide +kernel
theorem dX3_kindIn_8 : decode cX3_kindIn 8 = .ok (.ireturn, 1) := by decide +kernel
theorem dX3_sacksIn_0 : decode cX3_sacksIn 0 = .ok (.aload_n 0, 1) := by decide +kernel
theorem dX3_sacksIn_1 : decode cX3_sacksIn 1 = .ok (.getfield 15, 3) := by decide +kernel
theorem dX3_sacksIn_4 : decode cX3_sacksIn 4 = .ok (.iload_n 1, 1) := by decide +kernel
theorem dX3_sacksIn_5 : decode cX3_sacksIn 5 = .ok (.invokestatic 34, 3) := by decide +kernel
theorem dX3_sacksIn_8 : decode cX3_sacksIn 8 = .ok (.ireturn, 1) := by decide +kernel
theorem dX3_ageIn_0 : decode cX3_ageIn 0 = .ok (.aload_n 0, 1) := by decide +kernel
theorem dX3_ageIn_1 : decode cX3_ageIn 1 = .ok (.getfield 18, 3) := by decide +kernel
theorem dX3_ageIn_4 : decode cX3_ageIn 4 = .ok (.iload_n 1, 1) := by decide +kernel
theorem dX3_ageIn_5 : decode cX3_ageIn 5 = .ok (.invokestatic 34, 3) := by decide +kernel
theorem dX3_ageIn_8 : decode cX3_ageIn 8 = .ok (.ireturn, 1) := by decide +kernel
theorem dX3_sumOf_0 : decode cX3_sumOf 0 = .ok (.aload_n 0, 1) := by decide +kernel
theorem dX3_sumOf_1 : decode cX3_sumOf 1 = .ok (.getfield 21, 3) := by decide +kernel
theorem dX3_sumOf_4 : decode cX3_sumOf 4 = .ok (.iload_n 1, 1) := by decide +kernel
theorem dX3_sumOf_5 : decode cX3_sumOf 5 = .ok (.invokestatic 34, 3) := by decide +kernel
theorem dX3_sumOf_8 : decode cX3_sumOf 8 = .ok (.ireturn, 1) := by decide +kernel
theorem dX3_isCracked_0 : decode cX3_isCracked 0 = .ok (.aload_n 0, 1) := by decide +kernel
theorem dX3_isCracked_1 : decode cX3_isCracked 1 = .ok (.getfield 24, 3) := by decide +kernel
theorem dX3_isCracked_4 : decode cX3_isCracked 4 = .ok (.iload_n 1, 1) := by decide +kernel
theorem dX3_isCracked_5 : decode cX3_isCracked 5 = .ok (.invokestatic 34, 3) := by decide +kernel
theorem dX3_isCracked_8 : decode cX3_isCracked 8 = .ok (.iconst 1, 1) := by decide +kernel
theorem dX3_isCracked_9 : decode cX3_isCracked 9 = .ok (.if_icmp .ne 7, 3) := by decide +kernel
theorem dX3_isCracked_12 : decode cX3_isCracked 12 = .ok (.iconst 1, 1) := by decide +kernel
theorem dX3_isCracked_13 : decode cX3_isCracked 13 = .ok (.goto 4, 3) := by decide +kernel
theorem dX3_isCracked_16 : decode cX3_isCracked 16 = .ok (.iconst 0, 1) := by decide +kernel
theorem dX3_isCracked_17 : decode cX3_isCracked 17 = .ok (.ireturn, 1) := by decide +kernel
theorem dX3_makeSound_0 : decode cX3_makeSound 0 = .ok (.aload_n 0, 1) := by decide +kernel
theorem dX3_makeSound_1 : decode cX3_makeSound 1 = .ok (.getfield 24, 3) := by decide +kernel
theorem dX3_makeSound_4 : decode cX3_makeSound 4 = .ok (.iload_n 1, 1) := by decide +kernel
theorem dX3_makeSound_5 : decode cX3_makeSound 5 = .ok (.iconst 0, 1) := by decide +kernel
theorem dX3_makeSound_6 : decode cX3_makeSound 6 = .ok (.invokestatic 38, 3) := by decide +kernel
theorem dX3_makeSound_9 : decode cX3_makeSound 9 = .ok (.return_, 1) := by decide +kernel
theorem dX3_counted_0 : decode cX3_counted 0 = .ok (.aload_n 0, 1) := by decide +kernel
theorem dX3_counted_1 : decode cX3_counted 1 = .ok (.getfield 27, 3) := by decide +kernel
theorem dX3_counted_4 : decode cX3_counted 4 = .ok (.iload_n 1, 1) := by decide +kernel
theorem dX3_counted_5 : decode cX3_counted 5 = .ok (.invokestatic 34, 3) := by decide +kernel
theorem dX3_counted_8 : decode cX3_counted 8 = .ok (.ireturn, 1) := by decide +kernel
theorem dX3_count_0 : decode cX3_count 0 = .ok (.aload_n 0, 1) := by decide +kernel
theorem dX3_count_1 : decode cX3_count 1 = .ok (.getfield 27, 3) := by decide +kernel
theorem dX3_count_4 : decode cX3_count 4 = .ok (.iload_n 1, 1) := by decide +kernel
theorem dX3_count_5 : decode cX3_count 5 = .ok (.aload_n 0, 1) := by decide +kernel
theorem dX3_count_6 : decode cX3_count 6 = .ok (.getfield 27, 3) := by decide +kernel
theorem dX3_count_9 : decode cX3_count 9 = .ok (.iload_n 1, 1) := by decide +kernel
theorem dX3_count_10 : decode cX3_count 10 = .ok (.invokestatic 34, 3) := by decide +kernel
theorem dX3_count_13 : decode cX3_count 13 = .ok (.iload_n 2, 1) := by decide +kernel
theorem dX3_count_14 : decode cX3_count 14 = .ok (.iadd, 1) := by decide +kernel
theorem dX3_count_15 : decode cX3_count 15 = .ok (.invokestatic 38, 3) := by decide +kernel
theorem dX3_count_18 : decode cX3_count 18 = .ok (.return_, 1) := by decide +kernel
theorem dX3_bring_0 : decode cX3_bring 0 = .ok (.aload_n 0, 1) := by decide +kernel
theorem dX3_bring_1 : decode cX3_bring 1 = .ok (.getfield 9, 3) := by decide +kernel
theorem dX3_bring_4 : decode cX3_bring 4 = .ok (.iload_n 1, 1) := by decide +kernel
theorem dX3_bring_5 : decode cX3_bring 5 = .ok (.iload_n 2, 1) := by decide +kernel
theorem dX3_bring_6 : decode cX3_bring 6 = .ok (.invokestatic 38, 3) := by decide +kernel
theorem dX3_bring_9 : decode cX3_bring 9 = .ok (.aload_n 0, 1) := by decide +kernel
theorem dX3_bring_10 : decode cX3_bring 10 = .ok (.getfield 18, 3) := by decide +kernel
theorem dX3_bring_13 : decode cX3_bring 13 = .ok (.iload_n 1, 1) := by decide +kernel
theorem dX3_bring_14 : decode cX3_bring 14 = .ok (.iload 4, 2) := by decide +kernel
theorem dX3_bring_16 : decode cX3_bring 16 = .ok (.invokestatic 38, 3) := by decide +kernel
theorem dX3_bring_19 : decode cX3_bring 19 = .ok (.aload_n 0, 1) := by decide +kernel
theorem dX3_bring_20 : decode cX3_bring 20 = .ok (.iload_n 1, 1) := by decide +kernel
theorem dX3_bring_21 : decode cX3_bring 21 = .ok (.iload_n 3, 1) := by decide +kernel
theorem dX3_bring_22 : decode cX3_bring 22 = .ok (.invokevirtual 42, 3) := by decide +kernel
theorem dX3_bring_25 : decode cX3_bring 25 = .ok (.aload_n 0, 1) := by decide +kernel
theorem dX3_bring_26 : decode cX3_bring 26 = .ok (.iload_n 1, 1) := by decide +kernel
theorem dX3_bring_27 : decode cX3_bring 27 = .ok (.invokevirtual 46, 3) := by decide +kernel
theorem dX3_bring_30 : decode cX3_bring 30 = .ok (.ireturn, 1) := by decide +kernel
theorem dX3_remove_0 : decode cX3_remove 0 = .ok (.aload_n 0, 1) := by decide +kernel
theorem dX3_remove_1 : decode cX3_remove 1 = .ok (.iload_n 1, 1) := by decide +kernel
theorem dX3_remove_2 : decode cX3_remove 2 = .ok (.iload_n 2, 1) := by decide +kernel
theorem dX3_remove_3 : decode cX3_remove 3 = .ok (.ineg, 1) := by decide +kernel
theorem dX3_remove_4 : decode cX3_remove 4 = .ok (.invokevirtual 42, 3) := by decide +kernel
theorem dX3_remove_7 : decode cX3_remove 7 = .ok (.aload_n 0, 1) := by decide +kernel
theorem dX3_remove_8 : decode cX3_remove 8 = .ok (.iload_n 1, 1) := by decide +kernel
theorem dX3_remove_9 : decode cX3_remove 9 = .ok (.invokevirtual 50, 3) := by decide +kernel
theorem dX3_remove_12 : decode cX3_remove 12 = .ok (.ifCond .eq 21, 3) := by decide +kernel
theorem dX3_remove_15 : decode cX3_remove 15 = .ok (.aload_n 0, 1) := by decide +kernel
theorem dX3_remove_16 : decode cX3_remove 16 = .ok (.getfield 9, 3) := by decide +kernel
theorem dX3_remove_19 : decode cX3_remove 19 = .ok (.iload_n 1, 1) := by decide +kernel
theorem dX3_remove_20 : decode cX3_remove 20 = .ok (.iconst 0, 1) := by decide +kernel
theorem dX3_remove_21 : decode cX3_remove 21 = .ok (.invokestatic 38, 3) := by decide +kernel
theorem dX3_remove_24 : decode cX3_remove 24 = .ok (.aload_n 0, 1) := by decide +kernel
theorem dX3_remove_25 : decode cX3_remove 25 = .ok (.getfield 18, 3) := by decide +kernel
theorem dX3_remove_28 : decode cX3_remove 28 = .ok (.iload_n 1, 1) := by decide +kernel
theorem dX3_remove_29 : decode cX3_remove 29 = .ok (.iconst 0, 1) := by decide +kernel
theorem dX3_remove_30 : decode cX3_remove 30 = .ok (.invokestatic 38, 3) := by decide +kernel
theorem dX3_remove_33 : decode cX3_remove 33 = .ok (.return_, 1) := by decide +kernel
theorem dX3_changeSacks_0 : decode cX3_changeSacks 0 = .ok (.aload_n 0, 1) := by decide +kernel
theorem dX3_changeSacks_1 : decode cX3_changeSacks 1 = .ok (.getfield 15, 3) := by decide +kernel
theorem dX3_changeSacks_4 : decode cX3_changeSacks 4 = .ok (.iload_n 1, 1) := by decide +kernel
theorem dX3_changeSacks_5 : decode cX3_changeSacks 5 = .ok (.aload_n 0, 1) := by decide +kernel
theorem dX3_changeSacks_6 : decode cX3_changeSacks 6 = .ok (.getfield 15, 3) := by decide +kernel
theorem dX3_changeSacks_9 : decode cX3_changeSacks 9 = .ok (.iload_n 1, 1) := by decide +kernel
theorem dX3_changeSacks_10 : decode cX3_changeSacks 10 = .ok (.invokestatic 34, 3) := by decide +kernel
theorem dX3_changeSacks_13 : decode cX3_changeSacks 13 = .ok (.iload_n 2, 1) := by decide +kernel
theorem dX3_changeSacks_14 : decode cX3_changeSacks 14 = .ok (.iadd, 1) := by decide +kernel
theorem dX3_changeSacks_15 : decode cX3_changeSacks 15 = .ok (.invokestatic 38, 3) := by decide +kernel
theorem dX3_changeSacks_18 : decode cX3_changeSacks 18 = .ok (.iload_n 1, 1) := by decide +kernel
theorem dX3_changeSacks_19 : decode cX3_changeSacks 19 = .ok (.iconst 1, 1) := by decide +kernel
theorem dX3_changeSacks_20 : decode cX3_changeSacks 20 = .ok (.iadd, 1) := by decide +kernel
theorem dX3_changeSacks_21 : decode cX3_changeSacks 21 = .ok (.istore_n 3, 1) := by decide +kernel
theorem dX3_changeSacks_22 : decode cX3_changeSacks 22 = .ok (.iconst 0, 1) := by decide +kernel
theorem dX3_changeSacks_23 : decode cX3_changeSacks 23 = .ok (.istore 4, 2) := by decide +kernel
theorem dX3_changeSacks_25 : decode cX3_changeSacks 25 = .ok (.iload 4, 2) := by decide +kernel
theorem dX3_changeSacks_27 : decode cX3_changeSacks 27 = .ok (.bipush 32, 2) := by decide +kernel
theorem dX3_changeSacks_29 : decode cX3_changeSacks 29 = .ok (.if_icmp .ge 40, 3) := by decide +kernel
theorem dX3_changeSacks_32 : decode cX3_changeSacks 32 = .ok (.iload_n 3, 1) := by decide +kernel
theorem dX3_changeSacks_33 : decode cX3_changeSacks 33 = .ok (.bipush 32, 2) := by decide +kernel
theorem dX3_changeSacks_35 : decode cX3_changeSacks 35 = .ok (.if_icmp .gt 34, 3) := by decide +kernel
theorem dX3_changeSacks_38 : decode cX3_changeSacks 38 = .ok (.aload_n 0, 1) := by decide +kernel
theorem dX3_changeSacks_39 : decode cX3_changeSacks 39 = .ok (.getfield 21, 3) := by decide +kernel
theorem dX3_changeSacks_42 : decode cX3_changeSacks 42 = .ok (.iload_n 3, 1) := by decide +kernel
theorem dX3_changeSacks_43 : decode cX3_changeSacks 43 = .ok (.aload_n 0, 1) := by decide +kernel
theorem dX3_changeSacks_44 : decode cX3_changeSacks 44 = .ok (.getfield 21, 3) := by decide +kernel
theorem dX3_changeSacks_47 : decode cX3_changeSacks 47 = .ok (.iload_n 3, 1) := by decide +kernel
theorem dX3_changeSacks_48 : decode cX3_changeSacks 48 = .ok (.invokestatic 34, 3) := by decide +kernel
theorem dX3_changeSacks_51 : decode cX3_changeSacks 51 = .ok (.iload_n 2, 1) := by decide +kernel
theorem dX3_changeSacks_52 : decode cX3_changeSacks 52 = .ok (.iadd, 1) := by decide +kernel
theorem dX3_changeSacks_53 : decode cX3_changeSacks 53 = .ok (.invokestatic 38, 3) := by decide +kernel
theorem dX3_changeSacks_56 : decode cX3_changeSacks 56 = .ok (.iload_n 3, 1) := by decide +kernel
theorem dX3_changeSacks_57 : decode cX3_changeSacks 57 = .ok (.iload_n 3, 1) := by decide +kernel
theorem dX3_changeSacks_58 : decode cX3_changeSacks 58 = .ok (.invokestatic 54, 3) := by decide +kernel
theorem dX3_changeSacks_61 : decode cX3_changeSacks 61 = .ok (.iadd, 1) := by decide +kernel
theorem dX3_changeSacks_62 : decode cX3_changeSacks 62 = .ok (.istore_n 3, 1) := by decide +kernel
theorem dX3_changeSacks_63 : decode cX3_changeSacks 63 = .ok (.iinc 4 1, 3) := by decide +kernel
theorem dX3_changeSacks_66 : decode cX3_changeSacks 66 = .ok (.goto (-41), 3) := by decide +kernel
theorem dX3_changeSacks_69 : decode cX3_changeSacks 69 = .ok (.return_, 1) := by decide +kernel
theorem dX3_crackOver_0 : decode cX3_crackOver 0 = .ok (.iconst 0, 1) := by decide +kernel
theorem dX3_crackOver_1 : decode cX3_crackOver 1 = .ok (.istore_n 2, 1) := by decide +kernel
theorem dX3_crackOver_2 : decode cX3_crackOver 2 = .ok (.iload_n 1, 1) := by decide +kernel
theorem dX3_crackOver_3 : decode cX3_crackOver 3 = .ok (.iconst 1, 1) := by decide +kernel
theorem dX3_crackOver_4 : decode cX3_crackOver 4 = .ok (.iadd, 1) := by decide +kernel
theorem dX3_crackOver_5 : decode cX3_crackOver 5 = .ok (.istore_n 3, 1) := by decide +kernel
theorem dX3_crackOver_6 : decode cX3_crackOver 6 = .ok (.iconst 0, 1) := by decide +kernel
theorem dX3_crackOver_7 : decode cX3_crackOver 7 = .ok (.istore 4, 2) := by decide +kernel
theorem dX3_crackOver_9 : decode cX3_crackOver 9 = .ok (.iload 4, 2) := by decide +kernel
theorem dX3_crackOver_11 : decode cX3_crackOver 11 = .ok (.bipush 32, 2) := by decide +kernel
theorem dX3_crackOver_13 : decode cX3_crackOver 13 = .ok (.if_icmp .ge 54, 3) := by decide +kernel
theorem dX3_crackOver_16 : decode cX3_crackOver 16 = .ok (.iload_n 3, 1) := by decide +kernel
theorem dX3_crackOver_17 : decode cX3_crackOver 17 = .ok (.bipush 32, 2) := by decide +kernel
theorem dX3_crackOver_19 : decode cX3_crackOver 19 = .ok (.if_icmp .gt 48, 3) := by decide +kernel
theorem dX3_crackOver_22 : decode cX3_crackOver 22 = .ok (.aload_n 0, 1) := by decide +kernel
theorem dX3_crackOver_23 : decode cX3_crackOver 23 = .ok (.iload_n 3, 1) := by decide +kernel
theorem dX3_crackOver_24 : decode cX3_crackOver 24 = .ok (.invokevirtual 57, 3) := by decide +kernel
theorem dX3_crackOver_27 : decode cX3_crackOver 27 = .ok (.ifCond .ne 27, 3) := by decide +kernel
theorem dX3_crackOver_30 : decode cX3_crackOver 30 = .ok (.aload_n 0, 1) := by decide +kernel
theorem dX3_crackOver_31 : decode cX3_crackOver 31 = .ok (.iload_n 3, 1) := by decide +kernel
theorem dX3_crackOver_32 : decode cX3_crackOver 32 = .ok (.invokevirtual 60, 3) := by decide +kernel
theorem dX3_crackOver_35 : decode cX3_crackOver 35 = .ok (.iload_n 3, 1) := by decide +kernel
theorem dX3_crackOver_36 : decode cX3_crackOver 36 = .ok (.invokestatic 63, 3) := by decide +kernel
theorem dX3_crackOver_39 : decode cX3_crackOver 39 = .ok (.if_icmp .le 15, 3) := by decide +kernel
theorem dX3_crackOver_42 : decode cX3_crackOver 42 = .ok (.aload_n 0, 1) := by decide +kernel
theorem dX3_crackOver_43 : decode cX3_crackOver 43 = .ok (.getfield 24, 3) := by decide +kernel
theorem dX3_crackOver_46 : decode cX3_crackOver 46 = .ok (.iload_n 3, 1) := by decide +kernel
theorem dX3_crackOver_47 : decode cX3_crackOver 47 = .ok (.iconst 1, 1) := by decide +kernel
theorem dX3_crackOver_48 : decode cX3_crackOver 48 = .ok (.invokestatic 38, 3) := by decide +kernel
theorem dX3_crackOver_51 : decode cX3_crackOver 51 = .ok (.iinc 2 1, 3) := by decide +kernel
theorem dX3_crackOver_54 : decode cX3_crackOver 54 = .ok (.iload_n 3, 1) := by decide +kernel
theorem dX3_crackOver_55 : decode cX3_crackOver 55 = .ok (.iload_n 3, 1) := by decide +kernel
theorem dX3_crackOver_56 : decode cX3_crackOver 56 = .ok (.invokestatic 54, 3) := by decide +kernel
theorem dX3_crackOver_59 : decode cX3_crackOver 59 = .ok (.iadd, 1) := by decide +kernel
theorem dX3_crackOver_60 : decode cX3_crackOver 60 = .ok (.istore_n 3, 1) := by decide +kernel
theorem dX3_crackOver_61 : decode cX3_crackOver 61 = .ok (.iinc 4 1, 3) := by decide +kernel
theorem dX3_crackOver_64 : decode cX3_crackOver 64 = .ok (.goto (-55), 3) := by decide +kernel
theorem dX3_crackOver_67 : decode cX3_crackOver 67 = .ok (.aload_n 0, 1) := by decide +kernel
theorem dX3_crackOver_68 : decode cX3_crackOver 68 = .ok (.bipush 14, 2) := by decide +kernel
theorem dX3_crackOver_70 : decode cX3_crackOver 70 = .ok (.iload_n 2, 1) := by decide +kernel
theorem dX3_crackOver_71 : decode cX3_crackOver 71 = .ok (.invokevirtual 66, 3) := by decide +kernel
theorem dX3_crackOver_74 : decode cX3_crackOver 74 = .ok (.iload_n 2, 1) := by decide +kernel
theorem dX3_crackOver_75 : decode cX3_crackOver 75 = .ok (.ireturn, 1) := by decide +kernel
theorem dX3_cracksUnder_0 : decode cX3_cracksUnder 0 = .ok (.iload_n 1, 1) := by decide +kernel
theorem dX3_cracksUnder_1 : decode cX3_cracksUnder 1 = .ok (.iconst 1, 1) := by decide +kernel
theorem dX3_cracksUnder_2 : decode cX3_cracksUnder 2 = .ok (.iadd, 1) := by decide +kernel
theorem dX3_cracksUnder_3 : decode cX3_cracksUnder 3 = .ok (.istore_n 3, 1) := by decide +kernel
theorem dX3_cracksUnder_4 : decode cX3_cracksUnder 4 = .ok (.iconst 0, 1) := by decide +kernel
theorem dX3_cracksUnder_5 : decode cX3_cracksUnder 5 = .ok (.istore 4, 2) := by decide +kernel
theorem dX3_cracksUnder_7 : decode cX3_cracksUnder 7 = .ok (.iload 4, 2) := by decide +kernel
theorem dX3_cracksUnder_9 : decode cX3_cracksUnder 9 = .ok (.bipush 32, 2) := by decide +kernel
theorem dX3_cracksUnder_11 : decode cX3_cracksUnder 11 = .ok (.if_icmp .ge 46, 3) := by decide +kernel
theorem dX3_cracksUnder_14 : decode cX3_cracksUnder 14 = .ok (.iload_n 3, 1) := by decide +kernel
theorem dX3_cracksUnder_15 : decode cX3_cracksUnder 15 = .ok (.bipush 32, 2) := by decide +kernel
theorem dX3_cracksUnder_17 : decode cX3_cracksUnder 17 = .ok (.if_icmp .gt 40, 3) := by decide +kernel
theorem dX3_cracksUnder_20 : decode cX3_cracksUnder 20 = .ok (.aload_n 0, 1) := by decide +kernel
theorem dX3_cracksUnder_21 : decode cX3_cracksUnder 21 = .ok (.iload_n 3, 1) := by decide +kernel
theorem dX3_cracksUnder_22 : decode cX3_cracksUnder 22 = .ok (.invokevirtual 57, 3) := by decide +kernel
theorem dX3_cracksUnder_25 : decode cX3_cracksUnder 25 = .ok (.ifCond .ne 19, 3) := by decide +kernel
theorem dX3_cracksUnder_28 : decode cX3_cracksUnder 28 = .ok (.aload_n 0, 1) := by decide +kernel
theorem dX3_cracksUnder_29 : decode cX3_cracksUnder 29 = .ok (.iload_n 3, 1) := by decide +kernel
theorem dX3_cracksUnder_30 : decode cX3_cracksUnder 30 = .ok (.invokevirtual 60, 3) := by decide +kernel
theorem dX3_cracksUnder_33 : decode cX3_cracksUnder 33 = .ok (.iload_n 2, 1) := by decide +kernel
theorem dX3_cracksUnder_34 : decode cX3_cracksUnder 34 = .ok (.iadd, 1) := by decide +kernel
theorem dX3_cracksUnder_35 : decode cX3_cracksUnder 35 = .ok (.iload_n 3, 1) := by decide +kernel
theorem dX3_cracksUnder_36 : decode cX3_cracksUnder 36 = .ok (.invokestatic 63, 3) := by decide +kernel
theorem dX3_cracksUnder_39 : decode cX3_cracksUnder 39 = .ok (.if_icmp .le 5, 3) := by decide +kernel
theorem dX3_cracksUnder_42 : decode cX3_cracksUnder 42 = .ok (.iconst 1, 1) := by decide +kernel
theorem dX3_cracksUnder_43 : decode cX3_cracksUnder 43 = .ok (.ireturn, 1) := by decide +kernel
theorem dX3_cracksUnder_44 : decode cX3_cracksUnder 44 = .ok (.iload_n 3, 1) := by decide +kernel
theorem dX3_cracksUnder_45 : decode cX3_cracksUnder 45 = .ok (.iload_n 3, 1) := by decide +kernel
theorem dX3_cracksUnder_46 : decode cX3_cracksUnder 46 = .ok (.invokestatic 54, 3) := by decide +kernel
theorem dX3_cracksUnder_49 : decode cX3_cracksUnder 49 = .ok (.iadd, 1) := by decide +kernel
theorem dX3_cracksUnder_50 : decode cX3_cracksUnder 50 = .ok (.istore_n 3, 1) := by decide +kernel
theorem dX3_cracksUnder_51 : decode cX3_cracksUnder 51 = .ok (.iinc 4 1, 3) := by decide +kernel
theorem dX3_cracksUnder_54 : decode cX3_cracksUnder 54 = .ok (.goto (-47), 3) := by decide +kernel
theorem dX3_cracksUnder_57 : decode cX3_cracksUnder 57 = .ok (.iconst 0, 1) := by decide +kernel
theorem dX3_cracksUnder_58 : decode cX3_cracksUnder 58 = .ok (.ireturn, 1) := by decide +kernel
theorem dX3_rungsOver_0 : decode cX3_rungsOver 0 = .ok (.iconst 0, 1) := by decide +kernel
theorem dX3_rungsOver_1 : decode cX3_rungsOver 1 = .ok (.istore_n 2, 1) := by decide +kernel
theorem dX3_rungsOver_2 : decode cX3_rungsOver 2 = .ok (.iload_n 1, 1) := by decide +kernel
theorem dX3_rungsOver_3 : decode cX3_rungsOver 3 = .ok (.iconst 1, 1) := by decide +kernel
theorem dX3_rungsOver_4 : decode cX3_rungsOver 4 = .ok (.iadd, 1) := by decide +kernel
theorem dX3_rungsOver_5 : decode cX3_rungsOver 5 = .ok (.istore_n 3, 1) := by decide +kernel
theorem dX3_rungsOver_6 : decode cX3_rungsOver 6 = .ok (.iconst 0, 1) := by decide +kernel
theorem dX3_rungsOver_7 : decode cX3_rungsOver 7 = .ok (.istore 4, 2) := by decide +kernel
theorem dX3_rungsOver_9 : decode cX3_rungsOver 9 = .ok (.iload 4, 2) := by decide +kernel
theorem dX3_rungsOver_11 : decode cX3_rungsOver 11 = .ok (.bipush 32, 2) := by decide +kernel
theorem dX3_rungsOver_13 : decode cX3_rungsOver 13 = .ok (.if_icmp .ge 25, 3) := by decide +kernel
theorem dX3_rungsOver_16 : decode cX3_rungsOver 16 = .ok (.iload_n 3, 1) := by decide +kernel
theorem dX3_rungsOver_17 : decode cX3_rungsOver 17 = .ok (.bipush 32, 2) := by decide +kernel
theorem dX3_rungsOver_19 : decode cX3_rungsOver 19 = .ok (.if_icmp .gt 19, 3) := by decide +kernel
theorem dX3_rungsOver_22 : decode cX3_rungsOver 22 = .ok (.iinc 2 1, 3) := by decide +kernel
theorem dX3_rungsOver_25 : decode cX3_rungsOver 25 = .ok (.iload_n 3, 1) := by decide +kernel
theorem dX3_rungsOver_26 : decode cX3_rungsOver 26 = .ok (.iload_n 3, 1) := by decide +kernel
theorem dX3_rungsOver_27 : decode cX3_rungsOver 27 = .ok (.invokestatic 54, 3) := by decide +kernel
theorem dX3_rungsOver_30 : decode cX3_rungsOver 30 = .ok (.iadd, 1) := by decide +kernel
theorem dX3_rungsOver_31 : decode cX3_rungsOver 31 = .ok (.istore_n 3, 1) := by decide +kernel
theorem dX3_rungsOver_32 : decode cX3_rungsOver 32 = .ok (.iinc 4 1, 3) := by decide +kernel
theorem dX3_rungsOver_35 : decode cX3_rungsOver 35 = .ok (.goto (-26), 3) := by decide +kernel
theorem dX3_rungsOver_38 : decode cX3_rungsOver 38 = .ok (.iload_n 2, 1) := by decide +kernel
theorem dX3_rungsOver_39 : decode cX3_rungsOver 39 = .ok (.ireturn, 1) := by decide +kernel
theorem dX3_crackedOver_0 : decode cX3_crackedOver 0 = .ok (.iconst 0, 1) := by decide +kernel
theorem dX3_crackedOver_1 : decode cX3_crackedOver 1 = .ok (.istore_n 2, 1) := by decide +kernel
theorem dX3_crackedOver_2 : decode cX3_crackedOver 2 = .ok (.iload_n 1, 1) := by decide +kernel
theorem dX3_crackedOver_3 : decode cX3_crackedOver 3 = .ok (.iconst 1, 1) := by decide +kernel
theorem dX3_crackedOver_4 : decode cX3_crackedOver 4 = .ok (.iadd, 1) := by decide +kernel
theorem dX3_crackedOver_5 : decode cX3_crackedOver 5 = .ok (.istore_n 3, 1) := by decide +kernel
theorem dX3_crackedOver_6 : decode cX3_crackedOver 6 = .ok (.iconst 0, 1) := by decide +kernel
theorem dX3_crackedOver_7 : decode cX3_crackedOver 7 = .ok (.istore 4, 2) := by decide +kernel
theorem dX3_crackedOver_9 : decode cX3_crackedOver 9 = .ok (.iload 4, 2) := by decide +kernel
theorem dX3_crackedOver_11 : decode cX3_crackedOver 11 = .ok (.bipush 32, 2) := by decide +kernel
theorem dX3_crackedOver_13 : decode cX3_crackedOver 13 = .ok (.if_icmp .ge 37, 3) := by decide +kernel
theorem dX3_crackedOver_16 : decode cX3_crackedOver 16 = .ok (.iload_n 3, 1) := by decide +kernel
theorem dX3_crackedOver_17 : decode cX3_crackedOver 17 = .ok (.bipush 32, 2) := by decide +kernel
theorem dX3_crackedOver_19 : decode cX3_crackedOver 19 = .ok (.if_icmp .gt 31, 3) := by decide +kernel
theorem dX3_crackedOver_22 : decode cX3_crackedOver 22 = .ok (.aload_n 0, 1) := by decide +kernel
theorem dX3_crackedOver_23 : decode cX3_crackedOver 23 = .ok (.iload_n 3, 1) := by decide +kernel
theorem dX3_crackedOver_24 : decode cX3_crackedOver 24 = .ok (.invokevirtual 57, 3) := by decide +kernel
theorem dX3_crackedOver_27 : decode cX3_crackedOver 27 = .ok (.ifCond .eq 10, 3) := by decide +kernel
theorem dX3_crackedOver_30 : decode cX3_crackedOver 30 = .ok (.iload_n 2, 1) := by decide +kernel
theorem dX3_crackedOver_31 : decode cX3_crackedOver 31 = .ok (.iload_n 3, 1) := by decide +kernel
theorem dX3_crackedOver_32 : decode cX3_crackedOver 32 = .ok (.invokestatic 54, 3) := by decide +kernel
theorem dX3_crackedOver_35 : decode cX3_crackedOver 35 = .ok (.iadd, 1) := by decide +kernel
theorem dX3_crackedOver_36 : decode cX3_crackedOver 36 = .ok (.istore_n 2, 1) := by decide +kernel
theorem dX3_crackedOver_37 : decode cX3_crackedOver 37 = .ok (.iload_n 3, 1) := by decide +kernel
theorem dX3_crackedOver_38 : decode cX3_crackedOver 38 = .ok (.iload_n 3, 1) := by decide +kernel
theorem dX3_crackedOver_39 : decode cX3_crackedOver 39 = .ok (.invokestatic 54, 3) := by decide +kernel
theorem dX3_crackedOver_42 : decode cX3_crackedOver 42 = .ok (.iadd, 1) := by decide +kernel
theorem dX3_crackedOver_43 : decode cX3_crackedOver 43 = .ok (.istore_n 3, 1) := by decide +kernel
theorem dX3_crackedOver_44 : decode cX3_crackedOver 44 = .ok (.iinc 4 1, 3) := by decide +kernel
theorem dX3_crackedOver_47 : decode cX3_crackedOver 47 = .ok (.goto (-38), 3) := by decide +kernel
theorem dX3_crackedOver_50 : decode cX3_crackedOver 50 = .ok (.iload_n 2, 1) := by decide +kernel
theorem dX3_crackedOver_51 : decode cX3_crackedOver 51 = .ok (.ireturn, 1) := by decide +kernel
theorem dX3_sumByClimbing_0 : decode cX3_sumByClimbing 0 = .ok (.iconst 0, 1) := by decide +kernel
theorem dX3_sumByClimbing_1 : decode cX3_sumByClimbing 1 = .ok (.istore_n 2, 1) := by decide +kernel
theorem dX3_sumByClimbing_2 : decode cX3_sumByClimbing 2 = .ok (.iload_n 1, 1) := by decide +kernel
theorem dX3_sumByClimbing_3 : decode cX3_sumByClimbing 3 = .ok (.iconst 1, 1) := by decide +kernel
theorem dX3_sumByClimbing_4 : decode cX3_sumByClimbing 4 = .ok (.iadd, 1) := by decide +kernel
theorem dX3_sumByClimbing_5 : decode cX3_sumByClimbing 5 = .ok (.istore_n 3, 1) := by decide +kernel
theorem dX3_sumByClimbing_6 : decode cX3_sumByClimbing 6 = .ok (.iconst 0, 1) := by decide +kernel
theorem dX3_sumByClimbing_7 : decode cX3_sumByClimbing 7 = .ok (.istore 4, 2) := by decide +kernel
theorem dX3_sumByClimbing_9 : decode cX3_sumByClimbing 9 = .ok (.iload 4, 2) := by decide +kernel
theorem dX3_sumByClimbing_11 : decode cX3_sumByClimbing 11 = .ok (.bipush 32, 2) := by decide +kernel
theorem dX3_sumByClimbing_13 : decode cX3_sumByClimbing 13 = .ok (.if_icmp .ge 28, 3) := by decide +kernel
theorem dX3_sumByClimbing_16 : decode cX3_sumByClimbing 16 = .ok (.iload_n 3, 1) := by decide +kernel
theorem dX3_sumByClimbing_17 : decode cX3_sumByClimbing 17 = .ok (.ifCond .le 24, 3) := by decide +kernel
theorem dX3_sumByClimbing_20 : decode cX3_sumByClimbing 20 = .ok (.iload_n 2, 1) := by decide +kernel
theorem dX3_sumByClimbing_21 : decode cX3_sumByClimbing 21 = .ok (.aload_n 0, 1) := by decide +kernel
theorem dX3_sumByClimbing_22 : decode cX3_sumByClimbing 22 = .ok (.iload_n 3, 1) := by decide +kernel
theorem dX3_sumByClimbing_23 : decode cX3_sumByClimbing 23 = .ok (.invokevirtual 60, 3) := by decide +kernel
theorem dX3_sumByClimbing_26 : decode cX3_sumByClimbing 26 = .ok (.iadd, 1) := by decide +kernel
theorem dX3_sumByClimbing_27 : decode cX3_sumByClimbing 27 = .ok (.istore_n 2, 1) := by decide +kernel
theorem dX3_sumByClimbing_28 : decode cX3_sumByClimbing 28 = .ok (.iload_n 3, 1) := by decide +kernel
theorem dX3_sumByClimbing_29 : decode cX3_sumByClimbing 29 = .ok (.iload_n 3, 1) := by decide +kernel
theorem dX3_sumByClimbing_30 : decode cX3_sumByClimbing 30 = .ok (.invokestatic 54, 3) := by decide +kernel
theorem dX3_sumByClimbing_33 : decode cX3_sumByClimbing 33 = .ok (.isub, 1) := by decide +kernel
theorem dX3_sumByClimbing_34 : decode cX3_sumByClimbing 34 = .ok (.istore_n 3, 1) := by decide +kernel
theorem dX3_sumByClimbing_35 : decode cX3_sumByClimbing 35 = .ok (.iinc 4 1, 3) := by decide +kernel
theorem dX3_sumByClimbing_38 : decode cX3_sumByClimbing 38 = .ok (.goto (-29), 3) := by decide +kernel
theorem dX3_sumByClimbing_41 : decode cX3_sumByClimbing 41 = .ok (.iload_n 2, 1) := by decide +kernel
theorem dX3_sumByClimbing_42 : decode cX3_sumByClimbing 42 = .ok (.ireturn, 1) := by decide +kernel
theorem dX3_sumByBays_0 : decode cX3_sumByBays 0 = .ok (.iconst 0, 1) := by decide +kernel
theorem dX3_sumByBays_1 : decode cX3_sumByBays 1 = .ok (.istore_n 3, 1) := by decide +kernel
theorem dX3_sumByBays_2 : decode cX3_sumByBays 2 = .ok (.iconst 0, 1) := by decide +kernel
theorem dX3_sumByBays_3 : decode cX3_sumByBays 3 = .ok (.istore 4, 2) := by decide +kernel
theorem dX3_sumByBays_5 : decode cX3_sumByBays 5 = .ok (.iload 4, 2) := by decide +kernel
theorem dX3_sumByBays_7 : decode cX3_sumByBays 7 = .ok (.bipush 32, 2) := by decide +kernel
theorem dX3_sumByBays_9 : decode cX3_sumByBays 9 = .ok (.if_icmp .ge 30, 3) := by decide +kernel
theorem dX3_sumByBays_12 : decode cX3_sumByBays 12 = .ok (.iload 4, 2) := by decide +kernel
theorem dX3_sumByBays_14 : decode cX3_sumByBays 14 = .ok (.iload_n 1, 1) := by decide +kernel
theorem dX3_sumByBays_15 : decode cX3_sumByBays 15 = .ok (.if_icmp .lt 18, 3) := by decide +kernel
theorem dX3_sumByBays_18 : decode cX3_sumByBays 18 = .ok (.iload 4, 2) := by decide +kernel
theorem dX3_sumByBays_20 : decode cX3_sumByBays 20 = .ok (.iload_n 2, 1) := by decide +kernel
theorem dX3_sumByBays_21 : decode cX3_sumByBays 21 = .ok (.if_icmp .gt 12, 3) := by decide +kernel
theorem dX3_sumByBays_24 : decode cX3_sumByBays 24 = .ok (.iload_n 3, 1) := by decide +kernel
theorem dX3_sumByBays_25 : decode cX3_sumByBays 25 = .ok (.aload_n 0, 1) := by decide +kernel
theorem dX3_sumByBays_26 : decode cX3_sumByBays 26 = .ok (.iload 4, 2) := by decide +kernel
theorem dX3_sumByBays_28 : decode cX3_sumByBays 28 = .ok (.invokevirtual 69, 3) := by decide +kernel
theorem dX3_sumByBays_31 : decode cX3_sumByBays 31 = .ok (.iadd, 1) := by decide +kernel
theorem dX3_sumByBays_32 : decode cX3_sumByBays 32 = .ok (.istore_n 3, 1) := by decide +kernel
theorem dX3_sumByBays_33 : decode cX3_sumByBays 33 = .ok (.iinc 4 1, 3) := by decide +kernel
theorem dX3_sumByBays_36 : decode cX3_sumByBays 36 = .ok (.goto (-31), 3) := by decide +kernel
theorem dX3_sumByBays_39 : decode cX3_sumByBays 39 = .ok (.iload_n 3, 1) := by decide +kernel
theorem dX3_sumByBays_40 : decode cX3_sumByBays 40 = .ok (.ireturn, 1) := by decide +kernel
theorem dX3_allSacks_0 : decode cX3_allSacks 0 = .ok (.aload_n 0, 1) := by decide +kernel
theorem dX3_allSacks_1 : decode cX3_allSacks 1 = .ok (.iconst 0, 1) := by decide +kernel
theorem dX3_allSacks_2 : decode cX3_allSacks 2 = .ok (.bipush 31, 2) := by decide +kernel
theorem dX3_allSacks_4 : decode cX3_allSacks 4 = .ok (.invokevirtual 72, 3) := by decide +kernel
theorem dX3_allSacks_7 : decode cX3_allSacks 7 = .ok (.ireturn, 1) := by decide +kernel
theorem dX3_sacksOfKind_0 : decode cX3_sacksOfKind 0 = .ok (.iconst 0, 1) := by decide +kernel
theorem dX3_sacksOfKind_1 : decode cX3_sacksOfKind 1 = .ok (.istore_n 2, 1) := by decide +kernel
theorem dX3_sacksOfKind_2 : decode cX3_sacksOfKind 2 = .ok (.iconst 0, 1) := by decide +kernel
theorem dX3_sacksOfKind_3 : decode cX3_sacksOfKind 3 = .ok (.istore_n 3, 1) := by decide +kernel
theorem dX3_sacksOfKind_4 : decode cX3_sacksOfKind 4 = .ok (.iload_n 3, 1) := by decide +kernel
theorem dX3_sacksOfKind_5 : decode cX3_sacksOfKind 5 = .ok (.bipush 32, 2) := by decide +kernel
theorem dX3_sacksOfKind_7 : decode cX3_sacksOfKind 7 = .ok (.if_icmp .ge 26, 3) := by decide +kernel
theorem dX3_sacksOfKind_10 : decode cX3_sacksOfKind 10 = .ok (.aload_n 0, 1) := by decide +kernel
theorem dX3_sacksOfKind_11 : decode cX3_sacksOfKind 11 = .ok (.iload_n 3, 1) := by decide +kernel
theorem dX3_sacksOfKind_12 : decode cX3_sacksOfKind 12 = .ok (.invokevirtual 76, 3) := by decide +kernel
theorem dX3_sacksOfKind_15 : decode cX3_sacksOfKind 15 = .ok (.iload_n 1, 1) := by decide +kernel
theorem dX3_sacksOfKind_16 : decode cX3_sacksOfKind 16 = .ok (.if_icmp .ne 11, 3) := by decide +kernel
theorem dX3_sacksOfKind_19 : decode cX3_sacksOfKind 19 = .ok (.iload_n 2, 1) := by decide +kernel
theorem dX3_sacksOfKind_20 : decode cX3_sacksOfKind 20 = .ok (.aload_n 0, 1) := by decide +kernel
theorem dX3_sacksOfKind_21 : decode cX3_sacksOfKind 21 = .ok (.iload_n 3, 1) := by decide +kernel
theorem dX3_sacksOfKind_22 : decode cX3_sacksOfKind 22 = .ok (.invokevirtual 69, 3) := by decide +kernel
theorem dX3_sacksOfKind_25 : decode cX3_sacksOfKind 25 = .ok (.iadd, 1) := by decide +kernel
theorem dX3_sacksOfKind_26 : decode cX3_sacksOfKind 26 = .ok (.istore_n 2, 1) := by decide +kernel
theorem dX3_sacksOfKind_27 : decode cX3_sacksOfKind 27 = .ok (.iinc 3 1, 3) := by decide +kernel
theorem dX3_sacksOfKind_30 : decode cX3_sacksOfKind 30 = .ok (.goto (-26), 3) := by decide +kernel
theorem dX3_sacksOfKind_33 : decode cX3_sacksOfKind 33 = .ok (.iload_n 2, 1) := by decide +kernel
theorem dX3_sacksOfKind_34 : decode cX3_sacksOfKind 34 = .ok (.ireturn, 1) := by decide +kernel
theorem dX3_sacksAsOldAs_0 : decode cX3_sacksAsOldAs 0 = .ok (.iconst 0, 1) := by decide +kernel
theorem dX3_sacksAsOldAs_1 : decode cX3_sacksAsOldAs 1 = .ok (.istore_n 2, 1) := by decide +kernel
theorem dX3_sacksAsOldAs_2 : decode cX3_sacksAsOldAs 2 = .ok (.iconst 0, 1) := by decide +kernel
theorem dX3_sacksAsOldAs_3 : decode cX3_sacksAsOldAs 3 = .ok (.istore_n 3, 1) := by decide +kernel
theorem dX3_sacksAsOldAs_4 : decode cX3_sacksAsOldAs 4 = .ok (.iload_n 3, 1) := by decide +kernel
theorem dX3_sacksAsOldAs_5 : decode cX3_sacksAsOldAs 5 = .ok (.bipush 32, 2) := by decide +kernel
theorem dX3_sacksAsOldAs_7 : decode cX3_sacksAsOldAs 7 = .ok (.if_icmp .ge 26, 3) := by decide +kernel
theorem dX3_sacksAsOldAs_10 : decode cX3_sacksAsOldAs 10 = .ok (.aload_n 0, 1) := by decide +kernel
theorem dX3_sacksAsOldAs_11 : decode cX3_sacksAsOldAs 11 = .ok (.iload_n 3, 1) := by decide +kernel
theorem dX3_sacksAsOldAs_12 : decode cX3_sacksAsOldAs 12 = .ok (.invokevirtual 79, 3) := by decide +kernel
theorem dX3_sacksAsOldAs_15 : decode cX3_sacksAsOldAs 15 = .ok (.iload_n 1, 1) := by decide +kernel
theorem dX3_sacksAsOldAs_16 : decode cX3_sacksAsOldAs 16 = .ok (.if_icmp .ne 11, 3) := by decide +kernel
theorem dX3_sacksAsOldAs_19 : decode cX3_sacksAsOldAs 19 = .ok (.iload_n 2, 1) := by decide +kernel
theorem dX3_sacksAsOldAs_20 : decode cX3_sacksAsOldAs 20 = .ok (.aload_n 0, 1) := by decide +kernel
theorem dX3_sacksAsOldAs_21 : decode cX3_sacksAsOldAs 21 = .ok (.iload_n 3, 1) := by decide +kernel
theorem dX3_sacksAsOldAs_22 : decode cX3_sacksAsOldAs 22 = .ok (.invokevirtual 69, 3) := by decide +kernel
theorem dX3_sacksAsOldAs_25 : decode cX3_sacksAsOldAs 25 = .ok (.iadd, 1) := by decide +kernel
theorem dX3_sacksAsOldAs_26 : decode cX3_sacksAsOldAs 26 = .ok (.istore_n 2, 1) := by decide +kernel
theorem dX3_sacksAsOldAs_27 : decode cX3_sacksAsOldAs 27 = .ok (.iinc 3 1, 3) := by decide +kernel
theorem dX3_sacksAsOldAs_30 : decode cX3_sacksAsOldAs 30 = .ok (.goto (-26), 3) := by decide +kernel
theorem dX3_sacksAsOldAs_33 : decode cX3_sacksAsOldAs 33 = .ok (.iload_n 2, 1) := by decide +kernel
theorem dX3_sacksAsOldAs_34 : decode cX3_sacksAsOldAs 34 = .ok (.ireturn, 1) := by decide +kernel
theorem dX3_filledBays_0 : decode cX3_filledBays 0 = .ok (.iconst 0, 1) := by decide +kernel
theorem dX3_filledBays_1 : decode cX3_filledBays 1 = .ok (.istore_n 1, 1) := by decide +kernel
theorem dX3_filledBays_2 : decode cX3_filledBays 2 = .ok (.iconst 0, 1) := by decide +kernel
theorem dX3_filledBays_3 : decode cX3_filledBays 3 = .ok (.istore_n 2, 1) := by decide +kernel
theorem dX3_filledBays_4 : decode cX3_filledBays 4 = .ok (.iload_n 2, 1) := by decide +kernel
theorem dX3_filledBays_5 : decode cX3_filledBays 5 = .ok (.bipush 32, 2) := by decide +kernel
theorem dX3_filledBays_7 : decode cX3_filledBays 7 = .ok (.if_icmp .ge 20, 3) := by decide +kernel
theorem dX3_filledBays_10 : decode cX3_filledBays 10 = .ok (.aload_n 0, 1) := by decide +kernel
theorem dX3_filledBays_11 : decode cX3_filledBays 11 = .ok (.iload_n 2, 1) := by decide +kernel
theorem dX3_filledBays_12 : decode cX3_filledBays 12 = .ok (.invokevirtual 50, 3) := by decide +kernel
theorem dX3_filledBays_15 : decode cX3_filledBays 15 = .ok (.ifCond .ne 6, 3) := by decide +kernel
theorem dX3_filledBays_18 : decode cX3_filledBays 18 = .ok (.iinc 1 1, 3) := by decide +kernel
theorem dX3_filledBays_21 : decode cX3_filledBays 21 = .ok (.iinc 2 1, 3) := by decide +kernel
theorem dX3_filledBays_24 : decode cX3_filledBays 24 = .ok (.goto (-20), 3) := by decide +kernel
theorem dX3_filledBays_27 : decode cX3_filledBays 27 = .ok (.iload_n 1, 1) := by decide +kernel
theorem dX3_filledBays_28 : decode cX3_filledBays 28 = .ok (.ireturn, 1) := by decide +kernel
theorem dX3_crackedRungs_0 : decode cX3_crackedRungs 0 = .ok (.iconst 0, 1) := by decide +kernel
theorem dX3_crackedRungs_1 : decode cX3_crackedRungs 1 = .ok (.istore_n 1, 1) := by decide +kernel
theorem dX3_crackedRungs_2 : decode cX3_crackedRungs 2 = .ok (.iconst 1, 1) := by decide +kernel
theorem dX3_crackedRungs_3 : decode cX3_crackedRungs 3 = .ok (.istore_n 2, 1) := by decide +kernel
theorem dX3_crackedRungs_4 : decode cX3_crackedRungs 4 = .ok (.iload_n 2, 1) := by decide +kernel
theorem dX3_crackedRungs_5 : decode cX3_crackedRungs 5 = .ok (.bipush 32, 2) := by decide +kernel
theorem dX3_crackedRungs_7 : decode cX3_crackedRungs 7 = .ok (.if_icmp .gt 20, 3) := by decide +kernel
theorem dX3_crackedRungs_10 : decode cX3_crackedRungs 10 = .ok (.aload_n 0, 1) := by decide +kernel
theorem dX3_crackedRungs_11 : decode cX3_crackedRungs 11 = .ok (.iload_n 2, 1) := by decide +kernel
theorem dX3_crackedRungs_12 : decode cX3_crackedRungs 12 = .ok (.invokevirtual 57, 3) := by decide +kernel
theorem dX3_crackedRungs_15 : decode cX3_crackedRungs 15 = .ok (.ifCond .eq 6, 3) := by decide +kernel
theorem dX3_crackedRungs_18 : decode cX3_crackedRungs 18 = .ok (.iinc 1 1, 3) := by decide +kernel
theorem dX3_crackedRungs_21 : decode cX3_crackedRungs 21 = .ok (.iinc 2 1, 3) := by decide +kernel
theorem dX3_crackedRungs_24 : decode cX3_crackedRungs 24 = .ok (.goto (-20), 3) := by decide +kernel
theorem dX3_crackedRungs_27 : decode cX3_crackedRungs 27 = .ok (.iload_n 1, 1) := by decide +kernel
theorem dX3_crackedRungs_28 : decode cX3_crackedRungs 28 = .ok (.ireturn, 1) := by decide +kernel
theorem dX3_placeOf_0 : decode cX3_placeOf 0 = .ok (.iconst 0, 1) := by decide +kernel
theorem dX3_placeOf_1 : decode cX3_placeOf 1 = .ok (.istore_n 2, 1) := by decide +kernel
theorem dX3_placeOf_2 : decode cX3_placeOf 2 = .ok (.iconst 0, 1) := by decide +kernel
theorem dX3_placeOf_3 : decode cX3_placeOf 3 = .ok (.istore_n 3, 1) := by decide +kernel
theorem dX3_placeOf_4 : decode cX3_placeOf 4 = .ok (.iload_n 3, 1) := by decide +kernel
theorem dX3_placeOf_5 : decode cX3_placeOf 5 = .ok (.bipush 32, 2) := by decide +kernel
theorem dX3_placeOf_7 : decode cX3_placeOf 7 = .ok (.if_icmp .ge 29, 3) := by decide +kernel
theorem dX3_placeOf_10 : decode cX3_placeOf 10 = .ok (.aload_n 0, 1) := by decide +kernel
theorem dX3_placeOf_11 : decode cX3_placeOf 11 = .ok (.iload_n 3, 1) := by decide +kernel
theorem dX3_placeOf_12 : decode cX3_placeOf 12 = .ok (.invokevirtual 50, 3) := by decide +kernel
theorem dX3_placeOf_15 : decode cX3_placeOf 15 = .ok (.ifCond .ne 15, 3) := by decide +kernel
theorem dX3_placeOf_18 : decode cX3_placeOf 18 = .ok (.aload_n 0, 1) := by decide +kernel
theorem dX3_placeOf_19 : decode cX3_placeOf 19 = .ok (.iload_n 3, 1) := by decide +kernel
theorem dX3_placeOf_20 : decode cX3_placeOf 20 = .ok (.iload_n 1, 1) := by decide +kernel
theorem dX3_placeOf_21 : decode cX3_placeOf 21 = .ok (.invokevirtual 82, 3) := by decide +kernel
theorem dX3_placeOf_24 : decode cX3_placeOf 24 = .ok (.ifCond .eq 6, 3) := by decide +kernel
theorem dX3_placeOf_27 : decode cX3_placeOf 27 = .ok (.iinc 2 1, 3) := by decide +kernel
theorem dX3_placeOf_30 : decode cX3_placeOf 30 = .ok (.iinc 3 1, 3) := by decide +kernel
theorem dX3_placeOf_33 : decode cX3_placeOf 33 = .ok (.goto (-29), 3) := by decide +kernel
theorem dX3_placeOf_36 : decode cX3_placeOf 36 = .ok (.iload_n 2, 1) := by decide +kernel
theorem dX3_placeOf_37 : decode cX3_placeOf 37 = .ok (.ireturn, 1) := by decide +kernel
theorem dX3_isAhead_0 : decode cX3_isAhead 0 = .ok (.aload_n 0, 1) := by decide +kernel
theorem dX3_isAhead_1 : decode cX3_isAhead 1 = .ok (.iload_n 1, 1) := by decide +kernel
theorem dX3_isAhead_2 : decode cX3_isAhead 2 = .ok (.invokevirtual 79, 3) := by decide +kernel
theorem dX3_isAhead_5 : decode cX3_isAhead 5 = .ok (.aload_n 0, 1) := by decide +kernel
theorem dX3_isAhead_6 : decode cX3_isAhead 6 = .ok (.iload_n 2, 1) := by decide +kernel
theorem dX3_isAhead_7 : decode cX3_isAhead 7 = .ok (.invokevirtual 79, 3) := by decide +kernel
theorem dX3_isAhead_10 : decode cX3_isAhead 10 = .ok (.if_icmp .eq 22, 3) := by decide +kernel
theorem dX3_isAhead_13 : decode cX3_isAhead 13 = .ok (.aload_n 0, 1) := by decide +kernel
theorem dX3_isAhead_14 : decode cX3_isAhead 14 = .ok (.iload_n 1, 1) := by decide +kernel
theorem dX3_isAhead_15 : decode cX3_isAhead 15 = .ok (.invokevirtual 79, 3) := by decide +kernel
theorem dX3_isAhead_18 : decode cX3_isAhead 18 = .ok (.aload_n 0, 1) := by decide +kernel
theorem dX3_isAhead_19 : decode cX3_isAhead 19 = .ok (.iload_n 2, 1) := by decide +kernel
theorem dX3_isAhead_20 : decode cX3_isAhead 20 = .ok (.invokevirtual 79, 3) := by decide +kernel
theorem dX3_isAhead_23 : decode cX3_isAhead 23 = .ok (.if_icmp .le 7, 3) := by decide +kernel
theorem dX3_isAhead_26 : decode cX3_isAhead 26 = .ok (.iconst 1, 1) := by decide +kernel
theorem dX3_isAhead_27 : decode cX3_isAhead 27 = .ok (.goto 4, 3) := by decide +kernel
theorem dX3_isAhead_30 : decode cX3_isAhead 30 = .ok (.iconst 0, 1) := by decide +kernel
theorem dX3_isAhead_31 : decode cX3_isAhead 31 = .ok (.ireturn, 1) := by decide +kernel
theorem dX3_isAhead_32 : decode cX3_isAhead 32 = .ok (.aload_n 0, 1) := by decide +kernel
theorem dX3_isAhead_33 : decode cX3_isAhead 33 = .ok (.iload_n 1, 1) := by decide +kernel
theorem dX3_isAhead_34 : decode cX3_isAhead 34 = .ok (.invokevirtual 69, 3) := by decide +kernel
theorem dX3_isAhead_37 : decode cX3_isAhead 37 = .ok (.aload_n 0, 1) := by decide +kernel
theorem dX3_isAhead_38 : decode cX3_isAhead 38 = .ok (.iload_n 2, 1) := by decide +kernel
theorem dX3_isAhead_39 : decode cX3_isAhead 39 = .ok (.invokevirtual 69, 3) := by decide +kernel
theorem dX3_isAhead_42 : decode cX3_isAhead 42 = .ok (.if_icmp .eq 22, 3) := by decide +kernel
theorem dX3_isAhead_45 : decode cX3_isAhead 45 = .ok (.aload_n 0, 1) := by decide +kernel
theorem dX3_isAhead_46 : decode cX3_isAhead 46 = .ok (.iload_n 1, 1) := by decide +kernel
theorem dX3_isAhead_47 : decode cX3_isAhead 47 = .ok (.invokevirtual 69, 3) := by decide +kernel
theorem dX3_isAhead_50 : decode cX3_isAhead 50 = .ok (.aload_n 0, 1) := by decide +kernel
theorem dX3_isAhead_51 : decode cX3_isAhead 51 = .ok (.iload_n 2, 1) := by decide +kernel
theorem dX3_isAhead_52 : decode cX3_isAhead 52 = .ok (.invokevirtual 69, 3) := by decide +kernel
theorem dX3_isAhead_55 : decode cX3_isAhead 55 = .ok (.if_icmp .le 7, 3) := by decide +kernel
theorem dX3_isAhead_58 : decode cX3_isAhead 58 = .ok (.iconst 1, 1) := by decide +kernel
theorem dX3_isAhead_59 : decode cX3_isAhead 59 = .ok (.goto 4, 3) := by decide +kernel
theorem dX3_isAhead_62 : decode cX3_isAhead 62 = .ok (.iconst 0, 1) := by decide +kernel
theorem dX3_isAhead_63 : decode cX3_isAhead 63 = .ok (.ireturn, 1) := by decide +kernel
theorem dX3_isAhead_64 : decode cX3_isAhead 64 = .ok (.iload_n 1, 1) := by decide +kernel
theorem dX3_isAhead_65 : decode cX3_isAhead 65 = .ok (.iload_n 2, 1) := by decide +kernel
theorem dX3_isAhead_66 : decode cX3_isAhead 66 = .ok (.if_icmp .ge 7, 3) := by decide +kernel
theorem dX3_isAhead_69 : decode cX3_isAhead 69 = .ok (.iconst 1, 1) := by decide +kernel
theorem dX3_isAhead_70 : decode cX3_isAhead 70 = .ok (.goto 4, 3) := by decide +kernel
theorem dX3_isAhead_73 : decode cX3_isAhead 73 = .ok (.iconst 0, 1) := by decide +kernel
theorem dX3_isAhead_74 : decode cX3_isAhead 74 = .ok (.ireturn, 1) := by decide +kernel
theorem dX3_oldestOfKind_0 : decode cX3_oldestOfKind 0 = .ok (.bipush (-15), 2) := by decide +kernel
theorem dX3_oldestOfKind_2 : decode cX3_oldestOfKind 2 = .ok (.istore_n 2, 1) := by decide +kernel
theorem dX3_oldestOfKind_3 : decode cX3_oldestOfKind 3 = .ok (.iconst 0, 1) := by decide +kernel
theorem dX3_oldestOfKind_4 : decode cX3_oldestOfKind 4 = .ok (.istore_n 3, 1) := by decide +kernel
theorem dX3_oldestOfKind_5 : decode cX3_oldestOfKind 5 = .ok (.iload_n 3, 1) := by decide +kernel
theorem dX3_oldestOfKind_6 : decode cX3_oldestOfKind 6 = .ok (.bipush 32, 2) := by decide +kernel
theorem dX3_oldestOfKind_8 : decode cX3_oldestOfKind 8 = .ok (.if_icmp .ge 47, 3) := by decide +kernel
theorem dX3_oldestOfKind_11 : decode cX3_oldestOfKind 11 = .ok (.aload_n 0, 1) := by decide +kernel
theorem dX3_oldestOfKind_12 : decode cX3_oldestOfKind 12 = .ok (.iload_n 3, 1) := by decide +kernel
theorem dX3_oldestOfKind_13 : decode cX3_oldestOfKind 13 = .ok (.invokevirtual 50, 3) := by decide +kernel
