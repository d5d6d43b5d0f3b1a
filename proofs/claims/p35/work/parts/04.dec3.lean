theorem dX4_moveSacks_72 : decode cX4_moveSacks 72 = .ok (.iload_n 3, 1) := by decide +kernel
theorem dX4_moveSacks_73 : decode cX4_moveSacks 73 = .ok (.invokevirtual 165, 3) := by decide +kernel
theorem dX4_moveSacks_76 : decode cX4_moveSacks 76 = .ok (.ifCond .ne 12, 3) := by decide +kernel
theorem dX4_moveSacks_79 : decode cX4_moveSacks 79 = .ok (.aload_n 0, 1) := by decide +kernel
theorem dX4_moveSacks_80 : decode cX4_moveSacks 80 = .ok (.iload_n 2, 1) := by decide +kernel
theorem dX4_moveSacks_81 : decode cX4_moveSacks 81 = .ok (.iload 4, 2) := by decide +kernel
theorem dX4_moveSacks_83 : decode cX4_moveSacks 83 = .ok (.iload_n 3, 1) := by decide +kernel
theorem dX4_moveSacks_84 : decode cX4_moveSacks 84 = .ok (.invokevirtual 242, 3) := by decide +kernel
theorem dX4_moveSacks_87 : decode cX4_moveSacks 87 = .ok (.ireturn, 1) := by decide +kernel
theorem dX4_moveSacks_88 : decode cX4_moveSacks 88 = .ok (.aload_n 0, 1) := by decide +kernel
theorem dX4_moveSacks_89 : decode cX4_moveSacks 89 = .ok (.getfield 10, 3) := by decide +kernel
theorem dX4_moveSacks_92 : decode cX4_moveSacks 92 = .ok (.iload_n 1, 1) := by decide +kernel
theorem dX4_moveSacks_93 : decode cX4_moveSacks 93 = .ok (.invokevirtual 99, 3) := by decide +kernel
theorem dX4_moveSacks_96 : decode cX4_moveSacks 96 = .ok (.aload_n 0, 1) := by decide +kernel
theorem dX4_moveSacks_97 : decode cX4_moveSacks 97 = .ok (.getfield 10, 3) := by decide +kernel
theorem dX4_moveSacks_100 : decode cX4_moveSacks 100 = .ok (.iload_n 2, 1) := by decide +kernel
theorem dX4_moveSacks_101 : decode cX4_moveSacks 101 = .ok (.invokevirtual 99, 3) := by decide +kernel
theorem dX4_moveSacks_104 : decode cX4_moveSacks 104 = .ok (.invokestatic 262, 3) := by decide +kernel
theorem dX4_moveSacks_107 : decode cX4_moveSacks 107 = .ok (.istore 5, 2) := by decide +kernel
theorem dX4_moveSacks_109 : decode cX4_moveSacks 109 = .ok (.aload_n 0, 1) := by decide +kernel
theorem dX4_moveSacks_110 : decode cX4_moveSacks 110 = .ok (.getfield 10, 3) := by decide +kernel
theorem dX4_moveSacks_113 : decode cX4_moveSacks 113 = .ok (.iload_n 1, 1) := by decide +kernel
theorem dX4_moveSacks_114 : decode cX4_moveSacks 114 = .ok (.iload_n 3, 1) := by decide +kernel
theorem dX4_moveSacks_115 : decode cX4_moveSacks 115 = .ok (.invokevirtual 259, 3) := by decide +kernel
theorem dX4_moveSacks_118 : decode cX4_moveSacks 118 = .ok (.aload_n 0, 1) := by decide +kernel
theorem dX4_moveSacks_119 : decode cX4_moveSacks 119 = .ok (.getfield 10, 3) := by decide +kernel
theorem dX4_moveSacks_122 : decode cX4_moveSacks 122 = .ok (.bipush 12, 2) := by decide +kernel
theorem dX4_moveSacks_124 : decode cX4_moveSacks 124 = .ok (.iload_n 3, 1) := by decide +kernel
theorem dX4_moveSacks_125 : decode cX4_moveSacks 125 = .ok (.invokevirtual 245, 3) := by decide +kernel
theorem dX4_moveSacks_128 : decode cX4_moveSacks 128 = .ok (.aload_n 0, 1) := by decide +kernel
theorem dX4_moveSacks_129 : decode cX4_moveSacks 129 = .ok (.getfield 10, 3) := by decide +kernel
theorem dX4_moveSacks_132 : decode cX4_moveSacks 132 = .ok (.iload_n 2, 1) := by decide +kernel
theorem dX4_moveSacks_133 : decode cX4_moveSacks 133 = .ok (.iload 4, 2) := by decide +kernel
theorem dX4_moveSacks_135 : decode cX4_moveSacks 135 = .ok (.iload_n 3, 1) := by decide +kernel
theorem dX4_moveSacks_136 : decode cX4_moveSacks 136 = .ok (.iload 5, 2) := by decide +kernel
theorem dX4_moveSacks_138 : decode cX4_moveSacks 138 = .ok (.invokevirtual 249, 3) := by decide +kernel
theorem dX4_moveSacks_141 : decode cX4_moveSacks 141 = .ok (.ireturn, 1) := by decide +kernel
theorem dX4_fillOrder_0 : decode cX4_fillOrder 0 = .ok (.iload_n 1, 1) := by decide +kernel
theorem dX4_fillOrder_1 : decode cX4_fillOrder 1 = .ok (.invokestatic 162, 3) := by decide +kernel
theorem dX4_fillOrder_4 : decode cX4_fillOrder 4 = .ok (.ifCond .eq 14, 3) := by decide +kernel
theorem dX4_fillOrder_7 : decode cX4_fillOrder 7 = .ok (.iload_n 2, 1) := by decide +kernel
theorem dX4_fillOrder_8 : decode cX4_fillOrder 8 = .ok (.iconst 1, 1) := by decide +kernel
theorem dX4_fillOrder_9 : decode cX4_fillOrder 9 = .ok (.sipush 999, 3) := by decide +kernel
theorem dX4_fillOrder_12 : decode cX4_fillOrder 12 = .ok (.invokestatic 138, 3) := by decide +kernel
theorem dX4_fillOrder_15 : decode cX4_fillOrder 15 = .ok (.ifCond .ne 6, 3) := by decide +kernel
theorem dX4_fillOrder_18 : decode cX4_fillOrder 18 = .ok (.bipush (-12), 2) := by decide +kernel
theorem dX4_fillOrder_20 : decode cX4_fillOrder 20 = .ok (.ireturn, 1) := by decide +kernel
theorem dX4_fillOrder_21 : decode cX4_fillOrder 21 = .ok (.aload_n 0, 1) := by decide +kernel
theorem dX4_fillOrder_22 : decode cX4_fillOrder 22 = .ok (.getfield 10, 3) := by decide +kernel
theorem dX4_fillOrder_25 : decode cX4_fillOrder 25 = .ok (.iload_n 1, 1) := by decide +kernel
theorem dX4_fillOrder_26 : decode cX4_fillOrder 26 = .ok (.invokevirtual 224, 3) := by decide +kernel
theorem dX4_fillOrder_29 : decode cX4_fillOrder 29 = .ok (.istore_n 3, 1) := by decide +kernel
theorem dX4_fillOrder_30 : decode cX4_fillOrder 30 = .ok (.iload_n 3, 1) := by decide +kernel
theorem dX4_fillOrder_31 : decode cX4_fillOrder 31 = .ok (.iload_n 2, 1) := by decide +kernel
theorem dX4_fillOrder_32 : decode cX4_fillOrder 32 = .ok (.if_icmp .ge 10, 3) := by decide +kernel
theorem dX4_fillOrder_35 : decode cX4_fillOrder 35 = .ok (.aload_n 0, 1) := by decide +kernel
theorem dX4_fillOrder_36 : decode cX4_fillOrder 36 = .ok (.iconst 3, 1) := by decide +kernel
theorem dX4_fillOrder_37 : decode cX4_fillOrder 37 = .ok (.iload_n 3, 1) := by decide +kernel
theorem dX4_fillOrder_38 : decode cX4_fillOrder 38 = .ok (.invokevirtual 195, 3) := by decide +kernel
theorem dX4_fillOrder_41 : decode cX4_fillOrder 41 = .ok (.ireturn, 1) := by decide +kernel
theorem dX4_fillOrder_42 : decode cX4_fillOrder 42 = .ok (.iload_n 2, 1) := by decide +kernel
theorem dX4_fillOrder_43 : decode cX4_fillOrder 43 = .ok (.istore 4, 2) := by decide +kernel
theorem dX4_fillOrder_45 : decode cX4_fillOrder 45 = .ok (.iconst 0, 1) := by decide +kernel
theorem dX4_fillOrder_46 : decode cX4_fillOrder 46 = .ok (.istore 5, 2) := by decide +kernel
theorem dX4_fillOrder_48 : decode cX4_fillOrder 48 = .ok (.iload 5, 2) := by decide +kernel
theorem dX4_fillOrder_50 : decode cX4_fillOrder 50 = .ok (.bipush 32, 2) := by decide +kernel
theorem dX4_fillOrder_52 : decode cX4_fillOrder 52 = .ok (.if_icmp .ge 58, 3) := by decide +kernel
theorem dX4_fillOrder_55 : decode cX4_fillOrder 55 = .ok (.iload 4, 2) := by decide +kernel
theorem dX4_fillOrder_57 : decode cX4_fillOrder 57 = .ok (.ifCond .le 53, 3) := by decide +kernel
theorem dX4_fillOrder_60 : decode cX4_fillOrder 60 = .ok (.aload_n 0, 1) := by decide +kernel
theorem dX4_fillOrder_61 : decode cX4_fillOrder 61 = .ok (.getfield 10, 3) := by decide +kernel
theorem dX4_fillOrder_64 : decode cX4_fillOrder 64 = .ok (.iload_n 1, 1) := by decide +kernel
theorem dX4_fillOrder_65 : decode cX4_fillOrder 65 = .ok (.invokevirtual 267, 3) := by decide +kernel
theorem dX4_fillOrder_68 : decode cX4_fillOrder 68 = .ok (.istore 6, 2) := by decide +kernel
theorem dX4_fillOrder_70 : decode cX4_fillOrder 70 = .ok (.iload 4, 2) := by decide +kernel
theorem dX4_fillOrder_72 : decode cX4_fillOrder 72 = .ok (.aload_n 0, 1) := by decide +kernel
theorem dX4_fillOrder_73 : decode cX4_fillOrder 73 = .ok (.getfield 10, 3) := by decide +kernel
theorem dX4_fillOrder_76 : decode cX4_fillOrder 76 = .ok (.iload 6, 2) := by decide +kernel
theorem dX4_fillOrder_78 : decode cX4_fillOrder 78 = .ok (.invokevirtual 96, 3) := by decide +kernel
theorem dX4_fillOrder_81 : decode cX4_fillOrder 81 = .ok (.invokestatic 270, 3) := by decide +kernel
theorem dX4_fillOrder_84 : decode cX4_fillOrder 84 = .ok (.istore 7, 2) := by decide +kernel
theorem dX4_fillOrder_86 : decode cX4_fillOrder 86 = .ok (.aload_n 0, 1) := by decide +kernel
theorem dX4_fillOrder_87 : decode cX4_fillOrder 87 = .ok (.getfield 10, 3) := by decide +kernel
theorem dX4_fillOrder_90 : decode cX4_fillOrder 90 = .ok (.iload 6, 2) := by decide +kernel
theorem dX4_fillOrder_92 : decode cX4_fillOrder 92 = .ok (.iload 7, 2) := by decide +kernel
theorem dX4_fillOrder_94 : decode cX4_fillOrder 94 = .ok (.invokevirtual 259, 3) := by decide +kernel
theorem dX4_fillOrder_97 : decode cX4_fillOrder 97 = .ok (.iload 4, 2) := by decide +kernel
theorem dX4_fillOrder_99 : decode cX4_fillOrder 99 = .ok (.iload 7, 2) := by decide +kernel
theorem dX4_fillOrder_101 : decode cX4_fillOrder 101 = .ok (.isub, 1) := by decide +kernel
theorem dX4_fillOrder_102 : decode cX4_fillOrder 102 = .ok (.istore 4, 2) := by decide +kernel
theorem dX4_fillOrder_104 : decode cX4_fillOrder 104 = .ok (.iinc 5 1, 3) := by decide +kernel
theorem dX4_fillOrder_107 : decode cX4_fillOrder 107 = .ok (.goto (-59), 3) := by decide +kernel
theorem dX4_fillOrder_110 : decode cX4_fillOrder 110 = .ok (.aload_n 0, 1) := by decide +kernel
theorem dX4_fillOrder_111 : decode cX4_fillOrder 111 = .ok (.getfield 10, 3) := by decide +kernel
theorem dX4_fillOrder_114 : decode cX4_fillOrder 114 = .ok (.bipush 10, 2) := by decide +kernel
theorem dX4_fillOrder_116 : decode cX4_fillOrder 116 = .ok (.iload_n 2, 1) := by decide +kernel
theorem dX4_fillOrder_117 : decode cX4_fillOrder 117 = .ok (.invokevirtual 245, 3) := by decide +kernel
theorem dX4_fillOrder_120 : decode cX4_fillOrder 120 = .ok (.aload_n 0, 1) := by decide +kernel
theorem dX4_fillOrder_121 : decode cX4_fillOrder 121 = .ok (.getfield 10, 3) := by decide +kernel
theorem dX4_fillOrder_124 : decode cX4_fillOrder 124 = .ok (.iconst 1, 1) := by decide +kernel
theorem dX4_fillOrder_125 : decode cX4_fillOrder 125 = .ok (.iload_n 1, 1) := by decide +kernel
theorem dX4_fillOrder_126 : decode cX4_fillOrder 126 = .ok (.iload_n 2, 1) := by decide +kernel
theorem dX4_fillOrder_127 : decode cX4_fillOrder 127 = .ok (.invokestatic 172, 3) := by decide +kernel
theorem dX4_fillOrder_130 : decode cX4_fillOrder 130 = .ok (.invokevirtual 245, 3) := by decide +kernel
theorem dX4_fillOrder_133 : decode cX4_fillOrder 133 = .ok (.iload_n 1, 1) := by decide +kernel
theorem dX4_fillOrder_134 : decode cX4_fillOrder 134 = .ok (.iload_n 2, 1) := by decide +kernel
theorem dX4_fillOrder_135 : decode cX4_fillOrder 135 = .ok (.invokestatic 172, 3) := by decide +kernel
theorem dX4_fillOrder_138 : decode cX4_fillOrder 138 = .ok (.ireturn, 1) := by decide +kernel
theorem dX4_mend_0 : decode cX4_mend 0 = .ok (.iload_n 1, 1) := by decide +kernel
theorem dX4_mend_1 : decode cX4_mend 1 = .ok (.invokestatic 111, 3) := by decide +kernel
theorem dX4_mend_4 : decode cX4_mend 4 = .ok (.ifCond .ne 6, 3) := by decide +kernel
theorem dX4_mend_7 : decode cX4_mend 7 = .ok (.bipush (-11), 2) := by decide +kernel
theorem dX4_mend_9 : decode cX4_mend 9 = .ok (.ireturn, 1) := by decide +kernel
theorem dX4_mend_10 : decode cX4_mend 10 = .ok (.aload_n 0, 1) := by decide +kernel
theorem dX4_mend_11 : decode cX4_mend 11 = .ok (.getfield 10, 3) := by decide +kernel
theorem dX4_mend_14 : decode cX4_mend 14 = .ok (.iload_n 1, 1) := by decide +kernel
theorem dX4_mend_15 : decode cX4_mend 15 = .ok (.invokevirtual 123, 3) := by decide +kernel
theorem dX4_mend_18 : decode cX4_mend 18 = .ok (.ifCond .ne 11, 3) := by decide +kernel
theorem dX4_mend_21 : decode cX4_mend 21 = .ok (.aload_n 0, 1) := by decide +kernel
theorem dX4_mend_22 : decode cX4_mend 22 = .ok (.bipush 6, 2) := by decide +kernel
theorem dX4_mend_24 : decode cX4_mend 24 = .ok (.iload_n 1, 1) := by decide +kernel
theorem dX4_mend_25 : decode cX4_mend 25 = .ok (.invokevirtual 195, 3) := by decide +kernel
theorem dX4_mend_28 : decode cX4_mend 28 = .ok (.ireturn, 1) := by decide +kernel
theorem dX4_mend_29 : decode cX4_mend 29 = .ok (.aload_n 0, 1) := by decide +kernel
theorem dX4_mend_30 : decode cX4_mend 30 = .ok (.getfield 10, 3) := by decide +kernel
theorem dX4_mend_33 : decode cX4_mend 33 = .ok (.iload_n 1, 1) := by decide +kernel
theorem dX4_mend_34 : decode cX4_mend 34 = .ok (.invokevirtual 117, 3) := by decide +kernel
theorem dX4_mend_37 : decode cX4_mend 37 = .ok (.iload_n 1, 1) := by decide +kernel
theorem dX4_mend_38 : decode cX4_mend 38 = .ok (.invokestatic 120, 3) := by decide +kernel
theorem dX4_mend_41 : decode cX4_mend 41 = .ok (.if_icmp .le 23, 3) := by decide +kernel
theorem dX4_mend_44 : decode cX4_mend 44 = .ok (.aload_n 0, 1) := by decide +kernel
theorem dX4_mend_45 : decode cX4_mend 45 = .ok (.bipush 7, 2) := by decide +kernel
theorem dX4_mend_47 : decode cX4_mend 47 = .ok (.aload_n 0, 1) := by decide +kernel
theorem dX4_mend_48 : decode cX4_mend 48 = .ok (.getfield 10, 3) := by decide +kernel
theorem dX4_mend_51 : decode cX4_mend 51 = .ok (.iload_n 1, 1) := by decide +kernel
theorem dX4_mend_52 : decode cX4_mend 52 = .ok (.invokevirtual 117, 3) := by decide +kernel
theorem dX4_mend_55 : decode cX4_mend 55 = .ok (.iload_n 1, 1) := by decide +kernel
theorem dX4_mend_56 : decode cX4_mend 56 = .ok (.invokestatic 120, 3) := by decide +kernel
theorem dX4_mend_59 : decode cX4_mend 59 = .ok (.isub, 1) := by decide +kernel
theorem dX4_mend_60 : decode cX4_mend 60 = .ok (.invokevirtual 195, 3) := by decide +kernel
theorem dX4_mend_63 : decode cX4_mend 63 = .ok (.ireturn, 1) := by decide +kernel
theorem dX4_mend_64 : decode cX4_mend 64 = .ok (.iload_n 1, 1) := by decide +kernel
theorem dX4_mend_65 : decode cX4_mend 65 = .ok (.invokestatic 114, 3) := by decide +kernel
theorem dX4_mend_68 : decode cX4_mend 68 = .ok (.iconst 1, 1) := by decide +kernel
theorem dX4_mend_69 : decode cX4_mend 69 = .ok (.iadd, 1) := by decide +kernel
theorem dX4_mend_70 : decode cX4_mend 70 = .ok (.istore_n 2, 1) := by decide +kernel
theorem dX4_mend_71 : decode cX4_mend 71 = .ok (.aload_n 0, 1) := by decide +kernel
theorem dX4_mend_72 : decode cX4_mend 72 = .ok (.getfield 10, 3) := by decide +kernel
theorem dX4_mend_75 : decode cX4_mend 75 = .ok (.iconst 1, 1) := by decide +kernel
theorem dX4_mend_76 : decode cX4_mend 76 = .ok (.invokevirtual 232, 3) := by decide +kernel
theorem dX4_mend_79 : decode cX4_mend 79 = .ok (.iload_n 2, 1) := by decide +kernel
theorem dX4_mend_80 : decode cX4_mend 80 = .ok (.if_icmp .ge 19, 3) := by decide +kernel
theorem dX4_mend_83 : decode cX4_mend 83 = .ok (.aload_n 0, 1) := by decide +kernel
theorem dX4_mend_84 : decode cX4_mend 84 = .ok (.iconst 5, 1) := by decide +kernel
theorem dX4_mend_85 : decode cX4_mend 85 = .ok (.iload_n 2, 1) := by decide +kernel
theorem dX4_mend_86 : decode cX4_mend 86 = .ok (.aload_n 0, 1) := by decide +kernel
theorem dX4_mend_87 : decode cX4_mend 87 = .ok (.getfield 10, 3) := by decide +kernel
theorem dX4_mend_90 : decode cX4_mend 90 = .ok (.iconst 1, 1) := by decide +kernel
theorem dX4_mend_91 : decode cX4_mend 91 = .ok (.invokevirtual 232, 3) := by decide +kernel
theorem dX4_mend_94 : decode cX4_mend 94 = .ok (.isub, 1) := by decide +kernel
theorem dX4_mend_95 : decode cX4_mend 95 = .ok (.invokevirtual 195, 3) := by decide +kernel
theorem dX4_mend_98 : decode cX4_mend 98 = .ok (.ireturn, 1) := by decide +kernel
theorem dX4_mend_99 : decode cX4_mend 99 = .ok (.aload_n 0, 1) := by decide +kernel
theorem dX4_mend_100 : decode cX4_mend 100 = .ok (.getfield 10, 3) := by decide +kernel
theorem dX4_mend_103 : decode cX4_mend 103 = .ok (.iload_n 1, 1) := by decide +kernel
theorem dX4_mend_104 : decode cX4_mend 104 = .ok (.invokevirtual 273, 3) := by decide +kernel
theorem dX4_mend_107 : decode cX4_mend 107 = .ok (.aload_n 0, 1) := by decide +kernel
theorem dX4_mend_108 : decode cX4_mend 108 = .ok (.getfield 10, 3) := by decide +kernel
theorem dX4_mend_111 : decode cX4_mend 111 = .ok (.iconst 1, 1) := by decide +kernel
theorem dX4_mend_112 : decode cX4_mend 112 = .ok (.iload_n 2, 1) := by decide +kernel
theorem dX4_mend_113 : decode cX4_mend 113 = .ok (.ineg, 1) := by decide +kernel
theorem dX4_mend_114 : decode cX4_mend 114 = .ok (.invokevirtual 245, 3) := by decide +kernel
theorem dX4_mend_117 : decode cX4_mend 117 = .ok (.aload_n 0, 1) := by decide +kernel
theorem dX4_mend_118 : decode cX4_mend 118 = .ok (.getfield 10, 3) := by decide +kernel
theorem dX4_mend_121 : decode cX4_mend 121 = .ok (.bipush 15, 2) := by decide +kernel
theorem dX4_mend_123 : decode cX4_mend 123 = .ok (.iload_n 2, 1) := by decide +kernel
theorem dX4_mend_124 : decode cX4_mend 124 = .ok (.invokevirtual 245, 3) := by decide +kernel
theorem dX4_mend_127 : decode cX4_mend 127 = .ok (.aload_n 0, 1) := by decide +kernel
theorem dX4_mend_128 : decode cX4_mend 128 = .ok (.getfield 10, 3) := by decide +kernel
theorem dX4_mend_131 : decode cX4_mend 131 = .ok (.iconst 1, 1) := by decide +kernel
theorem dX4_mend_132 : decode cX4_mend 132 = .ok (.invokevirtual 232, 3) := by decide +kernel
theorem dX4_mend_135 : decode cX4_mend 135 = .ok (.ireturn, 1) := by decide +kernel
theorem dX4_letWeeksPass_0 : decode cX4_letWeeksPass 0 = .ok (.iload_n 1, 1) := by decide +kernel
theorem dX4_letWeeksPass_1 : decode cX4_letWeeksPass 1 = .ok (.iconst 1, 1) := by decide +kernel
theorem dX4_letWeeksPass_2 : decode cX4_letWeeksPass 2 = .ok (.bipush 52, 2) := by decide +kernel
theorem dX4_letWeeksPass_4 : decode cX4_letWeeksPass 4 = .ok (.invokestatic 138, 3) := by decide +kernel
theorem dX4_letWeeksPass_7 : decode cX4_letWeeksPass 7 = .ok (.ifCond .ne 6, 3) := by decide +kernel
theorem dX4_letWeeksPass_10 : decode cX4_letWeeksPass 10 = .ok (.bipush (-12), 2) := by decide +kernel
theorem dX4_letWeeksPass_12 : decode cX4_letWeeksPass 12 = .ok (.ireturn, 1) := by decide +kernel
theorem dX4_letWeeksPass_13 : decode cX4_letWeeksPass 13 = .ok (.iconst 0, 1) := by decide +kernel
theorem dX4_letWeeksPass_14 : decode cX4_letWeeksPass 14 = .ok (.istore_n 2, 1) := by decide +kernel
theorem dX4_letWeeksPass_15 : decode cX4_letWeeksPass 15 = .ok (.iconst 0, 1) := by decide +kernel
theorem dX4_letWeeksPass_16 : decode cX4_letWeeksPass 16 = .ok (.istore_n 3, 1) := by decide +kernel
theorem dX4_letWeeksPass_17 : decode cX4_letWeeksPass 17 = .ok (.iload_n 3, 1) := by decide +kernel
theorem dX4_letWeeksPass_18 : decode cX4_letWeeksPass 18 = .ok (.iload_n 1, 1) := by decide +kernel
theorem dX4_letWeeksPass_19 : decode cX4_letWeeksPass 19 = .ok (.if_icmp .ge 19, 3) := by decide +kernel
theorem dX4_letWeeksPass_22 : decode cX4_letWeeksPass 22 = .ok (.iload_n 2, 1) := by decide +kernel
theorem dX4_letWeeksPass_23 : decode cX4_letWeeksPass 23 = .ok (.aload_n 0, 1) := by decide +kernel
theorem dX4_letWeeksPass_24 : decode cX4_letWeeksPass 24 = .ok (.getfield 10, 3) := by decide +kernel
theorem dX4_letWeeksPass_27 : decode cX4_letWeeksPass 27 = .ok (.invokevirtual 276, 3) := by decide +kernel
theorem dX4_letWeeksPass_30 : decode cX4_letWeeksPass 30 = .ok (.iadd, 1) := by decide +kernel
theorem dX4_letWeeksPass_31 : decode cX4_letWeeksPass 31 = .ok (.istore_n 2, 1) := by decide +kernel
theorem dX4_letWeeksPass_32 : decode cX4_letWeeksPass 32 = .ok (.iinc 3 1, 3) := by decide +kernel
theorem dX4_letWeeksPass_35 : decode cX4_letWeeksPass 35 = .ok (.goto (-18), 3) := by decide +kernel
theorem dX4_letWeeksPass_38 : decode cX4_letWeeksPass 38 = .ok (.aload_n 0, 1) := by decide +kernel
theorem dX4_letWeeksPass_39 : decode cX4_letWeeksPass 39 = .ok (.getfield 10, 3) := by decide +kernel
theorem dX4_letWeeksPass_42 : decode cX4_letWeeksPass 42 = .ok (.iconst 0, 1) := by decide +kernel
theorem dX4_letWeeksPass_43 : decode cX4_letWeeksPass 43 = .ok (.iload_n 1, 1) := by decide +kernel
theorem dX4_letWeeksPass_44 : decode cX4_letWeeksPass 44 = .ok (.invokevirtual 245, 3) := by decide +kernel
theorem dX4_letWeeksPass_47 : decode cX4_letWeeksPass 47 = .ok (.aload_n 0, 1) := by decide +kernel
theorem dX4_letWeeksPass_48 : decode cX4_letWeeksPass 48 = .ok (.getfield 10, 3) := by decide +kernel
theorem dX4_letWeeksPass_51 : decode cX4_letWeeksPass 51 = .ok (.bipush 11, 2) := by decide +kernel
theorem dX4_letWeeksPass_53 : decode cX4_letWeeksPass 53 = .ok (.iload_n 2, 1) := by decide +kernel
theorem dX4_letWeeksPass_54 : decode cX4_letWeeksPass 54 = .ok (.invokevirtual 245, 3) := by decide +kernel
theorem dX4_letWeeksPass_57 : decode cX4_letWeeksPass 57 = .ok (.iload_n 2, 1) := by decide +kernel
theorem dX4_letWeeksPass_58 : decode cX4_letWeeksPass 58 = .ok (.ireturn, 1) := by decide +kernel
theorem dX4_carryOut_0 : decode cX4_carryOut 0 = .ok (.aload_n 0, 1) := by decide +kernel
theorem dX4_carryOut_1 : decode cX4_carryOut 1 = .ok (.getfield 36, 3) := by decide +kernel
theorem dX4_carryOut_4 : decode cX4_carryOut 4 = .ok (.iload_n 1, 1) := by decide +kernel
theorem dX4_carryOut_5 : decode cX4_carryOut 5 = .ok (.iconst 1, 1) := by decide +kernel
theorem dX4_carryOut_6 : decode cX4_carryOut 6 = .ok (.invokevirtual 279, 3) := by decide +kernel
theorem dX4_carryOut_9 : decode cX4_carryOut 9 = .ok (.istore_n 2, 1) := by decide +kernel
theorem dX4_carryOut_10 : decode cX4_carryOut 10 = .ok (.aload_n 0, 1) := by decide +kernel
theorem dX4_carryOut_11 : decode cX4_carryOut 11 = .ok (.getfield 36, 3) := by decide +kernel
theorem dX4_carryOut_14 : decode cX4_carryOut 14 = .ok (.iload_n 1, 1) := by decide +kernel
theorem dX4_carryOut_15 : decode cX4_carryOut 15 = .ok (.iconst 2, 1) := by decide +kernel
theorem dX4_carryOut_16 : decode cX4_carryOut 16 = .ok (.invokevirtual 279, 3) := by decide +kernel
theorem dX4_carryOut_19 : decode cX4_carryOut 19 = .ok (.istore_n 3, 1) := by decide +kernel
theorem dX4_carryOut_20 : decode cX4_carryOut 20 = .ok (.aload_n 0, 1) := by decide +kernel
theorem dX4_carryOut_21 : decode cX4_carryOut 21 = .ok (.getfield 36, 3) := by decide +kernel
theorem dX4_carryOut_24 : decode cX4_carryOut 24 = .ok (.iload_n 1, 1) := by decide +kernel
theorem dX4_carryOut_25 : decode cX4_carryOut 25 = .ok (.iconst 3, 1) := by decide +kernel
theorem dX4_carryOut_26 : decode cX4_carryOut 26 = .ok (.invokevirtual 279, 3) := by decide +kernel
theorem dX4_carryOut_29 : decode cX4_carryOut 29 = .ok (.istore 4, 2) := by decide +kernel
theorem dX4_carryOut_31 : decode cX4_carryOut 31 = .ok (.aload_n 0, 1) := by decide +kernel
theorem dX4_carryOut_32 : decode cX4_carryOut 32 = .ok (.getfield 36, 3) := by decide +kernel
theorem dX4_carryOut_35 : decode cX4_carryOut 35 = .ok (.iload_n 1, 1) := by decide +kernel
theorem dX4_carryOut_36 : decode cX4_carryOut 36 = .ok (.invokevirtual 282, 3) := by decide +kernel
theorem dX4_carryOut_39 : decode cX4_carryOut 39 = .ok (.tableswitch 81 0 5 #[37, 46, 53, 62, 69, 75], 37) := by decide +kernel
theorem dX4_carryOut_76 : decode cX4_carryOut 76 = .ok (.aload_n 0, 1) := by decide +kernel
theorem dX4_carryOut_77 : decode cX4_carryOut 77 = .ok (.iload_n 2, 1) := by decide +kernel
theorem dX4_carryOut_78 : decode cX4_carryOut 78 = .ok (.iload_n 3, 1) := by decide +kernel
theorem dX4_carryOut_79 : decode cX4_carryOut 79 = .ok (.iload 4, 2) := by decide +kernel
theorem dX4_carryOut_81 : decode cX4_carryOut 81 = .ok (.invokevirtual 62, 3) := by decide +kernel
theorem dX4_carryOut_84 : decode cX4_carryOut 84 = .ok (.ireturn, 1) := by decide +kernel
theorem dX4_carryOut_85 : decode cX4_carryOut 85 = .ok (.aload_n 0, 1) := by decide +kernel
theorem dX4_carryOut_86 : decode cX4_carryOut 86 = .ok (.iload_n 2, 1) := by decide +kernel
theorem dX4_carryOut_87 : decode cX4_carryOut 87 = .ok (.iload_n 3, 1) := by decide +kernel
theorem dX4_carryOut_88 : decode cX4_carryOut 88 = .ok (.invokevirtual 70, 3) := by decide +kernel
theorem dX4_carryOut_91 : decode cX4_carryOut 91 = .ok (.ireturn, 1) := by decide +kernel
theorem dX4_carryOut_92 : decode cX4_carryOut 92 = .ok (.aload_n 0, 1) := by decide +kernel
theorem dX4_carryOut_93 : decode cX4_carryOut 93 = .ok (.iload_n 2, 1) := by decide +kernel
theorem dX4_carryOut_94 : decode cX4_carryOut 94 = .ok (.iload_n 3, 1) := by decide +kernel
theorem dX4_carryOut_95 : decode cX4_carryOut 95 = .ok (.iload 4, 2) := by decide +kernel
theorem dX4_carryOut_97 : decode cX4_carryOut 97 = .ok (.invokevirtual 74, 3) := by decide +kernel
theorem dX4_carryOut_100 : decode cX4_carryOut 100 = .ok (.ireturn, 1) := by decide +kernel
theorem dX4_carryOut_101 : decode cX4_carryOut 101 = .ok (.aload_n 0, 1) := by decide +kernel
theorem dX4_carryOut_102 : decode cX4_carryOut 102 = .ok (.iload_n 2, 1) := by decide +kernel
theorem dX4_carryOut_103 : decode cX4_carryOut 103 = .ok (.iload_n 3, 1) := by decide +kernel
theorem dX4_carryOut_104 : decode cX4_carryOut 104 = .ok (.invokevirtual 77, 3) := by decide +kernel
theorem dX4_carryOut_107 : decode cX4_carryOut 107 = .ok (.ireturn, 1) := by decide +kernel
theorem dX4_carryOut_108 : decode cX4_carryOut 108 = .ok (.aload_n 0, 1) := by decide +kernel
theorem dX4_carryOut_109 : decode cX4_carryOut 109 = .ok (.iload_n 2, 1) := by decide +kernel
theorem dX4_carryOut_110 : decode cX4_carryOut 110 = .ok (.invokevirtual 80, 3) := by decide +kernel
theorem dX4_carryOut_113 : decode cX4_carryOut 113 = .ok (.ireturn, 1) := by decide +kernel
theorem dX4_carryOut_114 : decode cX4_carryOut 114 = .ok (.aload_n 0, 1) := by decide +kernel
theorem dX4_carryOut_115 : decode cX4_carryOut 115 = .ok (.iload_n 2, 1) := by decide +kernel
theorem dX4_carryOut_116 : decode cX4_carryOut 116 = .ok (.invokevirtual 83, 3) := by decide +kernel
theorem dX4_carryOut_119 : decode cX4_carryOut 119 = .ok (.ireturn, 1) := by decide +kernel
theorem dX4_carryOut_120 : decode cX4_carryOut 120 = .ok (.bipush (-12), 2) := by decide +kernel
theorem dX4_carryOut_122 : decode cX4_carryOut 122 = .ok (.ireturn, 1) := by decide +kernel
theorem dX4_remember_0 : decode cX4_remember 0 = .ok (.iload_n 1, 1) := by decide +kernel
theorem dX4_remember_1 : decode cX4_remember 1 = .ok (.ifCond .lt 14, 3) := by decide +kernel
theorem dX4_remember_4 : decode cX4_remember 4 = .ok (.aload_n 0, 1) := by decide +kernel
theorem dX4_remember_5 : decode cX4_remember 5 = .ok (.getfield 29, 3) := by decide +kernel
theorem dX4_remember_8 : decode cX4_remember 8 = .ok (.aload_n 0, 1) := by decide +kernel
theorem dX4_remember_9 : decode cX4_remember 9 = .ok (.getfield 16, 3) := by decide +kernel
theorem dX4_remember_12 : decode cX4_remember 12 = .ok (.invokevirtual 285, 3) := by decide +kernel
theorem dX4_remember_15 : decode cX4_remember 15 = .ok (.iload_n 1, 1) := by decide +kernel
theorem dX4_remember_16 : decode cX4_remember 16 = .ok (.ireturn, 1) := by decide +kernel
theorem dX4_refuse_0 : decode cX4_refuse 0 = .ok (.aload_n 0, 1) := by decide +kernel
theorem dX4_refuse_1 : decode cX4_refuse 1 = .ok (.iload_n 1, 1) := by decide +kernel
theorem dX4_refuse_2 : decode cX4_refuse 2 = .ok (.putfield 47, 3) := by decide +kernel
theorem dX4_refuse_5 : decode cX4_refuse 5 = .ok (.aload_n 0, 1) := by decide +kernel
theorem dX4_refuse_6 : decode cX4_refuse 6 = .ok (.iload_n 2, 1) := by decide +kernel
theorem dX4_refuse_7 : decode cX4_refuse 7 = .ok (.putfield 51, 3) := by decide +kernel
theorem dX4_refuse_10 : decode cX4_refuse 10 = .ok (.bipush (-14), 2) := by decide +kernel
theorem dX4_refuse_12 : decode cX4_refuse 12 = .ok (.ireturn, 1) := by decide +kernel
theorem dX4_hasRoom_0 : decode cX4_hasRoom 0 = .ok (.aload_n 0, 1) := by decide +kernel
theorem dX4_hasRoom_1 : decode cX4_hasRoom 1 = .ok (.getfield 10, 3) := by decide +kernel
theorem dX4_hasRoom_4 : decode cX4_hasRoom 4 = .ok (.iload_n 1, 1) := by decide +kernel
theorem dX4_hasRoom_5 : decode cX4_hasRoom 5 = .ok (.invokevirtual 90, 3) := by decide +kernel
theorem dX4_hasRoom_8 : decode cX4_hasRoom 8 = .ok (.ifCond .ne 31, 3) := by decide +kernel
theorem dX4_hasRoom_11 : decode cX4_hasRoom 11 = .ok (.aload_n 0, 1) := by decide +kernel
theorem dX4_hasRoom_12 : decode cX4_hasRoom 12 = .ok (.getfield 10, 3) := by decide +kernel
theorem dX4_hasRoom_15 : decode cX4_hasRoom 15 = .ok (.iload_n 1, 1) := by decide +kernel
theorem dX4_hasRoom_16 : decode cX4_hasRoom 16 = .ok (.invokevirtual 93, 3) := by decide +kernel
theorem dX4_hasRoom_19 : decode cX4_hasRoom 19 = .ok (.iload_n 2, 1) := by decide +kernel
theorem dX4_hasRoom_20 : decode cX4_hasRoom 20 = .ok (.if_icmp .ne 23, 3) := by decide +kernel
theorem dX4_hasRoom_23 : decode cX4_hasRoom 23 = .ok (.aload_n 0, 1) := by decide +kernel
theorem dX4_hasRoom_24 : decode cX4_hasRoom 24 = .ok (.getfield 10, 3) := by decide +kernel
theorem dX4_hasRoom_27 : decode cX4_hasRoom 27 = .ok (.iload_n 1, 1) := by decide +kernel
theorem dX4_hasRoom_28 : decode cX4_hasRoom 28 = .ok (.invokevirtual 96, 3) := by decide +kernel
theorem dX4_hasRoom_31 : decode cX4_hasRoom 31 = .ok (.iload_n 3, 1) := by decide +kernel
theorem dX4_hasRoom_32 : decode cX4_hasRoom 32 = .ok (.iadd, 1) := by decide +kernel
theorem dX4_hasRoom_33 : decode cX4_hasRoom 33 = .ok (.sipush 200, 3) := by decide +kernel
theorem dX4_hasRoom_36 : decode cX4_hasRoom 36 = .ok (.if_icmp .gt 7, 3) := by decide +kernel
theorem dX4_hasRoom_39 : decode cX4_hasRoom 39 = .ok (.iconst 1, 1) := by decide +kernel
theorem dX4_hasRoom_40 : decode cX4_hasRoom 40 = .ok (.goto 4, 3) := by decide +kernel
theorem dX4_hasRoom_43 : decode cX4_hasRoom 43 = .ok (.iconst 0, 1) := by decide +kernel
theorem dX4_hasRoom_44 : decode cX4_hasRoom 44 = .ok (.ireturn, 1) := by decide +kernel
theorem dX4_refuseRoom_0 : decode cX4_refuseRoom 0 = .ok (.aload_n 0, 1) := by decide +kernel
theorem dX4_refuseRoom_1 : decode cX4_refuseRoom 1 = .ok (.getfield 10, 3) := by decide +kernel
theorem dX4_refuseRoom_4 : decode cX4_refuseRoom 4 = .ok (.iload_n 1, 1) := by decide +kernel
theorem dX4_refuseRoom_5 : decode cX4_refuseRoom 5 = .ok (.invokevirtual 93, 3) := by decide +kernel
theorem dX4_refuseRoom_8 : decode cX4_refuseRoom 8 = .ok (.iload_n 2, 1) := by decide +kernel
theorem dX4_refuseRoom_9 : decode cX4_refuseRoom 9 = .ok (.if_icmp .eq 17, 3) := by decide +kernel
theorem dX4_refuseRoom_12 : decode cX4_refuseRoom 12 = .ok (.aload_n 0, 1) := by decide +kernel
theorem dX4_refuseRoom_13 : decode cX4_refuseRoom 13 = .ok (.iconst 1, 1) := by decide +kernel
theorem dX4_refuseRoom_14 : decode cX4_refuseRoom 14 = .ok (.aload_n 0, 1) := by decide +kernel
theorem dX4_refuseRoom_15 : decode cX4_refuseRoom 15 = .ok (.getfield 10, 3) := by decide +kernel
theorem dX4_refuseRoom_18 : decode cX4_refuseRoom 18 = .ok (.iload_n 1, 1) := by decide +kernel
theorem dX4_refuseRoom_19 : decode cX4_refuseRoom 19 = .ok (.invokevirtual 93, 3) := by decide +kernel
theorem dX4_refuseRoom_22 : decode cX4_refuseRoom 22 = .ok (.invokevirtual 195, 3) := by decide +kernel
theorem dX4_refuseRoom_25 : decode cX4_refuseRoom 25 = .ok (.ireturn, 1) := by decide +kernel
theorem dX4_refuseRoom_26 : decode cX4_refuseRoom 26 = .ok (.aload_n 0, 1) := by decide +kernel
theorem dX4_refuseRoom_27 : decode cX4_refuseRoom 27 = .ok (.iconst 2, 1) := by decide +kernel
theorem dX4_refuseRoom_28 : decode cX4_refuseRoom 28 = .ok (.aload_n 0, 1) := by decide +kernel
theorem dX4_refuseRoom_29 : decode cX4_refuseRoom 29 = .ok (.getfield 10, 3) := by decide +kernel
theorem dX4_refuseRoom_32 : decode cX4_refuseRoom 32 = .ok (.iload_n 1, 1) := by decide +kernel
theorem dX4_refuseRoom_33 : decode cX4_refuseRoom 33 = .ok (.invokevirtual 96, 3) := by decide +kernel
theorem dX4_refuseRoom_36 : decode cX4_refuseRoom 36 = .ok (.iload_n 3, 1) := by decide +kernel
theorem dX4_refuseRoom_37 : decode cX4_refuseRoom 37 = .ok (.iadd, 1) := by decide +kernel
theorem dX4_refuseRoom_38 : decode cX4_refuseRoom 38 = .ok (.sipush 200, 3) := by decide +kernel
theorem dX4_refuseRoom_41 : decode cX4_refuseRoom 41 = .ok (.isub, 1) := by decide +kernel
theorem dX4_refuseRoom_42 : decode cX4_refuseRoom 42 = .ok (.invokevirtual 195, 3) := by decide +kernel
theorem dX4_refuseRoom_45 : decode cX4_refuseRoom 45 = .ok (.ireturn, 1) := by decide +kernel
theorem dX4_hasSacks_0 : decode cX4_hasSacks 0 = .ok (.aload_n 0, 1) := by decide +kernel
theorem dX4_hasSacks_1 : decode cX4_hasSacks 1 = .ok (.getfield 10, 3) := by decide +kernel
theorem dX4_hasSacks_4 : decode cX4_hasSacks 4 = .ok (.iload_n 1, 1) := by decide +kernel
theorem dX4_hasSacks_5 : decode cX4_hasSacks 5 = .ok (.invokevirtual 96, 3) := by decide +kernel
theorem dX4_hasSacks_8 : decode cX4_hasSacks 8 = .ok (.iload_n 2, 1) := by decide +kernel
theorem dX4_hasSacks_9 : decode cX4_hasSacks 9 = .ok (.if_icmp .lt 7, 3) := by decide +kernel
theorem dX4_hasSacks_12 : decode cX4_hasSacks 12 = .ok (.iconst 1, 1) := by decide +kernel
theorem dX4_hasSacks_13 : decode cX4_hasSacks 13 = .ok (.goto 4, 3) := by decide +kernel
theorem dX4_hasSacks_16 : decode cX4_hasSacks 16 = .ok (.iconst 0, 1) := by decide +kernel
theorem dX4_hasSacks_17 : decode cX4_hasSacks 17 = .ok (.ireturn, 1) := by decide +kernel
theorem dX4_refuseSacks_0 : decode cX4_refuseSacks 0 = .ok (.aload_n 0, 1) := by decide +kernel
theorem dX4_refuseSacks_1 : decode cX4_refuseSacks 1 = .ok (.getfield 10, 3) := by decide +kernel
theorem dX4_refuseSacks_4 : decode cX4_refuseSacks 4 = .ok (.iload_n 1, 1) := by decide +kernel
theorem dX4_refuseSacks_5 : decode cX4_refuseSacks 5 = .ok (.invokevirtual 90, 3) := by decide +kernel
theorem dX4_refuseSacks_8 : decode cX4_refuseSacks 8 = .ok (.ifCond .eq 11, 3) := by decide +kernel
theorem dX4_refuseSacks_11 : decode cX4_refuseSacks 11 = .ok (.aload_n 0, 1) := by decide +kernel
theorem dX4_refuseSacks_12 : decode cX4_refuseSacks 12 = .ok (.bipush 8, 2) := by decide +kernel
theorem dX4_refuseSacks_14 : decode cX4_refuseSacks 14 = .ok (.iload_n 1, 1) := by decide +kernel
theorem dX4_refuseSacks_15 : decode cX4_refuseSacks 15 = .ok (.invokevirtual 195, 3) := by decide +kernel
theorem dX4_refuseSacks_18 : decode cX4_refuseSacks 18 = .ok (.ireturn, 1) := by decide +kernel
theorem dX4_refuseSacks_19 : decode cX4_refuseSacks 19 = .ok (.aload_n 0, 1) := by decide +kernel
theorem dX4_refuseSacks_20 : decode cX4_refuseSacks 20 = .ok (.iconst 3, 1) := by decide +kernel
theorem dX4_refuseSacks_21 : decode cX4_refuseSacks 21 = .ok (.aload_n 0, 1) := by decide +kernel
theorem dX4_refuseSacks_22 : decode cX4_refuseSacks 22 = .ok (.getfield 10, 3) := by decide +kernel
theorem dX4_refuseSacks_25 : decode cX4_refuseSacks 25 = .ok (.iload_n 1, 1) := by decide +kernel
theorem dX4_refuseSacks_26 : decode cX4_refuseSacks 26 = .ok (.invokevirtual 96, 3) := by decide +kernel
theorem dX4_refuseSacks_29 : decode cX4_refuseSacks 29 = .ok (.invokevirtual 195, 3) := by decide +kernel
theorem dX4_refuseSacks_32 : decode cX4_refuseSacks 32 = .ok (.ireturn, 1) := by decide +kernel
theorem dX4_stepsBelow_0 : decode cX4_stepsBelow 0 = .ok (.aload_n 0, 1) := by decide +kernel
theorem dX4_stepsBelow_1 : decode cX4_stepsBelow 1 = .ok (.iload_n 1, 1) := by decide +kernel
theorem dX4_stepsBelow_2 : decode cX4_stepsBelow 2 = .ok (.invokevirtual 123, 3) := by decide +kernel
theorem dX4_stepsBelow_5 : decode cX4_stepsBelow 5 = .ok (.ifCond .eq 8, 3) := by decide +kernel
theorem dX4_stepsBelow_8 : decode cX4_stepsBelow 8 = .ok (.iload_n 2, 1) := by decide +kernel
theorem dX4_stepsBelow_9 : decode cX4_stepsBelow 9 = .ok (.iconst 5, 1) := by decide +kernel
theorem dX4_stepsBelow_10 : decode cX4_stepsBelow 10 = .ok (.if_icmp .le 5, 3) := by decide +kernel
theorem dX4_stepsBelow_13 : decode cX4_stepsBelow 13 = .ok (.iconst 1, 1) := by decide +kernel
theorem dX4_stepsBelow_14 : decode cX4_stepsBelow 14 = .ok (.ireturn, 1) := by decide +kernel
theorem dX4_stepsBelow_15 : decode cX4_stepsBelow 15 = .ok (.iconst 1, 1) := by decide +kernel
theorem dX4_stepsBelow_16 : decode cX4_stepsBelow 16 = .ok (.istore_n 3, 1) := by decide +kernel
theorem dX4_stepsBelow_17 : decode cX4_stepsBelow 17 = .ok (.iload_n 1, 1) := by decide +kernel
theorem dX4_stepsBelow_18 : decode cX4_stepsBelow 18 = .ok (.iconst 1, 1) := by decide +kernel
theorem dX4_stepsBelow_19 : decode cX4_stepsBelow 19 = .ok (.isub, 1) := by decide +kernel
theorem dX4_stepsBelow_20 : decode cX4_stepsBelow 20 = .ok (.istore 4, 2) := by decide +kernel
theorem dX4_stepsBelow_22 : decode cX4_stepsBelow 22 = .ok (.iconst 0, 1) := by decide +kernel
theorem dX4_stepsBelow_23 : decode cX4_stepsBelow 23 = .ok (.istore 5, 2) := by decide +kernel
theorem dX4_stepsBelow_25 : decode cX4_stepsBelow 25 = .ok (.iload 5, 2) := by decide +kernel
theorem dX4_stepsBelow_27 : decode cX4_stepsBelow 27 = .ok (.bipush 32, 2) := by decide +kernel
theorem dX4_stepsBelow_29 : decode cX4_stepsBelow 29 = .ok (.if_icmp .ge 40, 3) := by decide +kernel
theorem dX4_stepsBelow_32 : decode cX4_stepsBelow 32 = .ok (.iload 4, 2) := by decide +kernel
theorem dX4_stepsBelow_34 : decode cX4_stepsBelow 34 = .ok (.iload_n 1, 1) := by decide +kernel
theorem dX4_stepsBelow_35 : decode cX4_stepsBelow 35 = .ok (.invokestatic 126, 3) := by decide +kernel
theorem dX4_stepsBelow_38 : decode cX4_stepsBelow 38 = .ok (.if_icmp .le 31, 3) := by decide +kernel
theorem dX4_stepsBelow_41 : decode cX4_stepsBelow 41 = .ok (.iload_n 3, 1) := by decide +kernel
theorem dX4_stepsBelow_42 : decode cX4_stepsBelow 42 = .ok (.aload_n 0, 1) := by decide +kernel
theorem dX4_stepsBelow_43 : decode cX4_stepsBelow 43 = .ok (.iload 4, 2) := by decide +kernel
theorem dX4_stepsBelow_45 : decode cX4_stepsBelow 45 = .ok (.iload_n 2, 1) := by decide +kernel
theorem dX4_stepsBelow_46 : decode cX4_stepsBelow 46 = .ok (.iconst 1, 1) := by decide +kernel
theorem dX4_stepsBelow_47 : decode cX4_stepsBelow 47 = .ok (.iadd, 1) := by decide +kernel
theorem dX4_stepsBelow_48 : decode cX4_stepsBelow 48 = .ok (.invokestatic 142, 3) := by decide +kernel
theorem dX4_stepsBelow_51 : decode cX4_stepsBelow 51 = .ok (.iadd, 1) := by decide +kernel
theorem dX4_stepsBelow_52 : decode cX4_stepsBelow 52 = .ok (.istore_n 3, 1) := by decide +kernel
theorem dX4_stepsBelow_53 : decode cX4_stepsBelow 53 = .ok (.iload 4, 2) := by decide +kernel
theorem dX4_stepsBelow_55 : decode cX4_stepsBelow 55 = .ok (.iload 4, 2) := by decide +kernel
theorem dX4_stepsBelow_57 : decode cX4_stepsBelow 57 = .ok (.invokestatic 114, 3) := by decide +kernel
theorem dX4_stepsBelow_60 : decode cX4_stepsBelow 60 = .ok (.isub, 1) := by decide +kernel
theorem dX4_stepsBelow_61 : decode cX4_stepsBelow 61 = .ok (.istore 4, 2) := by decide +kernel
theorem dX4_stepsBelow_63 : decode cX4_stepsBelow 63 = .ok (.iinc 5 1, 3) := by decide +kernel
theorem dX4_stepsBelow_66 : decode cX4_stepsBelow 66 = .ok (.goto (-41), 3) := by decide +kernel
theorem dX4_stepsBelow_69 : decode cX4_stepsBelow 69 = .ok (.iload_n 3, 1) := by decide +kernel
theorem dX4_stepsBelow_70 : decode cX4_stepsBelow 70 = .ok (.ireturn, 1) := by decide +kernel
theorem dX4_stepsByKnown_0 : decode cX4_stepsByKnown 0 = .ok (.aload_n 0, 1) := by decide +kernel
theorem dX4_stepsByKnown_1 : decode cX4_stepsByKnown 1 = .ok (.getfield 10, 3) := by decide +kernel
theorem dX4_stepsByKnown_4 : decode cX4_stepsByKnown 4 = .ok (.iload_n 1, 1) := by decide +kernel
theorem dX4_stepsByKnown_5 : decode cX4_stepsByKnown 5 = .ok (.invokevirtual 123, 3) := by decide +kernel
theorem dX4_stepsByKnown_8 : decode cX4_stepsByKnown 8 = .ok (.ifCond .eq 19, 3) := by decide +kernel
theorem dX4_stepsByKnown_11 : decode cX4_stepsByKnown 11 = .ok (.iconst 1, 1) := by decide +kernel
theorem dX4_stepsByKnown_12 : decode cX4_stepsByKnown 12 = .ok (.aload_n 0, 1) := by decide +kernel
theorem dX4_stepsByKnown_13 : decode cX4_stepsByKnown 13 = .ok (.iload_n 1, 1) := by decide +kernel
theorem dX4_stepsByKnown_14 : decode cX4_stepsByKnown 14 = .ok (.iconst 1, 1) := by decide +kernel
theorem dX4_stepsByKnown_15 : decode cX4_stepsByKnown 15 = .ok (.isub, 1) := by decide +kernel
theorem dX4_stepsByKnown_16 : decode cX4_stepsByKnown 16 = .ok (.iload_n 1, 1) := by decide +kernel
theorem dX4_stepsByKnown_17 : decode cX4_stepsByKnown 17 = .ok (.invokestatic 126, 3) := by decide +kernel
theorem dX4_stepsByKnown_20 : decode cX4_stepsByKnown 20 = .ok (.invokevirtual 153, 3) := by decide +kernel
theorem dX4_stepsByKnown_23 : decode cX4_stepsByKnown 23 = .ok (.iadd, 1) := by decide +kernel
theorem dX4_stepsByKnown_24 : decode cX4_stepsByKnown 24 = .ok (.goto 4, 3) := by decide +kernel
theorem dX4_stepsByKnown_27 : decode cX4_stepsByKnown 27 = .ok (.iconst 1, 1) := by decide +kernel
theorem dX4_stepsByKnown_28 : decode cX4_stepsByKnown 28 = .ok (.ireturn, 1) := by decide +kernel
theorem dX4_knownSteps_0 : decode cX4_knownSteps 0 = .ok (.iconst 0, 1) := by decide +kernel
theorem dX4_knownSteps_1 : decode cX4_knownSteps 1 = .ok (.istore_n 3, 1) := by decide +kernel
theorem dX4_knownSteps_2 : decode cX4_knownSteps 2 = .ok (.iload_n 1, 1) := by decide +kernel
theorem dX4_knownSteps_3 : decode cX4_knownSteps 3 = .ok (.istore 4, 2) := by decide +kernel
theorem dX4_knownSteps_5 : decode cX4_knownSteps 5 = .ok (.iconst 0, 1) := by decide +kernel
theorem dX4_knownSteps_6 : decode cX4_knownSteps 6 = .ok (.istore 5, 2) := by decide +kernel
theorem dX4_knownSteps_8 : decode cX4_knownSteps 8 = .ok (.iload 5, 2) := by decide +kernel
theorem dX4_knownSteps_10 : decode cX4_knownSteps 10 = .ok (.bipush 32, 2) := by decide +kernel
theorem dX4_knownSteps_12 : decode cX4_knownSteps 12 = .ok (.if_icmp .ge 37, 3) := by decide +kernel
theorem dX4_knownSteps_15 : decode cX4_knownSteps 15 = .ok (.iload 4, 2) := by decide +kernel
theorem dX4_knownSteps_17 : decode cX4_knownSteps 17 = .ok (.iload_n 2, 1) := by decide +kernel
theorem dX4_knownSteps_18 : decode cX4_knownSteps 18 = .ok (.if_icmp .le 31, 3) := by decide +kernel
theorem dX4_knownSteps_21 : decode cX4_knownSteps 21 = .ok (.iload_n 3, 1) := by decide +kernel
theorem dX4_knownSteps_22 : decode cX4_knownSteps 22 = .ok (.aload_n 0, 1) := by decide +kernel
theorem dX4_knownSteps_23 : decode cX4_knownSteps 23 = .ok (.getfield 54, 3) := by decide +kernel
theorem dX4_knownSteps_26 : decode cX4_knownSteps 26 = .ok (.iload 4, 2) := by decide +kernel
theorem dX4_knownSteps_28 : decode cX4_knownSteps 28 = .ok (.invokestatic 205, 3) := by decide +kernel
theorem dX4_knownSteps_31 : decode cX4_knownSteps 31 = .ok (.iadd, 1) := by decide +kernel
theorem dX4_knownSteps_32 : decode cX4_knownSteps 32 = .ok (.istore_n 3, 1) := by decide +kernel
theorem dX4_knownSteps_33 : decode cX4_knownSteps 33 = .ok (.iload 4, 2) := by decide +kernel
theorem dX4_knownSteps_35 : decode cX4_knownSteps 35 = .ok (.iload 4, 2) := by decide +kernel
theorem dX4_knownSteps_37 : decode cX4_knownSteps 37 = .ok (.invokestatic 114, 3) := by decide +kernel
theorem dX4_knownSteps_40 : decode cX4_knownSteps 40 = .ok (.isub, 1) := by decide +kernel
theorem dX4_knownSteps_41 : decode cX4_knownSteps 41 = .ok (.istore 4, 2) := by decide +kernel
theorem dX4_knownSteps_43 : decode cX4_knownSteps 43 = .ok (.iinc 5 1, 3) := by decide +kernel
theorem dX4_knownSteps_46 : decode cX4_knownSteps 46 = .ok (.goto (-38), 3) := by decide +kernel
theorem dX4_knownSteps_49 : decode cX4_knownSteps 49 = .ok (.iload_n 3, 1) := by decide +kernel
theorem dX4_knownSteps_50 : decode cX4_knownSteps 50 = .ok (.ireturn, 1) := by decide +kernel
theorem dX4_isWithin_0 : decode cX4_isWithin 0 = .ok (.iload_n 0, 1) := by decide +kernel
theorem dX4_isWithin_1 : decode cX4_isWithin 1 = .ok (.iload_n 1, 1) := by decide +kernel
theorem dX4_isWithin_2 : decode cX4_isWithin 2 = .ok (.if_icmp .lt 12, 3) := by decide +kernel
theorem dX4_isWithin_5 : decode cX4_isWithin 5 = .ok (.iload_n 0, 1) := by decide +kernel
theorem dX4_isWithin_6 : decode cX4_isWithin 6 = .ok (.iload_n 2, 1) := by decide +kernel
theorem dX4_isWithin_7 : decode cX4_isWithin 7 = .ok (.if_icmp .gt 7, 3) := by decide +kernel
theorem dX4_isWithin_10 : decode cX4_isWithin 10 = .ok (.iconst 1, 1) := by decide +kernel
theorem dX4_isWithin_11 : decode cX4_isWithin 11 = .ok (.goto 4, 3) := by decide +kernel
theorem dX4_isWithin_14 : decode cX4_isWithin 14 = .ok (.iconst 0, 1) := by decide +kernel
theorem dX4_isWithin_15 : decode cX4_isWithin 15 = .ok (.ireturn, 1) := by decide +kernel
theorem dX4_isBay_0 : decode cX4_isBay 0 = .ok (.iload_n 0, 1) := by decide +kernel
theorem dX4_isBay_1 : decode cX4_isBay 1 = .ok (.iconst 0, 1) := by decide +kernel
theorem dX4_isBay_2 : decode cX4_isBay 2 = .ok (.bipush 31, 2) := by decide +kernel
theorem dX4_isBay_4 : decode cX4_isBay 4 = .ok (.invokestatic 138, 3) := by decide +kernel
theorem dX4_isBay_7 : decode cX4_isBay 7 = .ok (.ireturn, 1) := by decide +kernel
theorem dX4_isRung_0 : decode cX4_isRung 0 = .ok (.iload_n 0, 1) := by decide +kernel
theorem dX4_isRung_1 : decode cX4_isRung 1 = .ok (.iconst 1, 1) := by decide +kernel
theorem dX4_isRung_2 : decode cX4_isRung 2 = .ok (.bipush 32, 2) := by decide +kernel
theorem dX4_isRung_4 : decode cX4_isRung 4 = .ok (.invokestatic 138, 3) := by decide +kernel
theorem dX4_isRung_7 : decode cX4_isRung 7 = .ok (.ireturn, 1) := by decide +kernel
theorem dX4_isKind_0 : decode cX4_isKind 0 = .ok (.iload_n 0, 1) := by decide +kernel
theorem dX4_isKind_1 : decode cX4_isKind 1 = .ok (.iconst 0, 1) := by decide +kernel
theorem dX4_isKind_2 : decode cX4_isKind 2 = .ok (.iconst 3, 1) := by decide +kernel
theorem dX4_isKind_3 : decode cX4_isKind 3 = .ok (.invokestatic 138, 3) := by decide +kernel
theorem dX4_isKind_6 : decode cX4_isKind 6 = .ok (.ireturn, 1) := by decide +kernel
theorem dX4_sizeOf_0 : decode cX4_sizeOf 0 = .ok (.iload_n 0, 1) := by decide +kernel
theorem dX4_sizeOf_1 : decode cX4_sizeOf 1 = .ok (.iload_n 0, 1) := by decide +kernel
theorem dX4_sizeOf_2 : decode cX4_sizeOf 2 = .ok (.ineg, 1) := by decide +kernel
theorem dX4_sizeOf_3 : decode cX4_sizeOf 3 = .ok (.iand, 1) := by decide +kernel
theorem dX4_sizeOf_4 : decode cX4_sizeOf 4 = .ok (.ireturn, 1) := by decide +kernel
theorem dX4_loadOf_0 : decode cX4_loadOf 0 = .ok (.bipush 100, 2) := by decide +kernel
theorem dX4_loadOf_2 : decode cX4_loadOf 2 = .ok (.iload_n 0, 1) := by decide +kernel
theorem dX4_loadOf_3 : decode cX4_loadOf 3 = .ok (.invokestatic 114, 3) := by decide +kernel
theorem dX4_loadOf_6 : decode cX4_loadOf 6 = .ok (.imul, 1) := by decide +kernel
theorem dX4_loadOf_7 : decode cX4_loadOf 7 = .ok (.ireturn, 1) := by decide +kernel
theorem dX4_firstBayOf_0 : decode cX4_firstBayOf 0 = .ok (.iload_n 0, 1) := by decide +kernel
theorem dX4_firstBayOf_1 : decode cX4_firstBayOf 1 = .ok (.iload_n 0, 1) := by decide +kernel
theorem dX4_firstBayOf_2 : decode cX4_firstBayOf 2 = .ok (.invokestatic 114, 3) := by decide +kernel
theorem dX4_firstBayOf_5 : decode cX4_firstBayOf 5 = .ok (.isub, 1) := by decide +kernel
theorem dX4_firstBayOf_6 : decode cX4_firstBayOf 6 = .ok (.ireturn, 1) := by decide +kernel
theorem dX4_rungsBelow_0 : decode cX4_rungsBelow 0 = .ok (.iconst 0, 1) := by decide +kernel
theorem dX4_rungsBelow_1 : decode cX4_rungsBelow 1 = .ok (.istore_n 1, 1) := by decide +kernel
theorem dX4_rungsBelow_2 : decode cX4_rungsBelow 2 = .ok (.iload_n 0, 1) := by decide +kernel
theorem dX4_rungsBelow_3 : decode cX4_rungsBelow 3 = .ok (.iconst 1, 1) := by decide +kernel
theorem dX4_rungsBelow_4 : decode cX4_rungsBelow 4 = .ok (.isub, 1) := by decide +kernel
theorem dX4_rungsBelow_5 : decode cX4_rungsBelow 5 = .ok (.istore_n 2, 1) := by decide +kernel
theorem dX4_rungsBelow_6 : decode cX4_rungsBelow 6 = .ok (.iconst 0, 1) := by decide +kernel
theorem dX4_rungsBelow_7 : decode cX4_rungsBelow 7 = .ok (.istore_n 3, 1) := by decide +kernel
theorem dX4_rungsBelow_8 : decode cX4_rungsBelow 8 = .ok (.iload_n 3, 1) := by decide +kernel
theorem dX4_rungsBelow_9 : decode cX4_rungsBelow 9 = .ok (.bipush 32, 2) := by decide +kernel
theorem dX4_rungsBelow_11 : decode cX4_rungsBelow 11 = .ok (.if_icmp .ge 27, 3) := by decide +kernel
theorem dX4_rungsBelow_14 : decode cX4_rungsBelow 14 = .ok (.iload_n 2, 1) := by decide +kernel
theorem dX4_rungsBelow_15 : decode cX4_rungsBelow 15 = .ok (.iload_n 0, 1) := by decide +kernel
theorem dX4_rungsBelow_16 : decode cX4_rungsBelow 16 = .ok (.invokestatic 126, 3) := by decide +kernel
theorem dX4_rungsBelow_19 : decode cX4_rungsBelow 19 = .ok (.if_icmp .le 19, 3) := by decide +kernel
theorem dX4_rungsBelow_22 : decode cX4_rungsBelow 22 = .ok (.iinc 1 1, 3) := by decide +kernel
theorem dX4_rungsBelow_25 : decode cX4_rungsBelow 25 = .ok (.iload_n 2, 1) := by decide +kernel
theorem dX4_rungsBelow_26 : decode cX4_rungsBelow 26 = .ok (.iload_n 2, 1) := by decide +kernel
theorem dX4_rungsBelow_27 : decode cX4_rungsBelow 27 = .ok (.invokestatic 114, 3) := by decide +kernel
theorem dX4_rungsBelow_30 : decode cX4_rungsBelow 30 = .ok (.isub, 1) := by decide +kernel
theorem dX4_rungsBelow_31 : decode cX4_rungsBelow 31 = .ok (.istore_n 2, 1) := by decide +kernel
theorem dX4_rungsBelow_32 : decode cX4_rungsBelow 32 = .ok (.iinc 3 1, 3) := by decide +kernel
theorem dX4_rungsBelow_35 : decode cX4_rungsBelow 35 = .ok (.goto (-27), 3) := by decide +kernel
theorem dX4_rungsBelow_38 : decode cX4_rungsBelow 38 = .ok (.iload_n 1, 1) := by decide +kernel
theorem dX4_rungsBelow_39 : decode cX4_rungsBelow 39 = .ok (.ireturn, 1) := by decide +kernel
theorem dX4_coinsFor_0 : decode cX4_coinsFor 0 = .ok (.iload_n 0, 1) := by decide +kernel
theorem dX4_coinsFor_1 : decode cX4_coinsFor 1 = .ok (.tableswitch 44 0 2 #[27, 36, 40], 27) := by decide +kernel
theorem dX4_coinsFor_28 : decode cX4_coinsFor 28 = .ok (.iconst 4, 1) := by decide +kernel
theorem dX4_coinsFor_29 : decode cX4_coinsFor 29 = .ok (.iload_n 1, 1) := by decide +kernel
theorem dX4_coinsFor_30 : decode cX4_coinsFor 30 = .ok (.imul, 1) := by decide +kernel
theorem dX4_coinsFor_31 : decode cX4_coinsFor 31 = .ok (.iload_n 1, 1) := by decide +kernel
theorem dX4_coinsFor_32 : decode cX4_coinsFor 32 = .ok (.bipush 10, 2) := by decide +kernel
theorem dX4_coinsFor_34 : decode cX4_coinsFor 34 = .ok (.idiv, 1) := by decide +kernel
theorem dX4_coinsFor_35 : decode cX4_coinsFor 35 = .ok (.isub, 1) := by decide +kernel
theorem dX4_coinsFor_36 : decode cX4_coinsFor 36 = .ok (.ireturn, 1) := by decide +kernel
theorem dX4_coinsFor_37 : decode cX4_coinsFor 37 = .ok (.iconst 3, 1) := by decide +kernel
theorem dX4_coinsFor_38 : decode cX4_coinsFor 38 = .ok (.iload_n 1, 1) := by decide +kernel
theorem dX4_coinsFor_39 : decode cX4_coinsFor 39 = .ok (.imul, 1) := by decide +kernel
theorem dX4_coinsFor_40 : decode cX4_coinsFor 40 = .ok (.ireturn, 1) := by decide +kernel
theorem dX4_coinsFor_41 : decode cX4_coinsFor 41 = .ok (.iconst 2, 1) := by decide +kernel
theorem dX4_coinsFor_42 : decode cX4_coinsFor 42 = .ok (.iload_n 1, 1) := by decide +kernel
theorem dX4_coinsFor_43 : decode cX4_coinsFor 43 = .ok (.imul, 1) := by decide +kernel
theorem dX4_coinsFor_44 : decode cX4_coinsFor 44 = .ok (.ireturn, 1) := by decide +kernel
theorem dX4_coinsFor_45 : decode cX4_coinsFor 45 = .ok (.iconst 3, 1) := by decide +kernel
theorem dX4_coinsFor_46 : decode cX4_coinsFor 46 = .ok (.iload_n 1, 1) := by decide +kernel
theorem dX4_coinsFor_47 : decode cX4_coinsFor 47 = .ok (.imul, 1) := by decide +kernel
theorem dX4_coinsFor_48 : decode cX4_coinsFor 48 = .ok (.iload_n 1, 1) := by decide +kernel
theorem dX4_coinsFor_49 : decode cX4_coinsFor 49 = .ok (.bipush 20, 2) := by decide +kernel
theorem dX4_coinsFor_51 : decode cX4_coinsFor 51 = .ok (.idiv, 1) := by decide +kernel
theorem dX4_coinsFor_52 : decode cX4_coinsFor 52 = .ok (.isub, 1) := by decide +kernel
theorem dX4_coinsFor_53 : decode cX4_coinsFor 53 = .ok (.ireturn, 1) := by decide +kernel
theorem dX4_at_0 : decode cX4_at 0 = .ok (.iload_n 1, 1) := by decide +kernel
theorem dX4_at_1 : decode cX4_at 1 = .ok (.ifCond .lt 15, 3) := by decide +kernel
theorem dX4_at_4 : decode cX4_at 4 = .ok (.iload_n 1, 1) := by decide +kernel
theorem dX4_at_5 : decode cX4_at 5 = .ok (.aload_n 0, 1) := by decide +kernel
theorem dX4_at_6 : decode cX4_at 6 = .ok (.arraylength, 1) := by decide +kernel
theorem dX4_at_7 : decode cX4_at 7 = .ok (.if_icmp .ge 9, 3) := by decide +kernel
theorem dX4_at_10 : decode cX4_at 10 = .ok (.aload_n 0, 1) := by decide +kernel
theorem dX4_at_11 : decode cX4_at 11 = .ok (.iload_n 1, 1) := by decide +kernel
theorem dX4_at_12 : decode cX4_at 12 = .ok (.iaload, 1) := by decide +kernel
theorem dX4_at_13 : decode cX4_at 13 = .ok (.goto 4, 3) := by decide +kernel
theorem dX4_at_16 : decode cX4_at 16 = .ok (.iconst 0, 1) := by decide +kernel
theorem dX4_at_17 : decode cX4_at 17 = .ok (.ireturn, 1) := by decide +kernel
theorem dX4_put_0 : decode cX4_put 0 = .ok (.iload_n 1, 1) := by decide +kernel
theorem dX4_put_1 : decode cX4_put 1 = .ok (.ifCond .lt 13, 3) := by decide +kernel
theorem dX4_put_4 : decode cX4_put 4 = .ok (.iload_n 1, 1) := by decide +kernel
theorem dX4_put_5 : decode cX4_put 5 = .ok (.aload_n 0, 1) := by decide +kernel
theorem dX4_put_6 : decode cX4_put 6 = .ok (.arraylength, 1) := by decide +kernel
theorem dX4_put_7 : decode cX4_put 7 = .ok (.if_icmp .ge 7, 3) := by decide +kernel
theorem dX4_put_10 : decode cX4_put 10 = .ok (.aload_n 0, 1) := by decide +kernel
theorem dX4_put_11 : decode cX4_put 11 = .ok (.iload_n 1, 1) := by decide +kernel
theorem dX4_put_12 : decode cX4_put 12 = .ok (.iload_n 2, 1) := by decide +kernel
theorem dX4_put_13 : decode cX4_put 13 = .ok (.iastore, 1) := by decide +kernel
theorem dX4_put_14 : decode cX4_put 14 = .ok (.return_, 1) := by decide +kernel
theorem dX4_copyRow_0 : decode cX4_copyRow 0 = .ok (.iconst 0, 1) := by decide +kernel
theorem dX4_copyRow_1 : decode cX4_copyRow 1 = .ok (.istore_n 2, 1) := by decide +kernel
theorem dX4_copyRow_2 : decode cX4_copyRow 2 = .ok (.iload_n 2, 1) := by decide +kernel
theorem dX4_copyRow_3 : decode cX4_copyRow 3 = .ok (.aload_n 0, 1) := by decide +kernel
theorem dX4_copyRow_4 : decode cX4_copyRow 4 = .ok (.arraylength, 1) := by decide +kernel
theorem dX4_copyRow_5 : decode cX4_copyRow 5 = .ok (.if_icmp .ge 21, 3) := by decide +kernel
theorem dX4_copyRow_8 : decode cX4_copyRow 8 = .ok (.iload_n 2, 1) := by decide +kernel
theorem dX4_copyRow_9 : decode cX4_copyRow 9 = .ok (.aload_n 1, 1) := by decide +kernel
theorem dX4_copyRow_10 : decode cX4_copyRow 10 = .ok (.arraylength, 1) := by decide +kernel
theorem dX4_copyRow_11 : decode cX4_copyRow 11 = .ok (.if_icmp .ge 15, 3) := by decide +kernel
theorem dX4_copyRow_14 : decode cX4_copyRow 14 = .ok (.aload_n 1, 1) := by decide +kernel
theorem dX4_copyRow_15 : decode cX4_copyRow 15 = .ok (.iload_n 2, 1) := by decide +kernel
theorem dX4_copyRow_16 : decode cX4_copyRow 16 = .ok (.aload_n 0, 1) := by decide +kernel
theorem dX4_copyRow_17 : decode cX4_copyRow 17 = .ok (.iload_n 2, 1) := by decide +kernel
theorem dX4_copyRow_18 : decode cX4_copyRow 18 = .ok (.iaload, 1) := by decide +kernel
theorem dX4_copyRow_19 : decode cX4_copyRow 19 = .ok (.iastore, 1) := by decide +kernel
theorem dX4_copyRow_20 : decode cX4_copyRow 20 = .ok (.iinc 2 1, 3) := by decide +kernel
theorem dX4_copyRow_23 : decode cX4_copyRow 23 = .ok (.goto (-21), 3) := by decide +kernel
theorem dX4_copyRow_26 : decode cX4_copyRow 26 = .ok (.return_, 1) := by decide +kernel
theorem dJ6_bitCount_0f7a4_0 : decode cJ6_bitCount_0f7a4 0 = .ok (.iload_n 0, 1) := by decide +kernel
theorem dJ6_bitCount_0f7a4_1 : decode cJ6_bitCount_0f7a4 1 = .ok (.iload_n 0, 1) := by decide +kernel
theorem dJ6_bitCount_0f7a4_2 : decode cJ6_bitCount_0f7a4 2 = .ok (.iconst 1, 1) := by decide +kernel
theorem dJ6_bitCount_0f7a4_3 : decode cJ6_bitCount_0f7a4 3 = .ok (.iushr, 1) := by decide +kernel
theorem dJ6_bitCount_0f7a4_4 : decode cJ6_bitCount_0f7a4 4 = .ok (.ldc_w 265, 3) := by decide +kernel
theorem dJ6_bitCount_0f7a4_7 : decode cJ6_bitCount_0f7a4 7 = .ok (.iand, 1) := by decide +kernel
theorem dJ6_bitCount_0f7a4_8 : decode cJ6_bitCount_0f7a4 8 = .ok (.isub, 1) := by decide +kernel
theorem dJ6_bitCount_0f7a4_9 : decode cJ6_bitCount_0f7a4 9 = .ok (.istore_n 0, 1) := by decide +kernel
theorem dJ6_bitCount_0f7a4_10 : decode cJ6_bitCount_0f7a4 10 = .ok (.iload_n 0, 1) := by decide +kernel
theorem dJ6_bitCount_0f7a4_11 : decode cJ6_bitCount_0f7a4 11 = .ok (.ldc_w 266, 3) := by decide +kernel
theorem dJ6_bitCount_0f7a4_14 : decode cJ6_bitCount_0f7a4 14 = .ok (.iand, 1) := by decide +kernel
theorem dJ6_bitCount_0f7a4_15 : decode cJ6_bitCount_0f7a4 15 = .ok (.iload_n 0, 1) := by decide +kernel
theorem dJ6_bitCount_0f7a4_16 : decode cJ6_bitCount_0f7a4 16 = .ok (.iconst 2, 1) := by decide +kernel
theorem dJ6_bitCount_0f7a4_17 : decode cJ6_bitCount_0f7a4 17 = .ok (.iushr, 1) := by decide +kernel
theorem dJ6_bitCount_0f7a4_18 : decode cJ6_bitCount_0f7a4 18 = .ok (.ldc_w 266, 3) := by decide +kernel
theorem dJ6_bitCount_0f7a4_21 : decode cJ6_bitCount_0f7a4 21 = .ok (.iand, 1) := by decide +kernel
theorem dJ6_bitCount_0f7a4_22 : decode cJ6_bitCount_0f7a4 22 = .ok (.iadd, 1) := by decide +kernel
theorem dJ6_bitCount_0f7a4_23 : decode cJ6_bitCount_0f7a4 23 = .ok (.istore_n 0, 1) := by decide +kernel
theorem dJ6_bitCount_0f7a4_24 : decode cJ6_bitCount_0f7a4 24 = .ok (.iload_n 0, 1) := by decide +kernel
theorem dJ6_bitCount_0f7a4_25 : decode cJ6_bitCount_0f7a4 25 = .ok (.iload_n 0, 1) := by decide +kernel
theorem dJ6_bitCount_0f7a4_26 : decode cJ6_bitCount_0f7a4 26 = .ok (.iconst 4, 1) := by decide +kernel
theorem dJ6_bitCount_0f7a4_27 : decode cJ6_bitCount_0f7a4 27 = .ok (.iushr, 1) := by decide +kernel
theorem dJ6_bitCount_0f7a4_28 : decode cJ6_bitCount_0f7a4 28 = .ok (.iadd, 1) := by decide +kernel
theorem dJ6_bitCount_0f7a4_29 : decode cJ6_bitCount_0f7a4 29 = .ok (.ldc_w 267, 3) := by decide +kernel
theorem dJ6_bitCount_0f7a4_32 : decode cJ6_bitCount_0f7a4 32 = .ok (.iand, 1) := by decide +kernel
theorem dJ6_bitCount_0f7a4_33 : decode cJ6_bitCount_0f7a4 33 = .ok (.istore_n 0, 1) := by decide +kernel
theorem dJ6_bitCount_0f7a4_34 : decode cJ6_bitCount_0f7a4 34 = .ok (.iload_n 0, 1) := by decide +kernel
theorem dJ6_bitCount_0f7a4_35 : decode cJ6_bitCount_0f7a4 35 = .ok (.iload_n 0, 1) := by decide +kernel
theorem dJ6_bitCount_0f7a4_36 : decode cJ6_bitCount_0f7a4 36 = .ok (.bipush 8, 2) := by decide +kernel
theorem dJ6_bitCount_0f7a4_38 : decode cJ6_bitCount_0f7a4 38 = .ok (.iushr, 1) := by decide +kernel
theorem dJ6_bitCount_0f7a4_39 : decode cJ6_bitCount_0f7a4 39 = .ok (.iadd, 1) := by decide +kernel
theorem dJ6_bitCount_0f7a4_40 : decode cJ6_bitCount_0f7a4 40 = .ok (.istore_n 0, 1) := by decide +kernel
theorem dJ6_bitCount_0f7a4_41 : decode cJ6_bitCount_0f7a4 41 = .ok (.iload_n 0, 1) := by decide +kernel
theorem dJ6_bitCount_0f7a4_42 : decode cJ6_bitCount_0f7a4 42 = .ok (.iload_n 0, 1) := by decide +kernel
theorem dJ6_bitCount_0f7a4_43 : decode cJ6_bitCount_0f7a4 43 = .ok (.bipush 16, 2) := by decide +kernel
theorem dJ6_bitCount_0f7a4_45 : decode cJ6_bitCount_0f7a4 45 = .ok (.iushr, 1) := by decide +kernel
theorem dJ6_bitCount_0f7a4_46 : decode cJ6_bitCount_0f7a4 46 = .ok (.iadd, 1) := by decide +kernel
theorem dJ6_bitCount_0f7a4_47 : decode cJ6_bitCount_0f7a4 47 = .ok (.istore_n 0, 1) := by decide +kernel
theorem dJ6_bitCount_0f7a4_48 : decode cJ6_bitCount_0f7a4 48 = .ok (.iload_n 0, 1) := by decide +kernel
theorem dJ6_bitCount_0f7a4_49 : decode cJ6_bitCount_0f7a4 49 = .ok (.bipush 63, 2) := by decide +kernel
theorem dJ6_bitCount_0f7a4_51 : decode cJ6_bitCount_0f7a4 51 = .ok (.iand, 1) := by decide +kernel
theorem dJ6_bitCount_0f7a4_52 : decode cJ6_bitCount_0f7a4 52 = .ok (.ireturn, 1) := by decide +kernel
theorem dJ9_max_7cf53_0 : decode cJ9_max_7cf53 0 = .ok (.iload_n 0, 1) := by decide +kernel
theorem dJ9_max_7cf53_1 : decode cJ9_max_7cf53 1 = .ok (.iload_n 1, 1) := by decide +kernel
theorem dJ9_max_7cf53_2 : decode cJ9_max_7cf53 2 = .ok (.if_icmp .lt 7, 3) := by decide +kernel
theorem dJ9_max_7cf53_5 : decode cJ9_max_7cf53 5 = .ok (.iload_n 0, 1) := by decide +kernel
theorem dJ9_max_7cf53_6 : decode cJ9_max_7cf53 6 = .ok (.goto 4, 3) := by decide +kernel
theorem dJ9_max_7cf53_9 : decode cJ9_max_7cf53 9 = .ok (.iload_n 1, 1) := by decide +kernel
theorem dJ9_max_7cf53_10 : decode cJ9_max_7cf53 10 = .ok (.ireturn, 1) := by decide +kernel
theorem dJ9_min_7cf53_0 : decode cJ9_min_7cf53 0 = .ok (.iload_n 0, 1) := by decide +kernel
theorem dJ9_min_7cf53_1 : decode cJ9_min_7cf53 1 = .ok (.iload_n 1, 1) := by decide +kernel
theorem dJ9_min_7cf53_2 : decode cJ9_min_7cf53 2 = .ok (.if_icmp .gt 7, 3) := by decide +kernel
theorem dJ9_min_7cf53_5 : decode cJ9_min_7cf53 5 = .ok (.iload_n 0, 1) := by decide +kernel
theorem dJ9_min_7cf53_6 : decode cJ9_min_7cf53 6 = .ok (.goto 4, 3) := by decide +kernel
theorem dJ9_min_7cf53_9 : decode cJ9_min_7cf53 9 = .ok (.iload_n 1, 1) := by decide +kernel
theorem dJ9_min_7cf53_10 : decode cJ9_min_7cf53 10 = .ok (.ireturn, 1) := by decide +kernel
theorem dJ0_length_8abf5_0 : decode cJ0_length_8abf5 0 = .ok (.aload_n 0, 1) := by decide +kernel
theorem dJ0_length_8abf5_1 : decode cJ0_length_8abf5 1 = .ok (.getfield 9, 3) := by decide +kernel
theorem dJ0_length_8abf5_4 : decode cJ0_length_8abf5 4 = .ok (.arraylength, 1) := by decide +kernel
theorem dJ0_length_8abf5_5 : decode cJ0_length_8abf5 5 = .ok (.aload_n 0, 1) := by decide +kernel
theorem dJ0_length_8abf5_6 : decode cJ0_length_8abf5 6 = .ok (.invokevirtual 335, 3) := by decide +kernel
theorem dJ0_length_8abf5_9 : decode cJ0_length_8abf5 9 = .ok (.ishr, 1) := by decide +kernel
theorem dJ0_length_8abf5_10 : decode cJ0_length_8abf5 10 = .ok (.ireturn, 1) := by decide +kernel
theorem dJ0_isEmpty_aae02_0 : decode cJ0_isEmpty_aae02 0 = .ok (.aload_n 0, 1) := by decide +kernel
theorem dJ0_isEmpty_aae02_1 : decode cJ0_isEmpty_aae02 1 = .ok (.getfield 9, 3) := by decide +kernel
theorem dJ0_isEmpty_aae02_4 : decode cJ0_isEmpty_aae02 4 = .ok (.arraylength, 1) := by decide +kernel
theorem dJ0_isEmpty_aae02_5 : decode cJ0_isEmpty_aae02 5 = .ok (.ifCond .ne 7, 3) := by decide +kernel
theorem dJ0_isEmpty_aae02_8 : decode cJ0_isEmpty_aae02 8 = .ok (.iconst 1, 1) := by decide +kernel
theorem dJ0_isEmpty_aae02_9 : decode cJ0_isEmpty_aae02 9 = .ok (.goto 4, 3) := by decide +kernel
theorem dJ0_isEmpty_aae02_12 : decode cJ0_isEmpty_aae02 12 = .ok (.iconst 0, 1) := by decide +kernel
theorem dJ0_isEmpty_aae02_13 : decode cJ0_isEmpty_aae02 13 = .ok (.ireturn, 1) := by decide +kernel
theorem dJ0_charAt_5068e_0 : decode cJ0_charAt_5068e 0 = .ok (.aload_n 0, 1) := by decide +kernel
theorem dJ0_charAt_5068e_1 : decode cJ0_charAt_5068e 1 = .ok (.invokevirtual 492, 3) := by decide +kernel
theorem dJ0_charAt_5068e_4 : decode cJ0_charAt_5068e 4 = .ok (.ifCond .eq 12, 3) := by decide +kernel
theorem dJ0_charAt_5068e_7 : decode cJ0_charAt_5068e 7 = .ok (.aload_n 0, 1) := by decide +kernel
theorem dJ0_charAt_5068e_8 : decode cJ0_charAt_5068e 8 = .ok (.getfield 9, 3) := by decide +kernel
theorem dJ0_charAt_5068e_11 : decode cJ0_charAt_5068e 11 = .ok (.iload_n 1, 1) := by decide +kernel
theorem dJ0_charAt_5068e_12 : decode cJ0_charAt_5068e 12 = .ok (.invokestatic 495, 3) := by decide +kernel
theorem dJ0_charAt_5068e_15 : decode cJ0_charAt_5068e 15 = .ok (.ireturn, 1) := by decide +kernel
theorem dJ0_charAt_5068e_16 : decode cJ0_charAt_5068e 16 = .ok (.aload_n 0, 1) := by decide +kernel
theorem dJ0_charAt_5068e_17 : decode cJ0_charAt_5068e 17 = .ok (.getfield 9, 3) := by decide +kernel
theorem dJ0_charAt_5068e_20 : decode cJ0_charAt_5068e 20 = .ok (.iload_n 1, 1) := by decide +kernel
theorem dJ0_charAt_5068e_21 : decode cJ0_charAt_5068e 21 = .ok (.invokestatic 498, 3) := by decide +kernel
theorem dJ0_charAt_5068e_24 : decode cJ0_charAt_5068e 24 = .ok (.ireturn, 1) := by decide +kernel
theorem dJ0_coder_7d493_0 : decode cJ0_coder_7d493 0 = .ok (.getstatic 38, 3) := by decide +kernel
theorem dJ0_coder_7d493_3 : decode cJ0_coder_7d493 3 = .ok (.ifCond .eq 10, 3) := by decide +kernel
theorem dJ0_coder_7d493_6 : decode cJ0_coder_7d493 6 = .ok (.aload_n 0, 1) := by decide +kernel
theorem dJ0_coder_7d493_7 : decode cJ0_coder_7d493 7 = .ok (.getfield 15, 3) := by decide +kernel
theorem dJ0_coder_7d493_10 : decode cJ0_coder_7d493 10 = .ok (.goto 4, 3) := by decide +kernel
theorem dJ0_coder_7d493_13 : decode cJ0_coder_7d493 13 = .ok (.iconst 1, 1) := by decide +kernel
theorem dJ0_coder_7d493_14 : decode cJ0_coder_7d493 14 = .ok (.ireturn, 1) := by decide +kernel
theorem dJ0_isLatin1_aae02_0 : decode cJ0_isLatin1_aae02 0 = .ok (.getstatic 38, 3) := by decide +kernel
theorem dJ0_isLatin1_aae02_3 : decode cJ0_isLatin1_aae02 3 = .ok (.ifCond .eq 14, 3) := by decide +kernel
theorem dJ0_isLatin1_aae02_6 : decode cJ0_isLatin1_aae02 6 = .ok (.aload_n 0, 1) := by decide +kernel
theorem dJ0_isLatin1_aae02_7 : decode cJ0_isLatin1_aae02 7 = .ok (.getfield 15, 3) := by decide +kernel
theorem dJ0_isLatin1_aae02_10 : decode cJ0_isLatin1_aae02 10 = .ok (.ifCond .ne 7, 3) := by decide +kernel
theorem dJ0_isLatin1_aae02_13 : decode cJ0_isLatin1_aae02 13 = .ok (.iconst 1, 1) := by decide +kernel
theorem dJ0_isLatin1_aae02_14 : decode cJ0_isLatin1_aae02 14 = .ok (.goto 4, 3) := by decide +kernel
theorem dJ0_isLatin1_aae02_17 : decode cJ0_isLatin1_aae02 17 = .ok (.iconst 0, 1) := by decide +kernel
theorem dJ0_isLatin1_aae02_18 : decode cJ0_isLatin1_aae02 18 = .ok (.ireturn, 1) := by decide +kernel
theorem dJ0_checkIndex_df160_0 : decode cJ0_checkIndex_df160 0 = .ok (.iload_n 0, 1) := by decide +kernel
theorem dJ0_checkIndex_df160_1 : decode cJ0_checkIndex_df160 1 = .ok (.iload_n 1, 1) := by decide +kernel
theorem dJ0_checkIndex_df160_2 : decode cJ0_checkIndex_df160 2 = .ok (.getstatic 1053, 3) := by decide +kernel
theorem dJ0_checkIndex_df160_5 : decode cJ0_checkIndex_df160 5 = .ok (.invokestatic 1059, 3) := by decide +kernel
theorem dJ0_checkIndex_df160_8 : decode cJ0_checkIndex_df160 8 = .ok (.pop, 1) := by decide +kernel
theorem dJ0_checkIndex_df160_9 : decode cJ0_checkIndex_df160 9 = .ok (.return_, 1) := by decide +kernel
theorem dJ1_charAt_3b067_0 : decode cJ1_charAt_3b067 0 = .ok (.iload_n 1, 1) := by decide +kernel
theorem dJ1_charAt_3b067_1 : decode cJ1_charAt_3b067 1 = .ok (.aload_n 0, 1) := by decide +kernel
theorem dJ1_charAt_3b067_2 : decode cJ1_charAt_3b067 2 = .ok (.arraylength, 1) := by decide +kernel
theorem dJ1_charAt_3b067_3 : decode cJ1_charAt_3b067 3 = .ok (.invokestatic 9, 3) := by decide +kernel
theorem dJ1_charAt_3b067_6 : decode cJ1_charAt_3b067 6 = .ok (.aload_n 0, 1) := by decide +kernel
theorem dJ1_charAt_3b067_7 : decode cJ1_charAt_3b067 7 = .ok (.iload_n 1, 1) := by decide +kernel
theorem dJ1_charAt_3b067_8 : decode cJ1_charAt_3b067 8 = .ok (.baload, 1) := by decide +kernel
theorem dJ1_charAt_3b067_9 : decode cJ1_charAt_3b067 9 = .ok (.sipush 255, 3) := by decide +kernel
theorem dJ1_charAt_3b067_12 : decode cJ1_charAt_3b067 12 = .ok (.iand, 1) := by decide +kernel
theorem dJ1_charAt_3b067_13 : decode cJ1_charAt_3b067 13 = .ok (.i2c, 1) := by decide +kernel
theorem dJ1_charAt_3b067_14 : decode cJ1_charAt_3b067 14 = .ok (.ireturn, 1) := by decide +kernel
theorem dJ2_getChar_3b067_0 : decode cJ2_getChar_3b067 0 = .ok (.getstatic 44, 3) := by decide +kernel
theorem dJ2_getChar_3b067_3 : decode cJ2_getChar_3b067 3 = .ok (.ifCond .ne 25, 3) := by decide +kernel
theorem dJ2_getChar_3b067_6 : decode cJ2_getChar_3b067 6 = .ok (.iload_n 1, 1) := by decide +kernel
theorem dJ2_getChar_3b067_7 : decode cJ2_getChar_3b067 7 = .ok (.ifCond .lt 11, 3) := by decide +kernel
theorem dJ2_getChar_3b067_10 : decode cJ2_getChar_3b067 10 = .ok (.iload_n 1, 1) := by decide +kernel
theorem dJ2_getChar_3b067_11 : decode cJ2_getChar_3b067 11 = .ok (.aload_n 0, 1) := by decide +kernel
theorem dJ2_getChar_3b067_12 : decode cJ2_getChar_3b067 12 = .ok (.invokestatic 48, 3) := by decide +kernel
theorem dJ2_getChar_3b067_15 : decode cJ2_getChar_3b067 15 = .ok (.if_icmp .lt 13, 3) := by decide +kernel
theorem dJ2_getChar_3b067_18 : decode cJ2_getChar_3b067 18 = .ok (.new 52, 3) := by decide +kernel
theorem dJ2_getChar_3b067_21 : decode cJ2_getChar_3b067 21 = .ok (.dup, 1) := by decide +kernel
theorem dJ2_getChar_3b067_22 : decode cJ2_getChar_3b067 22 = .ok (.ldc 54, 2) := by decide +kernel
theorem dJ2_getChar_3b067_24 : decode cJ2_getChar_3b067 24 = .ok (.invokespecial 56, 3) := by decide +kernel
theorem dJ2_getChar_3b067_27 : decode cJ2_getChar_3b067 27 = .ok (.athrow, 1) := by decide +kernel
theorem dJ2_getChar_3b067_28 : decode cJ2_getChar_3b067 28 = .ok (.iload_n 1, 1) := by decide +kernel
theorem dJ2_getChar_3b067_29 : decode cJ2_getChar_3b067 29 = .ok (.iconst 1, 1) := by decide +kernel
theorem dJ2_getChar_3b067_30 : decode cJ2_getChar_3b067 30 = .ok (.ishl, 1) := by decide +kernel
theorem dJ2_getChar_3b067_31 : decode cJ2_getChar_3b067 31 = .ok (.istore_n 1, 1) := by decide +kernel
theorem dJ2_getChar_3b067_32 : decode cJ2_getChar_3b067 32 = .ok (.aload_n 0, 1) := by decide +kernel
theorem dJ2_getChar_3b067_33 : decode cJ2_getChar_3b067 33 = .ok (.iload_n 1, 1) := by decide +kernel
theorem dJ2_getChar_3b067_34 : decode cJ2_getChar_3b067 34 = .ok (.iinc 1 1, 3) := by decide +kernel
theorem dJ2_getChar_3b067_37 : decode cJ2_getChar_3b067 37 = .ok (.baload, 1) := by decide +kernel
theorem dJ2_getChar_3b067_38 : decode cJ2_getChar_3b067 38 = .ok (.sipush 255, 3) := by decide +kernel
theorem dJ2_getChar_3b067_41 : decode cJ2_getChar_3b067 41 = .ok (.iand, 1) := by decide +kernel
theorem dJ2_getChar_3b067_42 : decode cJ2_getChar_3b067 42 = .ok (.getstatic 59, 3) := by decide +kernel
theorem dJ2_getChar_3b067_45 : decode cJ2_getChar_3b067 45 = .ok (.ishl, 1) := by decide +kernel
theorem dJ2_getChar_3b067_46 : decode cJ2_getChar_3b067 46 = .ok (.aload_n 0, 1) := by decide +kernel
theorem dJ2_getChar_3b067_47 : decode cJ2_getChar_3b067 47 = .ok (.iload_n 1, 1) := by decide +kernel
theorem dJ2_getChar_3b067_48 : decode cJ2_getChar_3b067 48 = .ok (.baload, 1) := by decide +kernel
theorem dJ2_getChar_3b067_49 : decode cJ2_getChar_3b067 49 = .ok (.sipush 255, 3) := by decide +kernel
theorem dJ2_getChar_3b067_52 : decode cJ2_getChar_3b067 52 = .ok (.iand, 1) := by decide +kernel
theorem dJ2_getChar_3b067_53 : decode cJ2_getChar_3b067 53 = .ok (.getstatic 63, 3) := by decide +kernel
theorem dJ2_getChar_3b067_56 : decode cJ2_getChar_3b067 56 = .ok (.ishl, 1) := by decide +kernel
theorem dJ2_getChar_3b067_57 : decode cJ2_getChar_3b067 57 = .ok (.ior, 1) := by decide +kernel
theorem dJ2_getChar_3b067_58 : decode cJ2_getChar_3b067 58 = .ok (.i2c, 1) := by decide +kernel
theorem dJ2_getChar_3b067_59 : decode cJ2_getChar_3b067 59 = .ok (.ireturn, 1) := by decide +kernel
theorem dJ2_length_9d52b_0 : decode cJ2_length_9d52b 0 = .ok (.aload_n 0, 1) := by decide +kernel
theorem dJ2_length_9d52b_1 : decode cJ2_length_9d52b 1 = .ok (.arraylength, 1) := by decide +kernel
theorem dJ2_length_9d52b_2 : decode cJ2_length_9d52b 2 = .ok (.iconst 1, 1) := by decide +kernel
theorem dJ2_length_9d52b_3 : decode cJ2_length_9d52b 3 = .ok (.ishr, 1) := by decide +kernel
theorem dJ2_length_9d52b_4 : decode cJ2_length_9d52b 4 = .ok (.ireturn, 1) := by decide +kernel
theorem dJ2_charAt_3b067_0 : decode cJ2_charAt_3b067 0 = .ok (.iload_n 1, 1) := by decide +kernel
theorem dJ2_charAt_3b067_1 : decode cJ2_charAt_3b067 1 = .ok (.aload_n 0, 1) := by decide +kernel
theorem dJ2_charAt_3b067_2 : decode cJ2_charAt_3b067 2 = .ok (.invokestatic 67, 3) := by decide +kernel
theorem dJ2_charAt_3b067_5 : decode cJ2_charAt_3b067 5 = .ok (.aload_n 0, 1) := by decide +kernel
theorem dJ2_charAt_3b067_6 : decode cJ2_charAt_3b067 6 = .ok (.iload_n 1, 1) := by decide +kernel
theorem dJ2_charAt_3b067_7 : decode cJ2_charAt_3b067 7 = .ok (.invokestatic 71, 3) := by decide +kernel
theorem dJ2_charAt_3b067_10 : decode cJ2_charAt_3b067 10 = .ok (.ireturn, 1) := by decide +kernel
theorem dJ2_checkIndex_2214a_0 : decode cJ2_checkIndex_2214a 0 = .ok (.iload_n 0, 1) := by decide +kernel
theorem dJ2_checkIndex_2214a_1 : decode cJ2_checkIndex_2214a 1 = .ok (.aload_n 1, 1) := by decide +kernel
theorem dJ2_checkIndex_2214a_2 : decode cJ2_checkIndex_2214a 2 = .ok (.invokestatic 48, 3) := by decide +kernel
theorem dJ2_checkIndex_2214a_5 : decode cJ2_checkIndex_2214a 5 = .ok (.invokestatic 414, 3) := by decide +kernel
theorem dJ2_checkIndex_2214a_8 : decode cJ2_checkIndex_2214a 8 = .ok (.return_, 1) := by decide +kernel
theorem dJ3_checkIndex_8e157_0 : decode cJ3_checkIndex_8e157 0 = .ok (.iload_n 0, 1) := by decide +kernel
theorem dJ3_checkIndex_8e157_1 : decode cJ3_checkIndex_8e157 1 = .ok (.ifCond .lt 8, 3) := by decide +kernel
theorem dJ3_checkIndex_8e157_4 : decode cJ3_checkIndex_8e157 4 = .ok (.iload_n 0, 1) := by decide +kernel
theorem dJ3_checkIndex_8e157_5 : decode cJ3_checkIndex_8e157 5 = .ok (.iload_n 1, 1) := by decide +kernel
theorem dJ3_checkIndex_8e157_6 : decode cJ3_checkIndex_8e157 6 = .ok (.if_icmp .lt 10, 3) := by decide +kernel
theorem dJ3_checkIndex_8e157_9 : decode cJ3_checkIndex_8e157 9 = .ok (.aload_n 2, 1) := by decide +kernel
theorem dJ3_checkIndex_8e157_10 : decode cJ3_checkIndex_8e157 10 = .ok (.iload_n 0, 1) := by decide +kernel
theorem dJ3_checkIndex_8e157_11 : decode cJ3_checkIndex_8e157 11 = .ok (.iload_n 1, 1) := by decide +kernel
theorem dJ3_checkIndex_8e157_12 : decode cJ3_checkIndex_8e157 12 = .ok (.invokestatic 95, 3) := by decide +kernel
theorem dJ3_checkIndex_8e157_15 : decode cJ3_checkIndex_8e157 15 = .ok (.athrow, 1) := by decide +kernel
theorem dJ3_checkIndex_8e157_16 : decode cJ3_checkIndex_8e157 16 = .ok (.iload_n 0, 1) := by decide +kernel
theorem dJ3_checkIndex_8e157_17 : decode cJ3_checkIndex_8e157 17 = .ok (.ireturn, 1) := by decide +kernel
theorem dL_cell_0 : decode cL_cell 0 = .ok (.aload_n 0, 1) := by decide +kernel
theorem dL_cell_1 : decode cL_cell 1 = .ok (.arraylength, 1) := by decide +kernel
theorem dL_cell_2 : decode cL_cell 2 = .ok (.ifCond .ne 11, 3) := by decide +kernel
theorem dL_cell_5 : decode cL_cell 5 = .ok (.sipush 577, 3) := by decide +kernel
theorem dL_cell_8 : decode cL_cell 8 = .ok (.iload_n 1, 1) := by decide +kernel
theorem dL_cell_9 : decode cL_cell 9 = .ok (.imul, 1) := by decide +kernel
theorem dL_cell_10 : decode cL_cell 10 = .ok (.goto 12, 3) := by decide +kernel
theorem dL_cell_13 : decode cL_cell 13 = .ok (.aload_n 0, 1) := by decide +kernel
theorem dL_cell_14 : decode cL_cell 14 = .ok (.iload_n 1, 1) := by decide +kernel
theorem dL_cell_15 : decode cL_cell 15 = .ok (.ldc 7, 2) := by decide +kernel
theorem dL_cell_17 : decode cL_cell 17 = .ok (.iand, 1) := by decide +kernel
theorem dL_cell_18 : decode cL_cell 18 = .ok (.aload_n 0, 1) := by decide +kernel
theorem dL_cell_19 : decode cL_cell 19 = .ok (.arraylength, 1) := by decide +kernel
theorem dL_cell_20 : decode cL_cell 20 = .ok (.irem, 1) := by decide +kernel
theorem dL_cell_21 : decode cL_cell 21 = .ok (.iaload, 1) := by decide +kernel
theorem dL_cell_22 : decode cL_cell 22 = .ok (.ireturn, 1) := by decide +kernel
theorem dL_write_0 : decode cL_write 0 = .ok (.iconst 0, 1) := by decide +kernel
theorem dL_write_1 : decode cL_write 1 = .ok (.istore_n 2, 1) := by decide +kernel
theorem dL_write_2 : decode cL_write 2 = .ok (.iload_n 2, 1) := by decide +kernel
theorem dL_write_3 : decode cL_write 3 = .ok (.aload_n 1, 1) := by decide +kernel
theorem dL_write_4 : decode cL_write 4 = .ok (.invokevirtual 8, 3) := by decide +kernel
theorem dL_write_7 : decode cL_write 7 = .ok (.if_icmp .ge 19, 3) := by decide +kernel
theorem dL_write_10 : decode cL_write 10 = .ok (.aload_n 0, 1) := by decide +kernel
theorem dL_write_11 : decode cL_write 11 = .ok (.aload_n 1, 1) := by decide +kernel
theorem dL_write_12 : decode cL_write 12 = .ok (.iload_n 2, 1) := by decide +kernel
theorem dL_write_13 : decode cL_write 13 = .ok (.invokevirtual 14, 3) := by decide +kernel
theorem dL_write_16 : decode cL_write 16 = .ok (.invokevirtual 18, 3) := by decide +kernel
theorem dL_write_19 : decode cL_write 19 = .ok (.pop, 1) := by decide +kernel
theorem dL_write_20 : decode cL_write 20 = .ok (.iinc 2 1, 3) := by decide +kernel
theorem dL_write_23 : decode cL_write 23 = .ok (.goto (-21), 3) := by decide +kernel
theorem dL_write_26 : decode cL_write 26 = .ok (.aload_n 0, 1) := by decide +kernel
theorem dL_write_27 : decode cL_write 27 = .ok (.areturn, 1) := by decide +kernel
theorem dL_act_0 : decode cL_act 0 = .ok (.iload_n 1, 1) := by decide +kernel
theorem dL_act_1 : decode cL_act 1 = .ok (.iconst 4, 1) := by decide +kernel
theorem dL_act_2 : decode cL_act 2 = .ok (.ishr, 1) := by decide +kernel
theorem dL_act_3 : decode cL_act 3 = .ok (.ldc 7, 2) := by decide +kernel
theorem dL_act_5 : decode cL_act 5 = .ok (.iand, 1) := by decide +kernel
theorem dL_act_6 : decode cL_act 6 = .ok (.istore_n 2, 1) := by decide +kernel
theorem dL_act_7 : decode cL_act 7 = .ok (.iload_n 2, 1) := by decide +kernel
theorem dL_act_8 : decode cL_act 8 = .ok (.iconst 1, 1) := by decide +kernel
theorem dL_act_9 : decode cL_act 9 = .ok (.iand, 1) := by decide +kernel
theorem dL_act_10 : decode cL_act 10 = .ok (.ifCond .ne 12, 3) := by decide +kernel
theorem dL_act_13 : decode cL_act 13 = .ok (.iload_n 2, 1) := by decide +kernel
theorem dL_act_14 : decode cL_act 14 = .ok (.iconst 1, 1) := by decide +kernel
theorem dL_act_15 : decode cL_act 15 = .ok (.ishr, 1) := by decide +kernel
theorem dL_act_16 : decode cL_act 16 = .ok (.bipush 33, 2) := by decide +kernel
theorem dL_act_18 : decode cL_act 18 = .ok (.irem, 1) := by decide +kernel
theorem dL_act_19 : decode cL_act 19 = .ok (.goto 9, 3) := by decide +kernel
theorem dL_act_22 : decode cL_act 22 = .ok (.iload_n 2, 1) := by decide +kernel
theorem dL_act_23 : decode cL_act 23 = .ok (.iconst 1, 1) := by decide +kernel
theorem dL_act_24 : decode cL_act 24 = .ok (.ishr, 1) := by decide +kernel
theorem dL_act_25 : decode cL_act 25 = .ok (.bipush 6, 2) := by decide +kernel
theorem dL_act_27 : decode cL_act 27 = .ok (.irem, 1) := by decide +kernel
theorem dL_act_28 : decode cL_act 28 = .ok (.istore_n 3, 1) := by decide +kernel
theorem dL_act_29 : decode cL_act 29 = .ok (.iload_n 1, 1) := by decide +kernel
theorem dL_act_30 : decode cL_act 30 = .ok (.bipush 15, 2) := by decide +kernel
theorem dL_act_32 : decode cL_act 32 = .ok (.iand, 1) := by decide +kernel
theorem dL_act_33 : decode cL_act 33 = .ok (.tableswitch 218 0 14 #[75, 75, 75, 75, 75, 109, 121, 121, 121, 140, 157, 157, 168, 195, 195], 75) := by decide +kernel
theorem dL_act_108 : decode cL_act 108 = .ok (.aload_n 0, 1) := by decide +kernel
theorem dL_act_109 : decode cL_act 109 = .ok (.iload_n 3, 1) := by decide +kernel
theorem dL_act_110 : decode cL_act 110 = .ok (.iload_n 2, 1) := by decide +kernel
theorem dL_act_111 : decode cL_act 111 = .ok (.bipush 7, 2) := by decide +kernel
theorem dL_act_113 : decode cL_act 113 = .ok (.ishr, 1) := by decide +kernel
theorem dL_act_114 : decode cL_act 114 = .ok (.iconst 5, 1) := by decide +kernel
theorem dL_act_115 : decode cL_act 115 = .ok (.irem, 1) := by decide +kernel
theorem dL_act_116 : decode cL_act 116 = .ok (.iload_n 2, 1) := by decide +kernel
theorem dL_act_117 : decode cL_act 117 = .ok (.iconst 5, 1) := by decide +kernel
theorem dL_act_118 : decode cL_act 118 = .ok (.ishr, 1) := by decide +kernel
theorem dL_act_119 : decode cL_act 119 = .ok (.bipush 8, 2) := by decide +kernel
theorem dL_act_121 : decode cL_act 121 = .ok (.irem, 1) := by decide +kernel
theorem dL_act_122 : decode cL_act 122 = .ok (.ifCond .ne 9, 3) := by decide +kernel
theorem dL_act_125 : decode cL_act 125 = .ok (.sipush 200, 3) := by decide +kernel
theorem dL_act_128 : decode cL_act 128 = .ok (.goto 10, 3) := by decide +kernel
theorem dL_act_131 : decode cL_act 131 = .ok (.iload_n 2, 1) := by decide +kernel
theorem dL_act_132 : decode cL_act 132 = .ok (.iconst 4, 1) := by decide +kernel
theorem dL_act_133 : decode cL_act 133 = .ok (.ishr, 1) := by decide +kernel
theorem dL_act_134 : decode cL_act 134 = .ok (.sipush 202, 3) := by decide +kernel
theorem dL_act_137 : decode cL_act 137 = .ok (.irem, 1) := by decide +kernel
theorem dL_act_138 : decode cL_act 138 = .ok (.invokevirtual 24, 3) := by decide +kernel
theorem dL_act_141 : decode cL_act 141 = .ok (.ireturn, 1) := by decide +kernel
theorem dL_act_142 : decode cL_act 142 = .ok (.aload_n 0, 1) := by decide +kernel
theorem dL_act_143 : decode cL_act 143 = .ok (.iload_n 3, 1) := by decide +kernel
theorem dL_act_144 : decode cL_act 144 = .ok (.iload_n 2, 1) := by decide +kernel
theorem dL_act_145 : decode cL_act 145 = .ok (.iconst 5, 1) := by decide +kernel
theorem dL_act_146 : decode cL_act 146 = .ok (.ishr, 1) := by decide +kernel
theorem dL_act_147 : decode cL_act 147 = .ok (.bipush 60, 2) := by decide +kernel
theorem dL_act_149 : decode cL_act 149 = .ok (.irem, 1) := by decide +kernel
theorem dL_act_150 : decode cL_act 150 = .ok (.invokevirtual 28, 3) := by decide +kernel
theorem dL_act_153 : decode cL_act 153 = .ok (.ireturn, 1) := by decide +kernel
theorem dL_act_154 : decode cL_act 154 = .ok (.aload_n 0, 1) := by decide +kernel
theorem dL_act_155 : decode cL_act 155 = .ok (.iload_n 3, 1) := by decide +kernel
theorem dL_act_156 : decode cL_act 156 = .ok (.iload_n 2, 1) := by decide +kernel
theorem dL_act_157 : decode cL_act 157 = .ok (.bipush 8, 2) := by decide +kernel
theorem dL_act_159 : decode cL_act 159 = .ok (.ishr, 1) := by decide +kernel
theorem dL_act_160 : decode cL_act 160 = .ok (.bipush 8, 2) := by decide +kernel
theorem dL_act_162 : decode cL_act 162 = .ok (.irem, 1) := by decide +kernel
theorem dL_act_163 : decode cL_act 163 = .ok (.iload_n 2, 1) := by decide +kernel
theorem dL_act_164 : decode cL_act 164 = .ok (.iconst 4, 1) := by decide +kernel
theorem dL_act_165 : decode cL_act 165 = .ok (.ishr, 1) := by decide +kernel
theorem dL_act_166 : decode cL_act 166 = .ok (.bipush 120, 2) := by decide +kernel
theorem dL_act_168 : decode cL_act 168 = .ok (.irem, 1) := by decide +kernel
theorem dL_act_169 : decode cL_act 169 = .ok (.invokevirtual 32, 3) := by decide +kernel
theorem dL_act_172 : decode cL_act 172 = .ok (.ireturn, 1) := by decide +kernel
theorem dL_act_173 : decode cL_act 173 = .ok (.aload_n 0, 1) := by decide +kernel
theorem dL_act_174 : decode cL_act 174 = .ok (.iload_n 2, 1) := by decide +kernel
theorem dL_act_175 : decode cL_act 175 = .ok (.iconst 1, 1) := by decide +kernel
theorem dL_act_176 : decode cL_act 176 = .ok (.ishr, 1) := by decide +kernel
theorem dL_act_177 : decode cL_act 177 = .ok (.iconst 5, 1) := by decide +kernel
theorem dL_act_178 : decode cL_act 178 = .ok (.irem, 1) := by decide +kernel
theorem dL_act_179 : decode cL_act 179 = .ok (.iload_n 2, 1) := by decide +kernel
theorem dL_act_180 : decode cL_act 180 = .ok (.iconst 3, 1) := by decide +kernel
theorem dL_act_181 : decode cL_act 181 = .ok (.ishr, 1) := by decide +kernel
theorem dL_act_182 : decode cL_act 182 = .ok (.sipush 300, 3) := by decide +kernel
theorem dL_act_185 : decode cL_act 185 = .ok (.irem, 1) := by decide +kernel
theorem dL_act_186 : decode cL_act 186 = .ok (.invokevirtual 35, 3) := by decide +kernel
theorem dL_act_189 : decode cL_act 189 = .ok (.ireturn, 1) := by decide +kernel
theorem dL_act_190 : decode cL_act 190 = .ok (.aload_n 0, 1) := by decide +kernel
theorem dL_act_191 : decode cL_act 191 = .ok (.iload_n 2, 1) := by decide +kernel
theorem dL_act_192 : decode cL_act 192 = .ok (.iconst 1, 1) := by decide +kernel
theorem dL_act_193 : decode cL_act 193 = .ok (.ishr, 1) := by decide +kernel
theorem dL_act_194 : decode cL_act 194 = .ok (.bipush 34, 2) := by decide +kernel
theorem dL_act_196 : decode cL_act 196 = .ok (.irem, 1) := by decide +kernel
theorem dL_act_197 : decode cL_act 197 = .ok (.invokevirtual 38, 3) := by decide +kernel
theorem dL_act_200 : decode cL_act 200 = .ok (.ireturn, 1) := by decide +kernel
theorem dL_act_201 : decode cL_act 201 = .ok (.aload_n 0, 1) := by decide +kernel
theorem dL_act_202 : decode cL_act 202 = .ok (.iload_n 2, 1) := by decide +kernel
theorem dL_act_203 : decode cL_act 203 = .ok (.bipush 7, 2) := by decide +kernel
theorem dL_act_205 : decode cL_act 205 = .ok (.iand, 1) := by decide +kernel
theorem dL_act_206 : decode cL_act 206 = .ok (.ifCond .ne 12, 3) := by decide +kernel
theorem dL_act_209 : decode cL_act 209 = .ok (.iload_n 2, 1) := by decide +kernel
theorem dL_act_210 : decode cL_act 210 = .ok (.iconst 3, 1) := by decide +kernel
theorem dL_act_211 : decode cL_act 211 = .ok (.ishr, 1) := by decide +kernel
theorem dL_act_212 : decode cL_act 212 = .ok (.bipush 54, 2) := by decide +kernel
theorem dL_act_214 : decode cL_act 214 = .ok (.irem, 1) := by decide +kernel
theorem dL_act_215 : decode cL_act 215 = .ok (.goto 9, 3) := by decide +kernel
theorem dL_act_218 : decode cL_act 218 = .ok (.iconst 1, 1) := by decide +kernel
theorem dL_act_219 : decode cL_act 219 = .ok (.iload_n 2, 1) := by decide +kernel
theorem dL_act_220 : decode cL_act 220 = .ok (.bipush 6, 2) := by decide +kernel
theorem dL_act_222 : decode cL_act 222 = .ok (.irem, 1) := by decide +kernel
theorem dL_act_223 : decode cL_act 223 = .ok (.iadd, 1) := by decide +kernel
theorem dL_act_224 : decode cL_act 224 = .ok (.invokevirtual 41, 3) := by decide +kernel
theorem dL_act_227 : decode cL_act 227 = .ok (.ireturn, 1) := by decide +kernel
theorem dL_act_228 : decode cL_act 228 = .ok (.bipush (-14), 2) := by decide +kernel
theorem dL_act_230 : decode cL_act 230 = .ok (.aload_n 0, 1) := by decide +kernel
theorem dL_act_231 : decode cL_act 231 = .ok (.getstatic 44, 3) := by decide +kernel
theorem dL_act_234 : decode cL_act 234 = .ok (.iload_n 2, 1) := by decide +kernel
theorem dL_act_235 : decode cL_act 235 = .ok (.getstatic 44, 3) := by decide +kernel
theorem dL_act_238 : decode cL_act 238 = .ok (.arraylength, 1) := by decide +kernel
theorem dL_act_239 : decode cL_act 239 = .ok (.irem, 1) := by decide +kernel
theorem dL_act_240 : decode cL_act 240 = .ok (.aaload, 1) := by decide +kernel
theorem dL_act_241 : decode cL_act 241 = .ok (.invokestatic 50, 3) := by decide +kernel
theorem dL_act_244 : decode cL_act 244 = .ok (.invokevirtual 54, 3) := by decide +kernel
theorem dL_act_247 : decode cL_act 247 = .ok (.invokestatic 57, 3) := by decide +kernel
theorem dL_act_250 : decode cL_act 250 = .ok (.ireturn, 1) := by decide +kernel
theorem dL_act_251 : decode cL_act 251 = .ok (.iload_n 2, 1) := by decide +kernel
theorem dL_act_252 : decode cL_act 252 = .ok (.iconst 3, 1) := by decide +kernel
theorem dL_act_253 : decode cL_act 253 = .ok (.iand, 1) := by decide +kernel
theorem dL_act_254 : decode cL_act 254 = .ok (.ifCond .ne 10, 3) := by decide +kernel
theorem dL_act_257 : decode cL_act 257 = .ok (.aload_n 0, 1) := by decide +kernel
theorem dL_act_258 : decode cL_act 258 = .ok (.invokevirtual 62, 3) := by decide +kernel
theorem dL_act_261 : decode cL_act 261 = .ok (.goto 21, 3) := by decide +kernel
theorem dL_act_264 : decode cL_act 264 = .ok (.iload_n 2, 1) := by decide +kernel
theorem dL_act_265 : decode cL_act 265 = .ok (.iconst 3, 1) := by decide +kernel
theorem dL_act_266 : decode cL_act 266 = .ok (.iand, 1) := by decide +kernel
theorem dL_act_267 : decode cL_act 267 = .ok (.iconst 1, 1) := by decide +kernel
theorem dL_act_268 : decode cL_act 268 = .ok (.if_icmp .ne 10, 3) := by decide +kernel
theorem dL_act_271 : decode cL_act 271 = .ok (.aload_n 0, 1) := by decide +kernel
theorem dL_act_272 : decode cL_act 272 = .ok (.invokevirtual 65, 3) := by decide +kernel
theorem dL_act_275 : decode cL_act 275 = .ok (.goto 7, 3) := by decide +kernel
theorem dL_act_278 : decode cL_act 278 = .ok (.aload_n 0, 1) := by decide +kernel
theorem dL_act_279 : decode cL_act 279 = .ok (.invokevirtual 68, 3) := by decide +kernel
theorem dL_act_282 : decode cL_act 282 = .ok (.ireturn, 1) := by decide +kernel
theorem dL_digest_0 : decode cL_digest 0 = .ok (.ldc2_w 71, 3) := by decide +kernel
theorem dL_digest_3 : decode cL_digest 3 = .ok (.lstore_n 1, 1) := by decide +kernel
theorem dL_digest_4 : decode cL_digest 4 = .ok (.iconst 0, 1) := by decide +kernel
theorem dL_digest_5 : decode cL_digest 5 = .ok (.istore_n 3, 1) := by decide +kernel
theorem dL_digest_6 : decode cL_digest 6 = .ok (.iload_n 3, 1) := by decide +kernel
theorem dL_digest_7 : decode cL_digest 7 = .ok (.bipush 16, 2) := by decide +kernel
theorem dL_digest_9 : decode cL_digest 9 = .ok (.if_icmp .ge 22, 3) := by decide +kernel
theorem dL_digest_12 : decode cL_digest 12 = .ok (.ldc2_w 73, 3) := by decide +kernel
theorem dL_digest_15 : decode cL_digest 15 = .ok (.lload_n 1, 1) := by decide +kernel
theorem dL_digest_16 : decode cL_digest 16 = .ok (.lmul, 1) := by decide +kernel
theorem dL_digest_17 : decode cL_digest 17 = .ok (.aload_n 0, 1) := by decide +kernel
theorem dL_digest_18 : decode cL_digest 18 = .ok (.iload_n 3, 1) := by decide +kernel
theorem dL_digest_19 : decode cL_digest 19 = .ok (.invokevirtual 75, 3) := by decide +kernel
theorem dL_digest_22 : decode cL_digest 22 = .ok (.i2l, 1) := by decide +kernel
theorem dL_digest_23 : decode cL_digest 23 = .ok (.ladd, 1) := by decide +kernel
theorem dL_digest_24 : decode cL_digest 24 = .ok (.lstore_n 1, 1) := by decide +kernel
theorem dL_digest_25 : decode cL_digest 25 = .ok (.iinc 3 1, 3) := by decide +kernel
theorem dL_digest_28 : decode cL_digest 28 = .ok (.goto (-22), 3) := by decide +kernel
theorem dL_digest_31 : decode cL_digest 31 = .ok (.iconst 0, 1) := by decide +kernel
theorem dL_digest_32 : decode cL_digest 32 = .ok (.istore_n 3, 1) := by decide +kernel
theorem dL_digest_33 : decode cL_digest 33 = .ok (.iload_n 3, 1) := by decide +kernel
theorem dL_digest_34 : decode cL_digest 34 = .ok (.bipush 96, 2) := by decide +kernel
theorem dL_digest_36 : decode cL_digest 36 = .ok (.if_icmp .ge 27, 3) := by decide +kernel
theorem dL_digest_39 : decode cL_digest 39 = .ok (.ldc2_w 73, 3) := by decide +kernel
theorem dL_digest_42 : decode cL_digest 42 = .ok (.lload_n 1, 1) := by decide +kernel
theorem dL_digest_43 : decode cL_digest 43 = .ok (.lmul, 1) := by decide +kernel
theorem dL_digest_44 : decode cL_digest 44 = .ok (.aload_n 0, 1) := by decide +kernel
theorem dL_digest_45 : decode cL_digest 45 = .ok (.iload_n 3, 1) := by decide +kernel
theorem dL_digest_46 : decode cL_digest 46 = .ok (.iconst 3, 1) := by decide +kernel
theorem dL_digest_47 : decode cL_digest 47 = .ok (.idiv, 1) := by decide +kernel
theorem dL_digest_48 : decode cL_digest 48 = .ok (.iload_n 3, 1) := by decide +kernel
theorem dL_digest_49 : decode cL_digest 49 = .ok (.iconst 3, 1) := by decide +kernel
theorem dL_digest_50 : decode cL_digest 50 = .ok (.irem, 1) := by decide +kernel
theorem dL_digest_51 : decode cL_digest 51 = .ok (.invokevirtual 78, 3) := by decide +kernel
theorem dL_digest_54 : decode cL_digest 54 = .ok (.i2l, 1) := by decide +kernel
theorem dL_digest_55 : decode cL_digest 55 = .ok (.ladd, 1) := by decide +kernel
theorem dL_digest_56 : decode cL_digest 56 = .ok (.lstore_n 1, 1) := by decide +kernel
theorem dL_digest_57 : decode cL_digest 57 = .ok (.iinc 3 1, 3) := by decide +kernel
theorem dL_digest_60 : decode cL_digest 60 = .ok (.goto (-27), 3) := by decide +kernel
theorem dL_digest_63 : decode cL_digest 63 = .ok (.iconst 1, 1) := by decide +kernel
theorem dL_digest_64 : decode cL_digest 64 = .ok (.istore_n 3, 1) := by decide +kernel
theorem dL_digest_65 : decode cL_digest 65 = .ok (.iload_n 3, 1) := by decide +kernel
theorem dL_digest_66 : decode cL_digest 66 = .ok (.bipush 33, 2) := by decide +kernel
theorem dL_digest_68 : decode cL_digest 68 = .ok (.if_icmp .ge 23, 3) := by decide +kernel
theorem dL_digest_71 : decode cL_digest 71 = .ok (.ldc2_w 73, 3) := by decide +kernel
theorem dL_digest_74 : decode cL_digest 74 = .ok (.lload_n 1, 1) := by decide +kernel
theorem dL_digest_75 : decode cL_digest 75 = .ok (.lmul, 1) := by decide +kernel
theorem dL_digest_76 : decode cL_digest 76 = .ok (.aload_n 0, 1) := by decide +kernel
theorem dL_digest_77 : decode cL_digest 77 = .ok (.iload_n 3, 1) := by decide +kernel
theorem dL_digest_78 : decode cL_digest 78 = .ok (.iconst 3, 1) := by decide +kernel
theorem dL_digest_79 : decode cL_digest 79 = .ok (.invokevirtual 81, 3) := by decide +kernel
theorem dL_digest_82 : decode cL_digest 82 = .ok (.i2l, 1) := by decide +kernel
theorem dL_digest_83 : decode cL_digest 83 = .ok (.ladd, 1) := by decide +kernel
theorem dL_digest_84 : decode cL_digest 84 = .ok (.lstore_n 1, 1) := by decide +kernel
theorem dL_digest_85 : decode cL_digest 85 = .ok (.iinc 3 1, 3) := by decide +kernel
theorem dL_digest_88 : decode cL_digest 88 = .ok (.goto (-23), 3) := by decide +kernel
theorem dL_digest_91 : decode cL_digest 91 = .ok (.lload_n 1, 1) := by decide +kernel
theorem dL_digest_92 : decode cL_digest 92 = .ok (.lreturn, 1) := by decide +kernel
theorem dL_keeps_0 : decode cL_keeps 0 = .ok (.iload_n 0, 1) := by decide +kernel
theorem dL_keeps_1 : decode cL_keeps 1 = .ok (.ifCond .ne 8, 3) := by decide +kernel
theorem dL_keeps_4 : decode cL_keeps 4 = .ok (.bipush 20, 2) := by decide +kernel
theorem dL_keeps_6 : decode cL_keeps 6 = .ok (.goto 25, 3) := by decide +kernel
theorem dL_keeps_9 : decode cL_keeps 9 = .ok (.iload_n 0, 1) := by decide +kernel
theorem dL_keeps_10 : decode cL_keeps 10 = .ok (.iconst 1, 1) := by decide +kernel
theorem dL_keeps_11 : decode cL_keeps 11 = .ok (.if_icmp .ne 8, 3) := by decide +kernel
theorem dL_keeps_14 : decode cL_keeps 14 = .ok (.bipush 15, 2) := by decide +kernel
theorem dL_keeps_16 : decode cL_keeps 16 = .ok (.goto 15, 3) := by decide +kernel
theorem dL_keeps_19 : decode cL_keeps 19 = .ok (.iload_n 0, 1) := by decide +kernel
theorem dL_keeps_20 : decode cL_keeps 20 = .ok (.iconst 2, 1) := by decide +kernel
theorem dL_keeps_21 : decode cL_keeps 21 = .ok (.if_icmp .ne 8, 3) := by decide +kernel
theorem dL_keeps_24 : decode cL_keeps 24 = .ok (.bipush 10, 2) := by decide +kernel
theorem dL_keeps_26 : decode cL_keeps 26 = .ok (.goto 5, 3) := by decide +kernel
theorem dL_keeps_29 : decode cL_keeps 29 = .ok (.bipush 12, 2) := by decide +kernel
theorem dL_keeps_31 : decode cL_keeps 31 = .ok (.ireturn, 1) := by decide +kernel
theorem dL_isBay_0 : decode cL_isBay 0 = .ok (.aload_n 0, 1) := by decide +kernel
theorem dL_isBay_1 : decode cL_isBay 1 = .ok (.iload_n 1, 1) := by decide +kernel
theorem dL_isBay_2 : decode cL_isBay 2 = .ok (.iconst 0, 1) := by decide +kernel
theorem dL_isBay_3 : decode cL_isBay 3 = .ok (.invokevirtual 78, 3) := by decide +kernel
theorem dL_isBay_6 : decode cL_isBay 6 = .ok (.istore_n 2, 1) := by decide +kernel
theorem dL_isBay_7 : decode cL_isBay 7 = .ok (.aload_n 0, 1) := by decide +kernel
theorem dL_isBay_8 : decode cL_isBay 8 = .ok (.iload_n 1, 1) := by decide +kernel
theorem dL_isBay_9 : decode cL_isBay 9 = .ok (.iconst 1, 1) := by decide +kernel
theorem dL_isBay_10 : decode cL_isBay 10 = .ok (.invokevirtual 78, 3) := by decide +kernel
theorem dL_isBay_13 : decode cL_isBay 13 = .ok (.istore_n 3, 1) := by decide +kernel
theorem dL_isBay_14 : decode cL_isBay 14 = .ok (.aload_n 0, 1) := by decide +kernel
theorem dL_isBay_15 : decode cL_isBay 15 = .ok (.iload_n 1, 1) := by decide +kernel
theorem dL_isBay_16 : decode cL_isBay 16 = .ok (.iconst 2, 1) := by decide +kernel
theorem dL_isBay_17 : decode cL_isBay 17 = .ok (.invokevirtual 78, 3) := by decide +kernel
theorem dL_isBay_20 : decode cL_isBay 20 = .ok (.istore 4, 2) := by decide +kernel
theorem dL_isBay_22 : decode cL_isBay 22 = .ok (.iload_n 3, 1) := by decide +kernel
theorem dL_isBay_23 : decode cL_isBay 23 = .ok (.ifCond .ne 7, 3) := by decide +kernel
theorem dL_isBay_26 : decode cL_isBay 26 = .ok (.iconst 1, 1) := by decide +kernel
theorem dL_isBay_27 : decode cL_isBay 27 = .ok (.goto 4, 3) := by decide +kernel
theorem dL_isBay_30 : decode cL_isBay 30 = .ok (.iconst 0, 1) := by decide +kernel
theorem dL_isBay_31 : decode cL_isBay 31 = .ok (.istore 5, 2) := by decide +kernel
theorem dL_isBay_33 : decode cL_isBay 33 = .ok (.iload_n 2, 1) := by decide +kernel
theorem dL_isBay_34 : decode cL_isBay 34 = .ok (.bipush (-15), 2) := by decide +kernel
theorem dL_isBay_36 : decode cL_isBay 36 = .ok (.if_icmp .ne 7, 3) := by decide +kernel
theorem dL_isBay_39 : decode cL_isBay 39 = .ok (.iconst 1, 1) := by decide +kernel
theorem dL_isBay_40 : decode cL_isBay 40 = .ok (.goto 4, 3) := by decide +kernel
theorem dL_isBay_43 : decode cL_isBay 43 = .ok (.iconst 0, 1) := by decide +kernel
theorem dL_isBay_44 : decode cL_isBay 44 = .ok (.iload 5, 2) := by decide +kernel
theorem dL_isBay_46 : decode cL_isBay 46 = .ok (.if_icmp .ne 69, 3) := by decide +kernel
theorem dL_isBay_49 : decode cL_isBay 49 = .ok (.iload_n 3, 1) := by decide +kernel
theorem dL_isBay_50 : decode cL_isBay 50 = .ok (.ifCond .lt 65, 3) := by decide +kernel
theorem dL_isBay_53 : decode cL_isBay 53 = .ok (.iload_n 3, 1) := by decide +kernel
theorem dL_isBay_54 : decode cL_isBay 54 = .ok (.sipush 200, 3) := by decide +kernel
theorem dL_isBay_57 : decode cL_isBay 57 = .ok (.if_icmp .gt 58, 3) := by decide +kernel
theorem dL_isBay_60 : decode cL_isBay 60 = .ok (.iload 4, 2) := by decide +kernel
theorem dL_isBay_62 : decode cL_isBay 62 = .ok (.ifCond .lt 53, 3) := by decide +kernel
theorem dL_isBay_65 : decode cL_isBay 65 = .ok (.iload 5, 2) := by decide +kernel
theorem dL_isBay_67 : decode cL_isBay 67 = .ok (.ifCond .eq 8, 3) := by decide +kernel
