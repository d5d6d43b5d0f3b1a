theorem dL_isBay_70 : decode cL_isBay 70 = .ok (.iload 4, 2) := by decide +kernel
theorem dL_isBay_72 : decode cL_isBay 72 = .ok (.ifCond .ne 43, 3) := by decide +kernel
theorem dL_isBay_75 : decode cL_isBay 75 = .ok (.aload_n 0, 1) := by decide +kernel
theorem dL_isBay_76 : decode cL_isBay 76 = .ok (.iload_n 1, 1) := by decide +kernel
theorem dL_isBay_77 : decode cL_isBay 77 = .ok (.iconst 3, 1) := by decide +kernel
theorem dL_isBay_78 : decode cL_isBay 78 = .ok (.invokevirtual 78, 3) := by decide +kernel
theorem dL_isBay_81 : decode cL_isBay 81 = .ok (.iload 5, 2) := by decide +kernel
theorem dL_isBay_83 : decode cL_isBay 83 = .ok (.ifCond .ne 24, 3) := by decide +kernel
theorem dL_isBay_86 : decode cL_isBay 86 = .ok (.iload 4, 2) := by decide +kernel
theorem dL_isBay_88 : decode cL_isBay 88 = .ok (.iconst 1, 1) := by decide +kernel
theorem dL_isBay_89 : decode cL_isBay 89 = .ok (.iadd, 1) := by decide +kernel
theorem dL_isBay_90 : decode cL_isBay 90 = .ok (.iload_n 2, 1) := by decide +kernel
theorem dL_isBay_91 : decode cL_isBay 91 = .ok (.invokestatic 84, 3) := by decide +kernel
theorem dL_isBay_94 : decode cL_isBay 94 = .ok (.if_icmp .le 13, 3) := by decide +kernel
theorem dL_isBay_97 : decode cL_isBay 97 = .ok (.iload_n 3, 1) := by decide +kernel
theorem dL_isBay_98 : decode cL_isBay 98 = .ok (.bipush 9, 2) := by decide +kernel
theorem dL_isBay_100 : decode cL_isBay 100 = .ok (.iadd, 1) := by decide +kernel
theorem dL_isBay_101 : decode cL_isBay 101 = .ok (.bipush 10, 2) := by decide +kernel
theorem dL_isBay_103 : decode cL_isBay 103 = .ok (.idiv, 1) := by decide +kernel
theorem dL_isBay_104 : decode cL_isBay 104 = .ok (.goto 4, 3) := by decide +kernel
theorem dL_isBay_107 : decode cL_isBay 107 = .ok (.iconst 0, 1) := by decide +kernel
theorem dL_isBay_108 : decode cL_isBay 108 = .ok (.if_icmp .ne 7, 3) := by decide +kernel
theorem dL_isBay_111 : decode cL_isBay 111 = .ok (.iconst 1, 1) := by decide +kernel
theorem dL_isBay_112 : decode cL_isBay 112 = .ok (.goto 4, 3) := by decide +kernel
theorem dL_isBay_115 : decode cL_isBay 115 = .ok (.iconst 0, 1) := by decide +kernel
theorem dL_isBay_116 : decode cL_isBay 116 = .ok (.istore 6, 2) := by decide +kernel
theorem dL_isBay_118 : decode cL_isBay 118 = .ok (.iconst 0, 1) := by decide +kernel
theorem dL_isBay_119 : decode cL_isBay 119 = .ok (.istore 7, 2) := by decide +kernel
theorem dL_isBay_121 : decode cL_isBay 121 = .ok (.iconst 0, 1) := by decide +kernel
theorem dL_isBay_122 : decode cL_isBay 122 = .ok (.istore 8, 2) := by decide +kernel
theorem dL_isBay_124 : decode cL_isBay 124 = .ok (.iconst 1, 1) := by decide +kernel
theorem dL_isBay_125 : decode cL_isBay 125 = .ok (.istore 9, 2) := by decide +kernel
theorem dL_isBay_127 : decode cL_isBay 127 = .ok (.iload 9, 2) := by decide +kernel
theorem dL_isBay_129 : decode cL_isBay 129 = .ok (.bipush 33, 2) := by decide +kernel
theorem dL_isBay_131 : decode cL_isBay 131 = .ok (.if_icmp .ge 60, 3) := by decide +kernel
theorem dL_isBay_134 : decode cL_isBay 134 = .ok (.aload_n 0, 1) := by decide +kernel
theorem dL_isBay_135 : decode cL_isBay 135 = .ok (.iload 9, 2) := by decide +kernel
theorem dL_isBay_137 : decode cL_isBay 137 = .ok (.iconst 0, 1) := by decide +kernel
theorem dL_isBay_138 : decode cL_isBay 138 = .ok (.invokevirtual 81, 3) := by decide +kernel
theorem dL_isBay_141 : decode cL_isBay 141 = .ok (.istore 10, 2) := by decide +kernel
theorem dL_isBay_143 : decode cL_isBay 143 = .ok (.aload_n 0, 1) := by decide +kernel
theorem dL_isBay_144 : decode cL_isBay 144 = .ok (.iload 9, 2) := by decide +kernel
theorem dL_isBay_146 : decode cL_isBay 146 = .ok (.iconst 4, 1) := by decide +kernel
theorem dL_isBay_147 : decode cL_isBay 147 = .ok (.invokevirtual 81, 3) := by decide +kernel
theorem dL_isBay_150 : decode cL_isBay 150 = .ok (.iload_n 1, 1) := by decide +kernel
theorem dL_isBay_151 : decode cL_isBay 151 = .ok (.if_icmp .gt 34, 3) := by decide +kernel
theorem dL_isBay_154 : decode cL_isBay 154 = .ok (.iload_n 1, 1) := by decide +kernel
theorem dL_isBay_155 : decode cL_isBay 155 = .ok (.iload 9, 2) := by decide +kernel
theorem dL_isBay_157 : decode cL_isBay 157 = .ok (.if_icmp .ge 28, 3) := by decide +kernel
theorem dL_isBay_160 : decode cL_isBay 160 = .ok (.iinc 7 1, 3) := by decide +kernel
theorem dL_isBay_163 : decode cL_isBay 163 = .ok (.iload 8, 2) := by decide +kernel
theorem dL_isBay_165 : decode cL_isBay 165 = .ok (.aload_n 0, 1) := by decide +kernel
theorem dL_isBay_166 : decode cL_isBay 166 = .ok (.iload 9, 2) := by decide +kernel
theorem dL_isBay_168 : decode cL_isBay 168 = .ok (.iconst 3, 1) := by decide +kernel
theorem dL_isBay_169 : decode cL_isBay 169 = .ok (.invokevirtual 81, 3) := by decide +kernel
theorem dL_isBay_172 : decode cL_isBay 172 = .ok (.iconst 1, 1) := by decide +kernel
theorem dL_isBay_173 : decode cL_isBay 173 = .ok (.if_icmp .ne 8, 3) := by decide +kernel
theorem dL_isBay_176 : decode cL_isBay 176 = .ok (.iload 10, 2) := by decide +kernel
theorem dL_isBay_178 : decode cL_isBay 178 = .ok (.goto 4, 3) := by decide +kernel
theorem dL_isBay_181 : decode cL_isBay 181 = .ok (.iconst 0, 1) := by decide +kernel
theorem dL_isBay_182 : decode cL_isBay 182 = .ok (.ior, 1) := by decide +kernel
theorem dL_isBay_183 : decode cL_isBay 183 = .ok (.istore 8, 2) := by decide +kernel
theorem dL_isBay_185 : decode cL_isBay 185 = .ok (.iinc 9 1, 3) := by decide +kernel
theorem dL_isBay_188 : decode cL_isBay 188 = .ok (.goto (-61), 3) := by decide +kernel
theorem dL_isBay_191 : decode cL_isBay 191 = .ok (.iload 6, 2) := by decide +kernel
theorem dL_isBay_193 : decode cL_isBay 193 = .ok (.ifCond .eq 98, 3) := by decide +kernel
theorem dL_isBay_196 : decode cL_isBay 196 = .ok (.iload 7, 2) := by decide +kernel
theorem dL_isBay_198 : decode cL_isBay 198 = .ok (.aload_n 0, 1) := by decide +kernel
theorem dL_isBay_199 : decode cL_isBay 199 = .ok (.iload_n 1, 1) := by decide +kernel
theorem dL_isBay_200 : decode cL_isBay 200 = .ok (.iconst 4, 1) := by decide +kernel
theorem dL_isBay_201 : decode cL_isBay 201 = .ok (.invokevirtual 78, 3) := by decide +kernel
theorem dL_isBay_204 : decode cL_isBay 204 = .ok (.if_icmp .ne 87, 3) := by decide +kernel
theorem dL_isBay_207 : decode cL_isBay 207 = .ok (.iload 8, 2) := by decide +kernel
theorem dL_isBay_209 : decode cL_isBay 209 = .ok (.aload_n 0, 1) := by decide +kernel
theorem dL_isBay_210 : decode cL_isBay 210 = .ok (.iload_n 1, 1) := by decide +kernel
theorem dL_isBay_211 : decode cL_isBay 211 = .ok (.iconst 5, 1) := by decide +kernel
theorem dL_isBay_212 : decode cL_isBay 212 = .ok (.invokevirtual 78, 3) := by decide +kernel
theorem dL_isBay_215 : decode cL_isBay 215 = .ok (.if_icmp .ne 76, 3) := by decide +kernel
theorem dL_isBay_218 : decode cL_isBay 218 = .ok (.aload_n 0, 1) := by decide +kernel
theorem dL_isBay_219 : decode cL_isBay 219 = .ok (.iload_n 1, 1) := by decide +kernel
theorem dL_isBay_220 : decode cL_isBay 220 = .ok (.invokevirtual 87, 3) := by decide +kernel
theorem dL_isBay_223 : decode cL_isBay 223 = .ok (.aload_n 0, 1) := by decide +kernel
theorem dL_isBay_224 : decode cL_isBay 224 = .ok (.iload_n 1, 1) := by decide +kernel
theorem dL_isBay_225 : decode cL_isBay 225 = .ok (.invokevirtual 90, 3) := by decide +kernel
theorem dL_isBay_228 : decode cL_isBay 228 = .ok (.if_icmp .ne 63, 3) := by decide +kernel
theorem dL_isBay_231 : decode cL_isBay 231 = .ok (.aload_n 0, 1) := by decide +kernel
theorem dL_isBay_232 : decode cL_isBay 232 = .ok (.iload_n 1, 1) := by decide +kernel
theorem dL_isBay_233 : decode cL_isBay 233 = .ok (.invokevirtual 87, 3) := by decide +kernel
theorem dL_isBay_236 : decode cL_isBay 236 = .ok (.iload_n 1, 1) := by decide +kernel
theorem dL_isBay_237 : decode cL_isBay 237 = .ok (.iconst 1, 1) := by decide +kernel
theorem dL_isBay_238 : decode cL_isBay 238 = .ok (.iadd, 1) := by decide +kernel
theorem dL_isBay_239 : decode cL_isBay 239 = .ok (.invokestatic 93, 3) := by decide +kernel
theorem dL_isBay_242 : decode cL_isBay 242 = .ok (.if_icmp .lt 49, 3) := by decide +kernel
theorem dL_isBay_245 : decode cL_isBay 245 = .ok (.aload_n 0, 1) := by decide +kernel
theorem dL_isBay_246 : decode cL_isBay 246 = .ok (.iconst 0, 1) := by decide +kernel
theorem dL_isBay_247 : decode cL_isBay 247 = .ok (.iload_n 1, 1) := by decide +kernel
theorem dL_isBay_248 : decode cL_isBay 248 = .ok (.invokevirtual 98, 3) := by decide +kernel
theorem dL_isBay_251 : decode cL_isBay 251 = .ok (.aload_n 0, 1) := by decide +kernel
theorem dL_isBay_252 : decode cL_isBay 252 = .ok (.iconst 0, 1) := by decide +kernel
theorem dL_isBay_253 : decode cL_isBay 253 = .ok (.iload_n 1, 1) := by decide +kernel
theorem dL_isBay_254 : decode cL_isBay 254 = .ok (.invokevirtual 101, 3) := by decide +kernel
theorem dL_isBay_257 : decode cL_isBay 257 = .ok (.if_icmp .ne 34, 3) := by decide +kernel
theorem dL_isBay_260 : decode cL_isBay 260 = .ok (.aload_n 0, 1) := by decide +kernel
theorem dL_isBay_261 : decode cL_isBay 261 = .ok (.iload_n 1, 1) := by decide +kernel
theorem dL_isBay_262 : decode cL_isBay 262 = .ok (.iload_n 1, 1) := by decide +kernel
theorem dL_isBay_263 : decode cL_isBay 263 = .ok (.invokevirtual 98, 3) := by decide +kernel
theorem dL_isBay_266 : decode cL_isBay 266 = .ok (.iload_n 3, 1) := by decide +kernel
theorem dL_isBay_267 : decode cL_isBay 267 = .ok (.if_icmp .ne 24, 3) := by decide +kernel
theorem dL_isBay_270 : decode cL_isBay 270 = .ok (.aload_n 0, 1) := by decide +kernel
theorem dL_isBay_271 : decode cL_isBay 271 = .ok (.iload_n 1, 1) := by decide +kernel
theorem dL_isBay_272 : decode cL_isBay 272 = .ok (.bipush 31, 2) := by decide +kernel
theorem dL_isBay_274 : decode cL_isBay 274 = .ok (.invokevirtual 98, 3) := by decide +kernel
theorem dL_isBay_277 : decode cL_isBay 277 = .ok (.aload_n 0, 1) := by decide +kernel
theorem dL_isBay_278 : decode cL_isBay 278 = .ok (.iload_n 1, 1) := by decide +kernel
theorem dL_isBay_279 : decode cL_isBay 279 = .ok (.bipush 31, 2) := by decide +kernel
theorem dL_isBay_281 : decode cL_isBay 281 = .ok (.invokevirtual 101, 3) := by decide +kernel
theorem dL_isBay_284 : decode cL_isBay 284 = .ok (.if_icmp .ne 7, 3) := by decide +kernel
theorem dL_isBay_287 : decode cL_isBay 287 = .ok (.iconst 1, 1) := by decide +kernel
theorem dL_isBay_288 : decode cL_isBay 288 = .ok (.goto 4, 3) := by decide +kernel
theorem dL_isBay_291 : decode cL_isBay 291 = .ok (.iconst 0, 1) := by decide +kernel
theorem dL_isBay_292 : decode cL_isBay 292 = .ok (.ireturn, 1) := by decide +kernel
theorem dL_isRung_0 : decode cL_isRung 0 = .ok (.iload_n 1, 1) := by decide +kernel
theorem dL_isRung_1 : decode cL_isRung 1 = .ok (.iload_n 1, 1) := by decide +kernel
theorem dL_isRung_2 : decode cL_isRung 2 = .ok (.ineg, 1) := by decide +kernel
theorem dL_isRung_3 : decode cL_isRung 3 = .ok (.iand, 1) := by decide +kernel
theorem dL_isRung_4 : decode cL_isRung 4 = .ok (.istore_n 2, 1) := by decide +kernel
theorem dL_isRung_5 : decode cL_isRung 5 = .ok (.aload_n 0, 1) := by decide +kernel
theorem dL_isRung_6 : decode cL_isRung 6 = .ok (.iload_n 1, 1) := by decide +kernel
theorem dL_isRung_7 : decode cL_isRung 7 = .ok (.iload_n 2, 1) := by decide +kernel
theorem dL_isRung_8 : decode cL_isRung 8 = .ok (.isub, 1) := by decide +kernel
theorem dL_isRung_9 : decode cL_isRung 9 = .ok (.iload_n 1, 1) := by decide +kernel
theorem dL_isRung_10 : decode cL_isRung 10 = .ok (.iconst 1, 1) := by decide +kernel
theorem dL_isRung_11 : decode cL_isRung 11 = .ok (.isub, 1) := by decide +kernel
theorem dL_isRung_12 : decode cL_isRung 12 = .ok (.invokevirtual 101, 3) := by decide +kernel
theorem dL_isRung_15 : decode cL_isRung 15 = .ok (.istore_n 3, 1) := by decide +kernel
theorem dL_isRung_16 : decode cL_isRung 16 = .ok (.aload_n 0, 1) := by decide +kernel
theorem dL_isRung_17 : decode cL_isRung 17 = .ok (.iload_n 1, 1) := by decide +kernel
theorem dL_isRung_18 : decode cL_isRung 18 = .ok (.iconst 3, 1) := by decide +kernel
theorem dL_isRung_19 : decode cL_isRung 19 = .ok (.invokevirtual 81, 3) := by decide +kernel
theorem dL_isRung_22 : decode cL_isRung 22 = .ok (.iconst 1, 1) := by decide +kernel
theorem dL_isRung_23 : decode cL_isRung 23 = .ok (.if_icmp .ne 7, 3) := by decide +kernel
theorem dL_isRung_26 : decode cL_isRung 26 = .ok (.iconst 1, 1) := by decide +kernel
theorem dL_isRung_27 : decode cL_isRung 27 = .ok (.goto 4, 3) := by decide +kernel
theorem dL_isRung_30 : decode cL_isRung 30 = .ok (.iconst 0, 1) := by decide +kernel
theorem dL_isRung_31 : decode cL_isRung 31 = .ok (.istore 4, 2) := by decide +kernel
theorem dL_isRung_33 : decode cL_isRung 33 = .ok (.aload_n 0, 1) := by decide +kernel
theorem dL_isRung_34 : decode cL_isRung 34 = .ok (.iload_n 1, 1) := by decide +kernel
theorem dL_isRung_35 : decode cL_isRung 35 = .ok (.invokevirtual 104, 3) := by decide +kernel
theorem dL_isRung_38 : decode cL_isRung 38 = .ok (.istore 5, 2) := by decide +kernel
theorem dL_isRung_40 : decode cL_isRung 40 = .ok (.aload_n 0, 1) := by decide +kernel
theorem dL_isRung_41 : decode cL_isRung 41 = .ok (.iload_n 1, 1) := by decide +kernel
theorem dL_isRung_42 : decode cL_isRung 42 = .ok (.iconst 0, 1) := by decide +kernel
theorem dL_isRung_43 : decode cL_isRung 43 = .ok (.invokevirtual 81, 3) := by decide +kernel
theorem dL_isRung_46 : decode cL_isRung 46 = .ok (.iload_n 2, 1) := by decide +kernel
theorem dL_isRung_47 : decode cL_isRung 47 = .ok (.if_icmp .ne 126, 3) := by decide +kernel
theorem dL_isRung_50 : decode cL_isRung 50 = .ok (.aload_n 0, 1) := by decide +kernel
theorem dL_isRung_51 : decode cL_isRung 51 = .ok (.iload_n 1, 1) := by decide +kernel
theorem dL_isRung_52 : decode cL_isRung 52 = .ok (.iconst 1, 1) := by decide +kernel
theorem dL_isRung_53 : decode cL_isRung 53 = .ok (.invokevirtual 81, 3) := by decide +kernel
theorem dL_isRung_56 : decode cL_isRung 56 = .ok (.iload_n 3, 1) := by decide +kernel
theorem dL_isRung_57 : decode cL_isRung 57 = .ok (.if_icmp .ne 116, 3) := by decide +kernel
theorem dL_isRung_60 : decode cL_isRung 60 = .ok (.aload_n 0, 1) := by decide +kernel
theorem dL_isRung_61 : decode cL_isRung 61 = .ok (.iload_n 1, 1) := by decide +kernel
theorem dL_isRung_62 : decode cL_isRung 62 = .ok (.iconst 2, 1) := by decide +kernel
theorem dL_isRung_63 : decode cL_isRung 63 = .ok (.invokevirtual 81, 3) := by decide +kernel
theorem dL_isRung_66 : decode cL_isRung 66 = .ok (.bipush 100, 2) := by decide +kernel
theorem dL_isRung_68 : decode cL_isRung 68 = .ok (.iload_n 2, 1) := by decide +kernel
theorem dL_isRung_69 : decode cL_isRung 69 = .ok (.imul, 1) := by decide +kernel
theorem dL_isRung_70 : decode cL_isRung 70 = .ok (.if_icmp .ne 103, 3) := by decide +kernel
theorem dL_isRung_73 : decode cL_isRung 73 = .ok (.aload_n 0, 1) := by decide +kernel
theorem dL_isRung_74 : decode cL_isRung 74 = .ok (.iload_n 1, 1) := by decide +kernel
theorem dL_isRung_75 : decode cL_isRung 75 = .ok (.iconst 4, 1) := by decide +kernel
theorem dL_isRung_76 : decode cL_isRung 76 = .ok (.invokevirtual 81, 3) := by decide +kernel
theorem dL_isRung_79 : decode cL_isRung 79 = .ok (.iload_n 1, 1) := by decide +kernel
theorem dL_isRung_80 : decode cL_isRung 80 = .ok (.iload_n 2, 1) := by decide +kernel
theorem dL_isRung_81 : decode cL_isRung 81 = .ok (.isub, 1) := by decide +kernel
theorem dL_isRung_82 : decode cL_isRung 82 = .ok (.if_icmp .ne 91, 3) := by decide +kernel
theorem dL_isRung_85 : decode cL_isRung 85 = .ok (.iconst 1, 1) := by decide +kernel
theorem dL_isRung_86 : decode cL_isRung 86 = .ok (.aload_n 0, 1) := by decide +kernel
theorem dL_isRung_87 : decode cL_isRung 87 = .ok (.iload_n 1, 1) := by decide +kernel
theorem dL_isRung_88 : decode cL_isRung 88 = .ok (.iconst 5, 1) := by decide +kernel
theorem dL_isRung_89 : decode cL_isRung 89 = .ok (.invokevirtual 81, 3) := by decide +kernel
theorem dL_isRung_92 : decode cL_isRung 92 = .ok (.ishl, 1) := by decide +kernel
theorem dL_isRung_93 : decode cL_isRung 93 = .ok (.iload_n 2, 1) := by decide +kernel
theorem dL_isRung_94 : decode cL_isRung 94 = .ok (.if_icmp .ne 79, 3) := by decide +kernel
theorem dL_isRung_97 : decode cL_isRung 97 = .ok (.iload 4, 2) := by decide +kernel
theorem dL_isRung_99 : decode cL_isRung 99 = .ok (.ifCond .ne 11, 3) := by decide +kernel
theorem dL_isRung_102 : decode cL_isRung 102 = .ok (.iload_n 3, 1) := by decide +kernel
theorem dL_isRung_103 : decode cL_isRung 103 = .ok (.bipush 100, 2) := by decide +kernel
theorem dL_isRung_105 : decode cL_isRung 105 = .ok (.iload_n 2, 1) := by decide +kernel
theorem dL_isRung_106 : decode cL_isRung 106 = .ok (.imul, 1) := by decide +kernel
theorem dL_isRung_107 : decode cL_isRung 107 = .ok (.if_icmp .gt 66, 3) := by decide +kernel
theorem dL_isRung_110 : decode cL_isRung 110 = .ok (.aload_n 0, 1) := by decide +kernel
theorem dL_isRung_111 : decode cL_isRung 111 = .ok (.iload 5, 2) := by decide +kernel
theorem dL_isRung_113 : decode cL_isRung 113 = .ok (.iconst 1, 1) := by decide +kernel
theorem dL_isRung_114 : decode cL_isRung 114 = .ok (.isub, 1) := by decide +kernel
theorem dL_isRung_115 : decode cL_isRung 115 = .ok (.invokevirtual 107, 3) := by decide +kernel
theorem dL_isRung_118 : decode cL_isRung 118 = .ok (.bipush 33, 2) := by decide +kernel
theorem dL_isRung_120 : decode cL_isRung 120 = .ok (.if_icmp .ne 7, 3) := by decide +kernel
theorem dL_isRung_123 : decode cL_isRung 123 = .ok (.iconst 1, 1) := by decide +kernel
theorem dL_isRung_124 : decode cL_isRung 124 = .ok (.goto 4, 3) := by decide +kernel
theorem dL_isRung_127 : decode cL_isRung 127 = .ok (.iconst 0, 1) := by decide +kernel
theorem dL_isRung_128 : decode cL_isRung 128 = .ok (.iload 4, 2) := by decide +kernel
theorem dL_isRung_130 : decode cL_isRung 130 = .ok (.if_icmp .ne 43, 3) := by decide +kernel
theorem dL_isRung_133 : decode cL_isRung 133 = .ok (.aload_n 0, 1) := by decide +kernel
theorem dL_isRung_134 : decode cL_isRung 134 = .ok (.iload 5, 2) := by decide +kernel
theorem dL_isRung_136 : decode cL_isRung 136 = .ok (.invokevirtual 107, 3) := by decide +kernel
theorem dL_isRung_139 : decode cL_isRung 139 = .ok (.bipush (-11), 2) := by decide +kernel
theorem dL_isRung_141 : decode cL_isRung 141 = .ok (.if_icmp .ne 32, 3) := by decide +kernel
theorem dL_isRung_144 : decode cL_isRung 144 = .ok (.aload_n 0, 1) := by decide +kernel
theorem dL_isRung_145 : decode cL_isRung 145 = .ok (.iconst 0, 1) := by decide +kernel
theorem dL_isRung_146 : decode cL_isRung 146 = .ok (.invokevirtual 107, 3) := by decide +kernel
theorem dL_isRung_149 : decode cL_isRung 149 = .ok (.bipush 48, 2) := by decide +kernel
theorem dL_isRung_151 : decode cL_isRung 151 = .ok (.iload_n 1, 1) := by decide +kernel
theorem dL_isRung_152 : decode cL_isRung 152 = .ok (.bipush 9, 2) := by decide +kernel
theorem dL_isRung_154 : decode cL_isRung 154 = .ok (.if_icmp .le 10, 3) := by decide +kernel
theorem dL_isRung_157 : decode cL_isRung 157 = .ok (.iload_n 1, 1) := by decide +kernel
theorem dL_isRung_158 : decode cL_isRung 158 = .ok (.bipush 10, 2) := by decide +kernel
theorem dL_isRung_160 : decode cL_isRung 160 = .ok (.idiv, 1) := by decide +kernel
theorem dL_isRung_161 : decode cL_isRung 161 = .ok (.goto 4, 3) := by decide +kernel
theorem dL_isRung_164 : decode cL_isRung 164 = .ok (.iload_n 1, 1) := by decide +kernel
theorem dL_isRung_165 : decode cL_isRung 165 = .ok (.iadd, 1) := by decide +kernel
theorem dL_isRung_166 : decode cL_isRung 166 = .ok (.if_icmp .ne 7, 3) := by decide +kernel
theorem dL_isRung_169 : decode cL_isRung 169 = .ok (.iconst 1, 1) := by decide +kernel
theorem dL_isRung_170 : decode cL_isRung 170 = .ok (.goto 4, 3) := by decide +kernel
theorem dL_isRung_173 : decode cL_isRung 173 = .ok (.iconst 0, 1) := by decide +kernel
theorem dL_isRung_174 : decode cL_isRung 174 = .ok (.ireturn, 1) := by decide +kernel
theorem dL_areRanks_0 : decode cL_areRanks 0 = .ok (.aload_n 0, 1) := by decide +kernel
theorem dL_areRanks_1 : decode cL_areRanks 1 = .ok (.iconst 2, 1) := by decide +kernel
theorem dL_areRanks_2 : decode cL_areRanks 2 = .ok (.invokevirtual 75, 3) := by decide +kernel
theorem dL_areRanks_5 : decode cL_areRanks 5 = .ok (.istore_n 1, 1) := by decide +kernel
theorem dL_areRanks_6 : decode cL_areRanks 6 = .ok (.aload_n 0, 1) := by decide +kernel
theorem dL_areRanks_7 : decode cL_areRanks 7 = .ok (.iload_n 1, 1) := by decide +kernel
theorem dL_areRanks_8 : decode cL_areRanks 8 = .ok (.invokevirtual 110, 3) := by decide +kernel
theorem dL_areRanks_11 : decode cL_areRanks 11 = .ok (.bipush (-11), 2) := by decide +kernel
theorem dL_areRanks_13 : decode cL_areRanks 13 = .ok (.if_icmp .ne 17, 3) := by decide +kernel
theorem dL_areRanks_16 : decode cL_areRanks 16 = .ok (.aload_n 0, 1) := by decide +kernel
theorem dL_areRanks_17 : decode cL_areRanks 17 = .ok (.iconst (-1), 1) := by decide +kernel
theorem dL_areRanks_18 : decode cL_areRanks 18 = .ok (.invokevirtual 110, 3) := by decide +kernel
theorem dL_areRanks_21 : decode cL_areRanks 21 = .ok (.bipush (-11), 2) := by decide +kernel
theorem dL_areRanks_23 : decode cL_areRanks 23 = .ok (.if_icmp .ne 7, 3) := by decide +kernel
theorem dL_areRanks_26 : decode cL_areRanks 26 = .ok (.iconst 1, 1) := by decide +kernel
theorem dL_areRanks_27 : decode cL_areRanks 27 = .ok (.goto 4, 3) := by decide +kernel
theorem dL_areRanks_30 : decode cL_areRanks 30 = .ok (.iconst 0, 1) := by decide +kernel
theorem dL_areRanks_31 : decode cL_areRanks 31 = .ok (.istore_n 2, 1) := by decide +kernel
theorem dL_areRanks_32 : decode cL_areRanks 32 = .ok (.iconst 1, 1) := by decide +kernel
theorem dL_areRanks_33 : decode cL_areRanks 33 = .ok (.istore_n 3, 1) := by decide +kernel
theorem dL_areRanks_34 : decode cL_areRanks 34 = .ok (.iload_n 2, 1) := by decide +kernel
theorem dL_areRanks_35 : decode cL_areRanks 35 = .ok (.ifCond .eq 97, 3) := by decide +kernel
theorem dL_areRanks_38 : decode cL_areRanks 38 = .ok (.iload_n 3, 1) := by decide +kernel
theorem dL_areRanks_39 : decode cL_areRanks 39 = .ok (.iload_n 1, 1) := by decide +kernel
theorem dL_areRanks_40 : decode cL_areRanks 40 = .ok (.if_icmp .ge 92, 3) := by decide +kernel
theorem dL_areRanks_43 : decode cL_areRanks 43 = .ok (.aload_n 0, 1) := by decide +kernel
theorem dL_areRanks_44 : decode cL_areRanks 44 = .ok (.iload_n 3, 1) := by decide +kernel
theorem dL_areRanks_45 : decode cL_areRanks 45 = .ok (.iconst 1, 1) := by decide +kernel
theorem dL_areRanks_46 : decode cL_areRanks 46 = .ok (.isub, 1) := by decide +kernel
theorem dL_areRanks_47 : decode cL_areRanks 47 = .ok (.invokevirtual 110, 3) := by decide +kernel
theorem dL_areRanks_50 : decode cL_areRanks 50 = .ok (.istore 4, 2) := by decide +kernel
theorem dL_areRanks_52 : decode cL_areRanks 52 = .ok (.aload_n 0, 1) := by decide +kernel
theorem dL_areRanks_53 : decode cL_areRanks 53 = .ok (.iload_n 3, 1) := by decide +kernel
theorem dL_areRanks_54 : decode cL_areRanks 54 = .ok (.invokevirtual 110, 3) := by decide +kernel
theorem dL_areRanks_57 : decode cL_areRanks 57 = .ok (.istore 5, 2) := by decide +kernel
theorem dL_areRanks_59 : decode cL_areRanks 59 = .ok (.aload_n 0, 1) := by decide +kernel
theorem dL_areRanks_60 : decode cL_areRanks 60 = .ok (.iload 4, 2) := by decide +kernel
theorem dL_areRanks_62 : decode cL_areRanks 62 = .ok (.iconst 2, 1) := by decide +kernel
theorem dL_areRanks_63 : decode cL_areRanks 63 = .ok (.invokevirtual 78, 3) := by decide +kernel
theorem dL_areRanks_66 : decode cL_areRanks 66 = .ok (.aload_n 0, 1) := by decide +kernel
theorem dL_areRanks_67 : decode cL_areRanks 67 = .ok (.iload 5, 2) := by decide +kernel
theorem dL_areRanks_69 : decode cL_areRanks 69 = .ok (.iconst 2, 1) := by decide +kernel
theorem dL_areRanks_70 : decode cL_areRanks 70 = .ok (.invokevirtual 78, 3) := by decide +kernel
theorem dL_areRanks_73 : decode cL_areRanks 73 = .ok (.isub, 1) := by decide +kernel
theorem dL_areRanks_74 : decode cL_areRanks 74 = .ok (.istore 6, 2) := by decide +kernel
theorem dL_areRanks_76 : decode cL_areRanks 76 = .ok (.aload_n 0, 1) := by decide +kernel
theorem dL_areRanks_77 : decode cL_areRanks 77 = .ok (.iload 4, 2) := by decide +kernel
theorem dL_areRanks_79 : decode cL_areRanks 79 = .ok (.iconst 1, 1) := by decide +kernel
theorem dL_areRanks_80 : decode cL_areRanks 80 = .ok (.invokevirtual 78, 3) := by decide +kernel
theorem dL_areRanks_83 : decode cL_areRanks 83 = .ok (.aload_n 0, 1) := by decide +kernel
theorem dL_areRanks_84 : decode cL_areRanks 84 = .ok (.iload 5, 2) := by decide +kernel
theorem dL_areRanks_86 : decode cL_areRanks 86 = .ok (.iconst 1, 1) := by decide +kernel
theorem dL_areRanks_87 : decode cL_areRanks 87 = .ok (.invokevirtual 78, 3) := by decide +kernel
theorem dL_areRanks_90 : decode cL_areRanks 90 = .ok (.isub, 1) := by decide +kernel
theorem dL_areRanks_91 : decode cL_areRanks 91 = .ok (.istore 7, 2) := by decide +kernel
theorem dL_areRanks_93 : decode cL_areRanks 93 = .ok (.iload 6, 2) := by decide +kernel
theorem dL_areRanks_95 : decode cL_areRanks 95 = .ok (.ifCond .gt 25, 3) := by decide +kernel
theorem dL_areRanks_98 : decode cL_areRanks 98 = .ok (.iload 6, 2) := by decide +kernel
theorem dL_areRanks_100 : decode cL_areRanks 100 = .ok (.ifCond .ne 24, 3) := by decide +kernel
theorem dL_areRanks_103 : decode cL_areRanks 103 = .ok (.iload 7, 2) := by decide +kernel
theorem dL_areRanks_105 : decode cL_areRanks 105 = .ok (.ifCond .gt 15, 3) := by decide +kernel
theorem dL_areRanks_108 : decode cL_areRanks 108 = .ok (.iload 7, 2) := by decide +kernel
theorem dL_areRanks_110 : decode cL_areRanks 110 = .ok (.ifCond .ne 14, 3) := by decide +kernel
theorem dL_areRanks_113 : decode cL_areRanks 113 = .ok (.iload 4, 2) := by decide +kernel
theorem dL_areRanks_115 : decode cL_areRanks 115 = .ok (.iload 5, 2) := by decide +kernel
theorem dL_areRanks_117 : decode cL_areRanks 117 = .ok (.if_icmp .ge 7, 3) := by decide +kernel
theorem dL_areRanks_120 : decode cL_areRanks 120 = .ok (.iconst 1, 1) := by decide +kernel
theorem dL_areRanks_121 : decode cL_areRanks 121 = .ok (.goto 4, 3) := by decide +kernel
theorem dL_areRanks_124 : decode cL_areRanks 124 = .ok (.iconst 0, 1) := by decide +kernel
theorem dL_areRanks_125 : decode cL_areRanks 125 = .ok (.istore_n 2, 1) := by decide +kernel
theorem dL_areRanks_126 : decode cL_areRanks 126 = .ok (.iinc 3 1, 3) := by decide +kernel
theorem dL_areRanks_129 : decode cL_areRanks 129 = .ok (.goto (-95), 3) := by decide +kernel
theorem dL_areRanks_132 : decode cL_areRanks 132 = .ok (.aload_n 0, 1) := by decide +kernel
theorem dL_areRanks_133 : decode cL_areRanks 133 = .ok (.invokevirtual 113, 3) := by decide +kernel
theorem dL_areRanks_136 : decode cL_areRanks 136 = .ok (.istore_n 3, 1) := by decide +kernel
theorem dL_areRanks_137 : decode cL_areRanks 137 = .ok (.iconst 1, 1) := by decide +kernel
theorem dL_areRanks_138 : decode cL_areRanks 138 = .ok (.istore 4, 2) := by decide +kernel
theorem dL_areRanks_140 : decode cL_areRanks 140 = .ok (.iload_n 2, 1) := by decide +kernel
theorem dL_areRanks_141 : decode cL_areRanks 141 = .ok (.ifCond .eq 74, 3) := by decide +kernel
theorem dL_areRanks_144 : decode cL_areRanks 144 = .ok (.iload 4, 2) := by decide +kernel
theorem dL_areRanks_146 : decode cL_areRanks 146 = .ok (.bipush 33, 2) := by decide +kernel
theorem dL_areRanks_148 : decode cL_areRanks 148 = .ok (.if_icmp .ge 67, 3) := by decide +kernel
theorem dL_areRanks_151 : decode cL_areRanks 151 = .ok (.aload_n 0, 1) := by decide +kernel
theorem dL_areRanks_152 : decode cL_areRanks 152 = .ok (.iload 4, 2) := by decide +kernel
theorem dL_areRanks_154 : decode cL_areRanks 154 = .ok (.iconst 2, 1) := by decide +kernel
theorem dL_areRanks_155 : decode cL_areRanks 155 = .ok (.invokevirtual 81, 3) := by decide +kernel
theorem dL_areRanks_158 : decode cL_areRanks 158 = .ok (.aload_n 0, 1) := by decide +kernel
theorem dL_areRanks_159 : decode cL_areRanks 159 = .ok (.iload 4, 2) := by decide +kernel
theorem dL_areRanks_161 : decode cL_areRanks 161 = .ok (.iconst 1, 1) := by decide +kernel
theorem dL_areRanks_162 : decode cL_areRanks 162 = .ok (.invokevirtual 81, 3) := by decide +kernel
theorem dL_areRanks_165 : decode cL_areRanks 165 = .ok (.isub, 1) := by decide +kernel
theorem dL_areRanks_166 : decode cL_areRanks 166 = .ok (.istore 5, 2) := by decide +kernel
theorem dL_areRanks_168 : decode cL_areRanks 168 = .ok (.aload_n 0, 1) := by decide +kernel
theorem dL_areRanks_169 : decode cL_areRanks 169 = .ok (.iload 4, 2) := by decide +kernel
theorem dL_areRanks_171 : decode cL_areRanks 171 = .ok (.iconst 3, 1) := by decide +kernel
theorem dL_areRanks_172 : decode cL_areRanks 172 = .ok (.invokevirtual 81, 3) := by decide +kernel
theorem dL_areRanks_175 : decode cL_areRanks 175 = .ok (.iconst 1, 1) := by decide +kernel
theorem dL_areRanks_176 : decode cL_areRanks 176 = .ok (.if_icmp .eq 27, 3) := by decide +kernel
theorem dL_areRanks_179 : decode cL_areRanks 179 = .ok (.iload_n 3, 1) := by decide +kernel
theorem dL_areRanks_180 : decode cL_areRanks 180 = .ok (.bipush (-15), 2) := by decide +kernel
theorem dL_areRanks_182 : decode cL_areRanks 182 = .ok (.if_icmp .eq 25, 3) := by decide +kernel
theorem dL_areRanks_185 : decode cL_areRanks 185 = .ok (.iload 5, 2) := by decide +kernel
theorem dL_areRanks_187 : decode cL_areRanks 187 = .ok (.aload_n 0, 1) := by decide +kernel
theorem dL_areRanks_188 : decode cL_areRanks 188 = .ok (.iload_n 3, 1) := by decide +kernel
theorem dL_areRanks_189 : decode cL_areRanks 189 = .ok (.iconst 2, 1) := by decide +kernel
theorem dL_areRanks_190 : decode cL_areRanks 190 = .ok (.invokevirtual 81, 3) := by decide +kernel
theorem dL_areRanks_193 : decode cL_areRanks 193 = .ok (.aload_n 0, 1) := by decide +kernel
theorem dL_areRanks_194 : decode cL_areRanks 194 = .ok (.iload_n 3, 1) := by decide +kernel
theorem dL_areRanks_195 : decode cL_areRanks 195 = .ok (.iconst 1, 1) := by decide +kernel
theorem dL_areRanks_196 : decode cL_areRanks 196 = .ok (.invokevirtual 81, 3) := by decide +kernel
theorem dL_areRanks_199 : decode cL_areRanks 199 = .ok (.isub, 1) := by decide +kernel
theorem dL_areRanks_200 : decode cL_areRanks 200 = .ok (.if_icmp .lt 7, 3) := by decide +kernel
theorem dL_areRanks_203 : decode cL_areRanks 203 = .ok (.iconst 1, 1) := by decide +kernel
theorem dL_areRanks_204 : decode cL_areRanks 204 = .ok (.goto 4, 3) := by decide +kernel
theorem dL_areRanks_207 : decode cL_areRanks 207 = .ok (.iconst 0, 1) := by decide +kernel
theorem dL_areRanks_208 : decode cL_areRanks 208 = .ok (.istore_n 2, 1) := by decide +kernel
theorem dL_areRanks_209 : decode cL_areRanks 209 = .ok (.iinc 4 1, 3) := by decide +kernel
theorem dL_areRanks_212 : decode cL_areRanks 212 = .ok (.goto (-72), 3) := by decide +kernel
theorem dL_areRanks_215 : decode cL_areRanks 215 = .ok (.iload_n 2, 1) := by decide +kernel
theorem dL_areRanks_216 : decode cL_areRanks 216 = .ok (.ifCond .eq 54, 3) := by decide +kernel
theorem dL_areRanks_219 : decode cL_areRanks 219 = .ok (.iload_n 1, 1) := by decide +kernel
theorem dL_areRanks_220 : decode cL_areRanks 220 = .ok (.ifCond .ne 7, 3) := by decide +kernel
theorem dL_areRanks_223 : decode cL_areRanks 223 = .ok (.iconst 1, 1) := by decide +kernel
theorem dL_areRanks_224 : decode cL_areRanks 224 = .ok (.goto 4, 3) := by decide +kernel
theorem dL_areRanks_227 : decode cL_areRanks 227 = .ok (.iconst 0, 1) := by decide +kernel
theorem dL_areRanks_228 : decode cL_areRanks 228 = .ok (.aload_n 0, 1) := by decide +kernel
theorem dL_areRanks_229 : decode cL_areRanks 229 = .ok (.invokevirtual 116, 3) := by decide +kernel
theorem dL_areRanks_232 : decode cL_areRanks 232 = .ok (.bipush (-15), 2) := by decide +kernel
theorem dL_areRanks_234 : decode cL_areRanks 234 = .ok (.if_icmp .ne 7, 3) := by decide +kernel
theorem dL_areRanks_237 : decode cL_areRanks 237 = .ok (.iconst 1, 1) := by decide +kernel
theorem dL_areRanks_238 : decode cL_areRanks 238 = .ok (.goto 4, 3) := by decide +kernel
theorem dL_areRanks_241 : decode cL_areRanks 241 = .ok (.iconst 0, 1) := by decide +kernel
theorem dL_areRanks_242 : decode cL_areRanks 242 = .ok (.if_icmp .ne 28, 3) := by decide +kernel
theorem dL_areRanks_245 : decode cL_areRanks 245 = .ok (.aload_n 0, 1) := by decide +kernel
theorem dL_areRanks_246 : decode cL_areRanks 246 = .ok (.invokevirtual 119, 3) := by decide +kernel
theorem dL_areRanks_249 : decode cL_areRanks 249 = .ok (.bipush 32, 2) := by decide +kernel
theorem dL_areRanks_251 : decode cL_areRanks 251 = .ok (.aload_n 0, 1) := by decide +kernel
theorem dL_areRanks_252 : decode cL_areRanks 252 = .ok (.bipush 13, 2) := by decide +kernel
theorem dL_areRanks_254 : decode cL_areRanks 254 = .ok (.invokevirtual 75, 3) := by decide +kernel
theorem dL_areRanks_257 : decode cL_areRanks 257 = .ok (.isub, 1) := by decide +kernel
theorem dL_areRanks_258 : decode cL_areRanks 258 = .ok (.i2f, 1) := by decide +kernel
theorem dL_areRanks_259 : decode cL_areRanks 259 = .ok (.ldc 123, 2) := by decide +kernel
theorem dL_areRanks_261 : decode cL_areRanks 261 = .ok (.fdiv, 1) := by decide +kernel
theorem dL_areRanks_262 : decode cL_areRanks 262 = .ok (.fcmp .l, 1) := by decide +kernel
theorem dL_areRanks_263 : decode cL_areRanks 263 = .ok (.ifCond .ne 7, 3) := by decide +kernel
theorem dL_areRanks_266 : decode cL_areRanks 266 = .ok (.iconst 1, 1) := by decide +kernel
theorem dL_areRanks_267 : decode cL_areRanks 267 = .ok (.goto 4, 3) := by decide +kernel
theorem dL_areRanks_270 : decode cL_areRanks 270 = .ok (.iconst 0, 1) := by decide +kernel
theorem dL_areRanks_271 : decode cL_areRanks 271 = .ok (.ireturn, 1) := by decide +kernel
theorem dL_areReached_0 : decode cL_areReached 0 = .ok (.aload_n 0, 1) := by decide +kernel
theorem dL_areReached_1 : decode cL_areReached 1 = .ok (.iconst 3, 1) := by decide +kernel
theorem dL_areReached_2 : decode cL_areReached 2 = .ok (.invokevirtual 75, 3) := by decide +kernel
theorem dL_areReached_5 : decode cL_areReached 5 = .ok (.istore_n 1, 1) := by decide +kernel
theorem dL_areReached_6 : decode cL_areReached 6 = .ok (.aload_n 0, 1) := by decide +kernel
theorem dL_areReached_7 : decode cL_areReached 7 = .ok (.iload_n 1, 1) := by decide +kernel
theorem dL_areReached_8 : decode cL_areReached 8 = .ok (.iconst 1, 1) := by decide +kernel
theorem dL_areReached_9 : decode cL_areReached 9 = .ok (.iadd, 1) := by decide +kernel
theorem dL_areReached_10 : decode cL_areReached 10 = .ok (.invokevirtual 124, 3) := by decide +kernel
theorem dL_areReached_13 : decode cL_areReached 13 = .ok (.bipush (-15), 2) := by decide +kernel
theorem dL_areReached_15 : decode cL_areReached 15 = .ok (.if_icmp .ne 19, 3) := by decide +kernel
theorem dL_areReached_18 : decode cL_areReached 18 = .ok (.aload_n 0, 1) := by decide +kernel
theorem dL_areReached_19 : decode cL_areReached 19 = .ok (.iload_n 1, 1) := by decide +kernel
theorem dL_areReached_20 : decode cL_areReached 20 = .ok (.iconst 1, 1) := by decide +kernel
theorem dL_areReached_21 : decode cL_areReached 21 = .ok (.iadd, 1) := by decide +kernel
theorem dL_areReached_22 : decode cL_areReached 22 = .ok (.invokevirtual 127, 3) := by decide +kernel
theorem dL_areReached_25 : decode cL_areReached 25 = .ok (.bipush (-15), 2) := by decide +kernel
theorem dL_areReached_27 : decode cL_areReached 27 = .ok (.if_icmp .ne 7, 3) := by decide +kernel
theorem dL_areReached_30 : decode cL_areReached 30 = .ok (.iconst 1, 1) := by decide +kernel
theorem dL_areReached_31 : decode cL_areReached 31 = .ok (.goto 4, 3) := by decide +kernel
theorem dL_areReached_34 : decode cL_areReached 34 = .ok (.iconst 0, 1) := by decide +kernel
theorem dL_areReached_35 : decode cL_areReached 35 = .ok (.istore_n 2, 1) := by decide +kernel
theorem dL_areReached_36 : decode cL_areReached 36 = .ok (.iconst 1, 1) := by decide +kernel
theorem dL_areReached_37 : decode cL_areReached 37 = .ok (.istore_n 3, 1) := by decide +kernel
theorem dL_areReached_38 : decode cL_areReached 38 = .ok (.iload_n 2, 1) := by decide +kernel
theorem dL_areReached_39 : decode cL_areReached 39 = .ok (.ifCond .eq 87, 3) := by decide +kernel
theorem dL_areReached_42 : decode cL_areReached 42 = .ok (.iload_n 3, 1) := by decide +kernel
theorem dL_areReached_43 : decode cL_areReached 43 = .ok (.bipush 9, 2) := by decide +kernel
theorem dL_areReached_45 : decode cL_areReached 45 = .ok (.if_icmp .ge 81, 3) := by decide +kernel
theorem dL_areReached_48 : decode cL_areReached 48 = .ok (.iload_n 1, 1) := by decide +kernel
theorem dL_areReached_49 : decode cL_areReached 49 = .ok (.ifCond .le 77, 3) := by decide +kernel
theorem dL_areReached_52 : decode cL_areReached 52 = .ok (.iconst 1, 1) := by decide +kernel
theorem dL_areReached_53 : decode cL_areReached 53 = .ok (.iload_n 1, 1) := by decide +kernel
theorem dL_areReached_54 : decode cL_areReached 54 = .ok (.iconst 1, 1) := by decide +kernel
theorem dL_areReached_55 : decode cL_areReached 55 = .ok (.isub, 1) := by decide +kernel
theorem dL_areReached_56 : decode cL_areReached 56 = .ok (.iload_n 3, 1) := by decide +kernel
theorem dL_areReached_57 : decode cL_areReached 57 = .ok (.imul, 1) := by decide +kernel
theorem dL_areReached_58 : decode cL_areReached 58 = .ok (.bipush 8, 2) := by decide +kernel
theorem dL_areReached_60 : decode cL_areReached 60 = .ok (.idiv, 1) := by decide +kernel
theorem dL_areReached_61 : decode cL_areReached 61 = .ok (.iadd, 1) := by decide +kernel
theorem dL_areReached_62 : decode cL_areReached 62 = .ok (.istore 4, 2) := by decide +kernel
theorem dL_areReached_64 : decode cL_areReached 64 = .ok (.aload_n 0, 1) := by decide +kernel
theorem dL_areReached_65 : decode cL_areReached 65 = .ok (.iload 4, 2) := by decide +kernel
theorem dL_areReached_67 : decode cL_areReached 67 = .ok (.invokevirtual 124, 3) := by decide +kernel
theorem dL_areReached_70 : decode cL_areReached 70 = .ok (.istore 5, 2) := by decide +kernel
theorem dL_areReached_72 : decode cL_areReached 72 = .ok (.iload 5, 2) := by decide +kernel
theorem dL_areReached_74 : decode cL_areReached 74 = .ok (.aload_n 0, 1) := by decide +kernel
theorem dL_areReached_75 : decode cL_areReached 75 = .ok (.iload 4, 2) := by decide +kernel
theorem dL_areReached_77 : decode cL_areReached 77 = .ok (.invokevirtual 127, 3) := by decide +kernel
theorem dL_areReached_80 : decode cL_areReached 80 = .ok (.if_icmp .ne 38, 3) := by decide +kernel
theorem dL_areReached_83 : decode cL_areReached 83 = .ok (.aload_n 0, 1) := by decide +kernel
theorem dL_areReached_84 : decode cL_areReached 84 = .ok (.iconst 0, 1) := by decide +kernel
theorem dL_areReached_85 : decode cL_areReached 85 = .ok (.iload 5, 2) := by decide +kernel
theorem dL_areReached_87 : decode cL_areReached 87 = .ok (.invokevirtual 98, 3) := by decide +kernel
theorem dL_areReached_90 : decode cL_areReached 90 = .ok (.iload 4, 2) := by decide +kernel
theorem dL_areReached_92 : decode cL_areReached 92 = .ok (.if_icmp .lt 26, 3) := by decide +kernel
theorem dL_areReached_95 : decode cL_areReached 95 = .ok (.iload 5, 2) := by decide +kernel
theorem dL_areReached_97 : decode cL_areReached 97 = .ok (.ifCond .eq 17, 3) := by decide +kernel
theorem dL_areReached_100 : decode cL_areReached 100 = .ok (.aload_n 0, 1) := by decide +kernel
theorem dL_areReached_101 : decode cL_areReached 101 = .ok (.iconst 0, 1) := by decide +kernel
theorem dL_areReached_102 : decode cL_areReached 102 = .ok (.iload 5, 2) := by decide +kernel
theorem dL_areReached_104 : decode cL_areReached 104 = .ok (.iconst 1, 1) := by decide +kernel
theorem dL_areReached_105 : decode cL_areReached 105 = .ok (.isub, 1) := by decide +kernel
theorem dL_areReached_106 : decode cL_areReached 106 = .ok (.invokevirtual 98, 3) := by decide +kernel
theorem dL_areReached_109 : decode cL_areReached 109 = .ok (.iload 4, 2) := by decide +kernel
theorem dL_areReached_111 : decode cL_areReached 111 = .ok (.if_icmp .ge 7, 3) := by decide +kernel
theorem dL_areReached_114 : decode cL_areReached 114 = .ok (.iconst 1, 1) := by decide +kernel
theorem dL_areReached_115 : decode cL_areReached 115 = .ok (.goto 4, 3) := by decide +kernel
theorem dL_areReached_118 : decode cL_areReached 118 = .ok (.iconst 0, 1) := by decide +kernel
theorem dL_areReached_119 : decode cL_areReached 119 = .ok (.istore_n 2, 1) := by decide +kernel
theorem dL_areReached_120 : decode cL_areReached 120 = .ok (.iinc 3 1, 3) := by decide +kernel
theorem dL_areReached_123 : decode cL_areReached 123 = .ok (.goto (-85), 3) := by decide +kernel
theorem dL_areReached_126 : decode cL_areReached 126 = .ok (.iload_n 2, 1) := by decide +kernel
theorem dL_areReached_127 : decode cL_areReached 127 = .ok (.ireturn, 1) := by decide +kernel
theorem dL_isFit_0 : decode cL_isFit 0 = .ok (.iconst 0, 1) := by decide +kernel
theorem dL_isFit_1 : decode cL_isFit 1 = .ok (.istore_n 1, 1) := by decide +kernel
theorem dL_isFit_2 : decode cL_isFit 2 = .ok (.iconst 0, 1) := by decide +kernel
theorem dL_isFit_3 : decode cL_isFit 3 = .ok (.istore_n 2, 1) := by decide +kernel
theorem dL_isFit_4 : decode cL_isFit 4 = .ok (.iconst 0, 1) := by decide +kernel
theorem dL_isFit_5 : decode cL_isFit 5 = .ok (.istore_n 3, 1) := by decide +kernel
theorem dL_isFit_6 : decode cL_isFit 6 = .ok (.aload_n 0, 1) := by decide +kernel
theorem dL_isFit_7 : decode cL_isFit 7 = .ok (.invokestatic 130, 3) := by decide +kernel
theorem dL_isFit_10 : decode cL_isFit 10 = .ok (.ifCond .eq 22, 3) := by decide +kernel
theorem dL_isFit_13 : decode cL_isFit 13 = .ok (.aload_n 0, 1) := by decide +kernel
theorem dL_isFit_14 : decode cL_isFit 14 = .ok (.invokestatic 134, 3) := by decide +kernel
theorem dL_isFit_17 : decode cL_isFit 17 = .ok (.ifCond .eq 15, 3) := by decide +kernel
theorem dL_isFit_20 : decode cL_isFit 20 = .ok (.aload_n 0, 1) := by decide +kernel
theorem dL_isFit_21 : decode cL_isFit 21 = .ok (.invokevirtual 137, 3) := by decide +kernel
theorem dL_isFit_24 : decode cL_isFit 24 = .ok (.iconst 1, 1) := by decide +kernel
theorem dL_isFit_25 : decode cL_isFit 25 = .ok (.if_icmp .ne 7, 3) := by decide +kernel
theorem dL_isFit_28 : decode cL_isFit 28 = .ok (.iconst 1, 1) := by decide +kernel
theorem dL_isFit_29 : decode cL_isFit 29 = .ok (.goto 4, 3) := by decide +kernel
theorem dL_isFit_32 : decode cL_isFit 32 = .ok (.iconst 0, 1) := by decide +kernel
theorem dL_isFit_33 : decode cL_isFit 33 = .ok (.istore 4, 2) := by decide +kernel
theorem dL_isFit_35 : decode cL_isFit 35 = .ok (.iconst 0, 1) := by decide +kernel
theorem dL_isFit_36 : decode cL_isFit 36 = .ok (.istore 5, 2) := by decide +kernel
theorem dL_isFit_38 : decode cL_isFit 38 = .ok (.iload 4, 2) := by decide +kernel
theorem dL_isFit_40 : decode cL_isFit 40 = .ok (.ifCond .eq 52, 3) := by decide +kernel
theorem dL_isFit_43 : decode cL_isFit 43 = .ok (.iload 5, 2) := by decide +kernel
theorem dL_isFit_45 : decode cL_isFit 45 = .ok (.bipush 32, 2) := by decide +kernel
theorem dL_isFit_47 : decode cL_isFit 47 = .ok (.if_icmp .ge 45, 3) := by decide +kernel
theorem dL_isFit_50 : decode cL_isFit 50 = .ok (.iload_n 1, 1) := by decide +kernel
theorem dL_isFit_51 : decode cL_isFit 51 = .ok (.aload_n 0, 1) := by decide +kernel
theorem dL_isFit_52 : decode cL_isFit 52 = .ok (.iload 5, 2) := by decide +kernel
theorem dL_isFit_54 : decode cL_isFit 54 = .ok (.iconst 1, 1) := by decide +kernel
theorem dL_isFit_55 : decode cL_isFit 55 = .ok (.invokevirtual 78, 3) := by decide +kernel
theorem dL_isFit_58 : decode cL_isFit 58 = .ok (.iadd, 1) := by decide +kernel
theorem dL_isFit_59 : decode cL_isFit 59 = .ok (.istore_n 1, 1) := by decide +kernel
theorem dL_isFit_60 : decode cL_isFit 60 = .ok (.iload_n 2, 1) := by decide +kernel
theorem dL_isFit_61 : decode cL_isFit 61 = .ok (.aload_n 0, 1) := by decide +kernel
theorem dL_isFit_62 : decode cL_isFit 62 = .ok (.iload 5, 2) := by decide +kernel
theorem dL_isFit_64 : decode cL_isFit 64 = .ok (.iconst 1, 1) := by decide +kernel
theorem dL_isFit_65 : decode cL_isFit 65 = .ok (.invokevirtual 78, 3) := by decide +kernel
theorem dL_isFit_68 : decode cL_isFit 68 = .ok (.ifCond .le 7, 3) := by decide +kernel
theorem dL_isFit_71 : decode cL_isFit 71 = .ok (.iconst 1, 1) := by decide +kernel
theorem dL_isFit_72 : decode cL_isFit 72 = .ok (.goto 4, 3) := by decide +kernel
theorem dL_isFit_75 : decode cL_isFit 75 = .ok (.iconst 0, 1) := by decide +kernel
theorem dL_isFit_76 : decode cL_isFit 76 = .ok (.iadd, 1) := by decide +kernel
theorem dL_isFit_77 : decode cL_isFit 77 = .ok (.istore_n 2, 1) := by decide +kernel
theorem dL_isFit_78 : decode cL_isFit 78 = .ok (.aload_n 0, 1) := by decide +kernel
theorem dL_isFit_79 : decode cL_isFit 79 = .ok (.iload 5, 2) := by decide +kernel
theorem dL_isFit_81 : decode cL_isFit 81 = .ok (.invokestatic 140, 3) := by decide +kernel
theorem dL_isFit_84 : decode cL_isFit 84 = .ok (.istore 4, 2) := by decide +kernel
theorem dL_isFit_86 : decode cL_isFit 86 = .ok (.iinc 5 1, 3) := by decide +kernel
theorem dL_isFit_89 : decode cL_isFit 89 = .ok (.goto (-51), 3) := by decide +kernel
theorem dL_isFit_92 : decode cL_isFit 92 = .ok (.iconst 1, 1) := by decide +kernel
theorem dL_isFit_93 : decode cL_isFit 93 = .ok (.istore 5, 2) := by decide +kernel
theorem dL_isFit_95 : decode cL_isFit 95 = .ok (.iload 4, 2) := by decide +kernel
theorem dL_isFit_97 : decode cL_isFit 97 = .ok (.ifCond .eq 34, 3) := by decide +kernel
theorem dL_isFit_100 : decode cL_isFit 100 = .ok (.iload 5, 2) := by decide +kernel
theorem dL_isFit_102 : decode cL_isFit 102 = .ok (.bipush 33, 2) := by decide +kernel
theorem dL_isFit_104 : decode cL_isFit 104 = .ok (.if_icmp .ge 27, 3) := by decide +kernel
theorem dL_isFit_107 : decode cL_isFit 107 = .ok (.iload_n 3, 1) := by decide +kernel
theorem dL_isFit_108 : decode cL_isFit 108 = .ok (.aload_n 0, 1) := by decide +kernel
theorem dL_isFit_109 : decode cL_isFit 109 = .ok (.iload 5, 2) := by decide +kernel
theorem dL_isFit_111 : decode cL_isFit 111 = .ok (.iconst 3, 1) := by decide +kernel
theorem dL_isFit_112 : decode cL_isFit 112 = .ok (.invokevirtual 81, 3) := by decide +kernel
theorem dL_isFit_115 : decode cL_isFit 115 = .ok (.iadd, 1) := by decide +kernel
theorem dL_isFit_116 : decode cL_isFit 116 = .ok (.istore_n 3, 1) := by decide +kernel
theorem dL_isFit_117 : decode cL_isFit 117 = .ok (.aload_n 0, 1) := by decide +kernel
theorem dL_isFit_118 : decode cL_isFit 118 = .ok (.iload 5, 2) := by decide +kernel
theorem dL_isFit_120 : decode cL_isFit 120 = .ok (.invokestatic 144, 3) := by decide +kernel
theorem dL_isFit_123 : decode cL_isFit 123 = .ok (.istore 4, 2) := by decide +kernel
theorem dL_isFit_125 : decode cL_isFit 125 = .ok (.iinc 5 1, 3) := by decide +kernel
theorem dL_isFit_128 : decode cL_isFit 128 = .ok (.goto (-33), 3) := by decide +kernel
theorem dL_isFit_131 : decode cL_isFit 131 = .ok (.iload_n 2, 1) := by decide +kernel
theorem dL_isFit_132 : decode cL_isFit 132 = .ok (.ifCond .ne 7, 3) := by decide +kernel
theorem dL_isFit_135 : decode cL_isFit 135 = .ok (.dconst 0, 1) := by decide +kernel
theorem dL_isFit_136 : decode cL_isFit 136 = .ok (.goto 8, 3) := by decide +kernel
theorem dL_isFit_139 : decode cL_isFit 139 = .ok (.iload_n 1, 1) := by decide +kernel
theorem dL_isFit_140 : decode cL_isFit 140 = .ok (.i2d, 1) := by decide +kernel
theorem dL_isFit_141 : decode cL_isFit 141 = .ok (.iload_n 2, 1) := by decide +kernel
theorem dL_isFit_142 : decode cL_isFit 142 = .ok (.i2d, 1) := by decide +kernel
theorem dL_isFit_143 : decode cL_isFit 143 = .ok (.ddiv, 1) := by decide +kernel
theorem dL_isFit_144 : decode cL_isFit 144 = .ok (.dstore 5, 2) := by decide +kernel
theorem dL_isFit_146 : decode cL_isFit 146 = .ok (.iload 4, 2) := by decide +kernel
theorem dL_isFit_148 : decode cL_isFit 148 = .ok (.ifCond .eq 123, 3) := by decide +kernel
theorem dL_isFit_151 : decode cL_isFit 151 = .ok (.iload_n 1, 1) := by decide +kernel
theorem dL_isFit_152 : decode cL_isFit 152 = .ok (.aload_n 0, 1) := by decide +kernel
theorem dL_isFit_153 : decode cL_isFit 153 = .ok (.iconst 3, 1) := by decide +kernel
theorem dL_isFit_154 : decode cL_isFit 154 = .ok (.invokevirtual 75, 3) := by decide +kernel
theorem dL_isFit_157 : decode cL_isFit 157 = .ok (.if_icmp .ne 114, 3) := by decide +kernel
theorem dL_isFit_160 : decode cL_isFit 160 = .ok (.iload_n 2, 1) := by decide +kernel
theorem dL_isFit_161 : decode cL_isFit 161 = .ok (.aload_n 0, 1) := by decide +kernel
theorem dL_isFit_162 : decode cL_isFit 162 = .ok (.iconst 2, 1) := by decide +kernel
theorem dL_isFit_163 : decode cL_isFit 163 = .ok (.invokevirtual 75, 3) := by decide +kernel
theorem dL_isFit_166 : decode cL_isFit 166 = .ok (.if_icmp .ne 105, 3) := by decide +kernel
theorem dL_isFit_169 : decode cL_isFit 169 = .ok (.iload_n 3, 1) := by decide +kernel
theorem dL_isFit_170 : decode cL_isFit 170 = .ok (.aload_n 0, 1) := by decide +kernel
theorem dL_isFit_171 : decode cL_isFit 171 = .ok (.bipush 13, 2) := by decide +kernel
theorem dL_isFit_173 : decode cL_isFit 173 = .ok (.invokevirtual 75, 3) := by decide +kernel
theorem dL_isFit_176 : decode cL_isFit 176 = .ok (.if_icmp .ne 95, 3) := by decide +kernel
theorem dL_isFit_179 : decode cL_isFit 179 = .ok (.iload_n 1, 1) := by decide +kernel
theorem dL_isFit_180 : decode cL_isFit 180 = .ok (.aload_n 0, 1) := by decide +kernel
theorem dL_isFit_181 : decode cL_isFit 181 = .ok (.iconst 4, 1) := by decide +kernel
theorem dL_isFit_182 : decode cL_isFit 182 = .ok (.invokevirtual 75, 3) := by decide +kernel
theorem dL_isFit_185 : decode cL_isFit 185 = .ok (.aload_n 0, 1) := by decide +kernel
theorem dL_isFit_186 : decode cL_isFit 186 = .ok (.iconst 5, 1) := by decide +kernel
theorem dL_isFit_187 : decode cL_isFit 187 = .ok (.invokevirtual 75, 3) := by decide +kernel
theorem dL_isFit_190 : decode cL_isFit 190 = .ok (.iadd, 1) := by decide +kernel
theorem dL_isFit_191 : decode cL_isFit 191 = .ok (.aload_n 0, 1) := by decide +kernel
theorem dL_isFit_192 : decode cL_isFit 192 = .ok (.bipush 6, 2) := by decide +kernel
theorem dL_isFit_194 : decode cL_isFit 194 = .ok (.invokevirtual 75, 3) := by decide +kernel
theorem dL_isFit_197 : decode cL_isFit 197 = .ok (.iadd, 1) := by decide +kernel
theorem dL_isFit_198 : decode cL_isFit 198 = .ok (.aload_n 0, 1) := by decide +kernel
theorem dL_isFit_199 : decode cL_isFit 199 = .ok (.bipush 7, 2) := by decide +kernel
theorem dL_isFit_201 : decode cL_isFit 201 = .ok (.invokevirtual 75, 3) := by decide +kernel
theorem dL_isFit_204 : decode cL_isFit 204 = .ok (.iadd, 1) := by decide +kernel
theorem dL_isFit_205 : decode cL_isFit 205 = .ok (.if_icmp .ne 66, 3) := by decide +kernel
theorem dL_isFit_208 : decode cL_isFit 208 = .ok (.iload_n 1, 1) := by decide +kernel
theorem dL_isFit_209 : decode cL_isFit 209 = .ok (.aload_n 0, 1) := by decide +kernel
theorem dL_isFit_210 : decode cL_isFit 210 = .ok (.bipush 8, 2) := by decide +kernel
theorem dL_isFit_212 : decode cL_isFit 212 = .ok (.invokevirtual 75, 3) := by decide +kernel
theorem dL_isFit_215 : decode cL_isFit 215 = .ok (.aload_n 0, 1) := by decide +kernel
theorem dL_isFit_216 : decode cL_isFit 216 = .ok (.bipush 9, 2) := by decide +kernel
theorem dL_isFit_218 : decode cL_isFit 218 = .ok (.invokevirtual 75, 3) := by decide +kernel
theorem dL_isFit_221 : decode cL_isFit 221 = .ok (.isub, 1) := by decide +kernel
theorem dL_isFit_222 : decode cL_isFit 222 = .ok (.aload_n 0, 1) := by decide +kernel
theorem dL_isFit_223 : decode cL_isFit 223 = .ok (.bipush 10, 2) := by decide +kernel
theorem dL_isFit_225 : decode cL_isFit 225 = .ok (.invokevirtual 75, 3) := by decide +kernel
theorem dL_isFit_228 : decode cL_isFit 228 = .ok (.isub, 1) := by decide +kernel
theorem dL_isFit_229 : decode cL_isFit 229 = .ok (.aload_n 0, 1) := by decide +kernel
theorem dL_isFit_230 : decode cL_isFit 230 = .ok (.bipush 11, 2) := by decide +kernel
theorem dL_isFit_232 : decode cL_isFit 232 = .ok (.invokevirtual 75, 3) := by decide +kernel
theorem dL_isFit_235 : decode cL_isFit 235 = .ok (.isub, 1) := by decide +kernel
theorem dL_isFit_236 : decode cL_isFit 236 = .ok (.if_icmp .ne 35, 3) := by decide +kernel
theorem dL_isFit_239 : decode cL_isFit 239 = .ok (.aload_n 0, 1) := by decide +kernel
theorem dL_isFit_240 : decode cL_isFit 240 = .ok (.invokevirtual 147, 3) := by decide +kernel
theorem dL_isFit_243 : decode cL_isFit 243 = .ok (.dload 5, 2) := by decide +kernel
theorem dL_isFit_245 : decode cL_isFit 245 = .ok (.dcmp .l, 1) := by decide +kernel
theorem dL_isFit_246 : decode cL_isFit 246 = .ok (.ifCond .ne 25, 3) := by decide +kernel
theorem dL_isFit_249 : decode cL_isFit 249 = .ok (.aload_n 0, 1) := by decide +kernel
theorem dL_isFit_250 : decode cL_isFit 250 = .ok (.iconst 1, 1) := by decide +kernel
theorem dL_isFit_251 : decode cL_isFit 251 = .ok (.invokevirtual 75, 3) := by decide +kernel
theorem dL_isFit_254 : decode cL_isFit 254 = .ok (.ifCond .lt 17, 3) := by decide +kernel
theorem dL_isFit_257 : decode cL_isFit 257 = .ok (.aload_n 0, 1) := by decide +kernel
theorem dL_isFit_258 : decode cL_isFit 258 = .ok (.bipush 14, 2) := by decide +kernel
theorem dL_isFit_260 : decode cL_isFit 260 = .ok (.invokevirtual 75, 3) := by decide +kernel
theorem dL_isFit_263 : decode cL_isFit 263 = .ok (.iload_n 3, 1) := by decide +kernel
theorem dL_isFit_264 : decode cL_isFit 264 = .ok (.if_icmp .lt 7, 3) := by decide +kernel
theorem dL_isFit_267 : decode cL_isFit 267 = .ok (.iconst 1, 1) := by decide +kernel
theorem dL_isFit_268 : decode cL_isFit 268 = .ok (.goto 4, 3) := by decide +kernel
theorem dL_isFit_271 : decode cL_isFit 271 = .ok (.iconst 0, 1) := by decide +kernel
theorem dL_isFit_272 : decode cL_isFit 272 = .ok (.ireturn, 1) := by decide +kernel
theorem dL_isBest_0 : decode cL_isBest 0 = .ok (.aload_n 0, 1) := by decide +kernel
theorem dL_isBest_1 : decode cL_isBest 1 = .ok (.invokestatic 151, 3) := by decide +kernel
theorem dL_isBest_4 : decode cL_isBest 4 = .ok (.lstore_n 3, 1) := by decide +kernel
theorem dL_isBest_5 : decode cL_isBest 5 = .ok (.aload_n 0, 1) := by decide +kernel
theorem dL_isBest_6 : decode cL_isBest 6 = .ok (.iload_n 1, 1) := by decide +kernel
theorem dL_isBest_7 : decode cL_isBest 7 = .ok (.iload_n 2, 1) := by decide +kernel
theorem dL_isBest_8 : decode cL_isBest 8 = .ok (.invokevirtual 155, 3) := by decide +kernel
theorem dL_isBest_11 : decode cL_isBest 11 = .ok (.istore 5, 2) := by decide +kernel
theorem dL_isBest_13 : decode cL_isBest 13 = .ok (.iload 5, 2) := by decide +kernel
theorem dL_isBest_15 : decode cL_isBest 15 = .ok (.bipush (-15), 2) := by decide +kernel
theorem dL_isBest_17 : decode cL_isBest 17 = .ok (.if_icmp .ne 5, 3) := by decide +kernel
theorem dL_isBest_20 : decode cL_isBest 20 = .ok (.iconst 1, 1) := by decide +kernel
theorem dL_isBest_21 : decode cL_isBest 21 = .ok (.ireturn, 1) := by decide +kernel
theorem dL_isBest_22 : decode cL_isBest 22 = .ok (.aload_n 0, 1) := by decide +kernel
theorem dL_isBest_23 : decode cL_isBest 23 = .ok (.iload 5, 2) := by decide +kernel
theorem dL_isBest_25 : decode cL_isBest 25 = .ok (.iconst 1, 1) := by decide +kernel
theorem dL_isBest_26 : decode cL_isBest 26 = .ok (.invokevirtual 78, 3) := by decide +kernel
theorem dL_isBest_29 : decode cL_isBest 29 = .ok (.istore 6, 2) := by decide +kernel
theorem dL_isBest_31 : decode cL_isBest 31 = .ok (.iload 6, 2) := by decide +kernel
theorem dL_isBest_33 : decode cL_isBest 33 = .ok (.ifCond .eq 14, 3) := by decide +kernel
theorem dL_isBest_36 : decode cL_isBest 36 = .ok (.aload_n 0, 1) := by decide +kernel
theorem dL_isBest_37 : decode cL_isBest 37 = .ok (.iload 5, 2) := by decide +kernel
theorem dL_isBest_39 : decode cL_isBest 39 = .ok (.iconst 0, 1) := by decide +kernel
theorem dL_isBest_40 : decode cL_isBest 40 = .ok (.invokevirtual 78, 3) := by decide +kernel
theorem dL_isBest_43 : decode cL_isBest 43 = .ok (.iload_n 1, 1) := by decide +kernel
theorem dL_isBest_44 : decode cL_isBest 44 = .ok (.if_icmp .ne 39, 3) := by decide +kernel
theorem dL_isBest_47 : decode cL_isBest 47 = .ok (.aload_n 0, 1) := by decide +kernel
theorem dL_isBest_48 : decode cL_isBest 48 = .ok (.iload 5, 2) := by decide +kernel
theorem dL_isBest_50 : decode cL_isBest 50 = .ok (.iload_n 1, 1) := by decide +kernel
theorem dL_isBest_51 : decode cL_isBest 51 = .ok (.iload_n 2, 1) := by decide +kernel
theorem dL_isBest_52 : decode cL_isBest 52 = .ok (.invokevirtual 24, 3) := by decide +kernel
theorem dL_isBest_55 : decode cL_isBest 55 = .ok (.ifCond .ne 28, 3) := by decide +kernel
theorem dL_isBest_58 : decode cL_isBest 58 = .ok (.aload_n 0, 1) := by decide +kernel
theorem dL_isBest_59 : decode cL_isBest 59 = .ok (.iload 5, 2) := by decide +kernel
theorem dL_isBest_61 : decode cL_isBest 61 = .ok (.iconst 1, 1) := by decide +kernel
theorem dL_isBest_62 : decode cL_isBest 62 = .ok (.invokevirtual 78, 3) := by decide +kernel
theorem dL_isBest_65 : decode cL_isBest 65 = .ok (.iload 6, 2) := by decide +kernel
theorem dL_isBest_67 : decode cL_isBest 67 = .ok (.iload_n 2, 1) := by decide +kernel
theorem dL_isBest_68 : decode cL_isBest 68 = .ok (.iadd, 1) := by decide +kernel
theorem dL_isBest_69 : decode cL_isBest 69 = .ok (.if_icmp .ne 14, 3) := by decide +kernel
theorem dL_isBest_72 : decode cL_isBest 72 = .ok (.aload_n 0, 1) := by decide +kernel
theorem dL_isBest_73 : decode cL_isBest 73 = .ok (.invokestatic 158, 3) := by decide +kernel
theorem dL_isBest_76 : decode cL_isBest 76 = .ok (.ifCond .eq 7, 3) := by decide +kernel
theorem dL_isBest_79 : decode cL_isBest 79 = .ok (.iconst 1, 1) := by decide +kernel
theorem dL_isBest_80 : decode cL_isBest 80 = .ok (.goto 4, 3) := by decide +kernel
theorem dL_isBest_83 : decode cL_isBest 83 = .ok (.iconst 0, 1) := by decide +kernel
theorem dL_isBest_84 : decode cL_isBest 84 = .ok (.istore 7, 2) := by decide +kernel
theorem dL_isBest_86 : decode cL_isBest 86 = .ok (.iload 7, 2) := by decide +kernel
theorem dL_isBest_88 : decode cL_isBest 88 = .ok (.ifCond .eq 23, 3) := by decide +kernel
theorem dL_isBest_91 : decode cL_isBest 91 = .ok (.aload_n 0, 1) := by decide +kernel
theorem dL_isBest_92 : decode cL_isBest 92 = .ok (.invokevirtual 68, 3) := by decide +kernel
theorem dL_isBest_95 : decode cL_isBest 95 = .ok (.ifCond .lt 16, 3) := by decide +kernel
theorem dL_isBest_98 : decode cL_isBest 98 = .ok (.aload_n 0, 1) := by decide +kernel
theorem dL_isBest_99 : decode cL_isBest 99 = .ok (.invokestatic 151, 3) := by decide +kernel
theorem dL_isBest_102 : decode cL_isBest 102 = .ok (.lload_n 3, 1) := by decide +kernel
theorem dL_isBest_103 : decode cL_isBest 103 = .ok (.lcmp, 1) := by decide +kernel
theorem dL_isBest_104 : decode cL_isBest 104 = .ok (.ifCond .ne 7, 3) := by decide +kernel
theorem dL_isBest_107 : decode cL_isBest 107 = .ok (.iconst 1, 1) := by decide +kernel
theorem dL_isBest_108 : decode cL_isBest 108 = .ok (.goto 4, 3) := by decide +kernel
theorem dL_isBest_111 : decode cL_isBest 111 = .ok (.iconst 0, 1) := by decide +kernel
theorem dL_isBest_112 : decode cL_isBest 112 = .ok (.ireturn, 1) := by decide +kernel
theorem dL_isSold_0 : decode cL_isSold 0 = .ok (.aload_n 0, 1) := by decide +kernel
theorem dL_isSold_1 : decode cL_isSold 1 = .ok (.invokestatic 151, 3) := by decide +kernel
theorem dL_isSold_4 : decode cL_isSold 4 = .ok (.lstore_n 3, 1) := by decide +kernel
theorem dL_isSold_5 : decode cL_isSold 5 = .ok (.aload_n 0, 1) := by decide +kernel
theorem dL_isSold_6 : decode cL_isSold 6 = .ok (.iconst 4, 1) := by decide +kernel
theorem dL_isSold_7 : decode cL_isSold 7 = .ok (.iload_n 1, 1) := by decide +kernel
theorem dL_isSold_8 : decode cL_isSold 8 = .ok (.iadd, 1) := by decide +kernel
theorem dL_isSold_9 : decode cL_isSold 9 = .ok (.invokevirtual 75, 3) := by decide +kernel
theorem dL_isSold_12 : decode cL_isSold 12 = .ok (.istore 5, 2) := by decide +kernel
theorem dL_isSold_14 : decode cL_isSold 14 = .ok (.aload_n 0, 1) := by decide +kernel
theorem dL_isSold_15 : decode cL_isSold 15 = .ok (.iconst 1, 1) := by decide +kernel
theorem dL_isSold_16 : decode cL_isSold 16 = .ok (.invokevirtual 75, 3) := by decide +kernel
theorem dL_isSold_19 : decode cL_isSold 19 = .ok (.istore 6, 2) := by decide +kernel
theorem dL_isSold_21 : decode cL_isSold 21 = .ok (.aload_n 0, 1) := by decide +kernel
theorem dL_isSold_22 : decode cL_isSold 22 = .ok (.iload_n 1, 1) := by decide +kernel
theorem dL_isSold_23 : decode cL_isSold 23 = .ok (.iload_n 2, 1) := by decide +kernel
theorem dL_isSold_24 : decode cL_isSold 24 = .ok (.invokevirtual 35, 3) := by decide +kernel
theorem dL_isSold_27 : decode cL_isSold 27 = .ok (.istore 7, 2) := by decide +kernel
theorem dL_isSold_29 : decode cL_isSold 29 = .ok (.iload 7, 2) := by decide +kernel
theorem dL_isSold_31 : decode cL_isSold 31 = .ok (.bipush (-14), 2) := by decide +kernel
theorem dL_isSold_33 : decode cL_isSold 33 = .ok (.if_icmp .ne 43, 3) := by decide +kernel
theorem dL_isSold_36 : decode cL_isSold 36 = .ok (.iload 5, 2) := by decide +kernel
theorem dL_isSold_38 : decode cL_isSold 38 = .ok (.iload_n 2, 1) := by decide +kernel
theorem dL_isSold_39 : decode cL_isSold 39 = .ok (.if_icmp .ge 35, 3) := by decide +kernel
theorem dL_isSold_42 : decode cL_isSold 42 = .ok (.aload_n 0, 1) := by decide +kernel
theorem dL_isSold_43 : decode cL_isSold 43 = .ok (.iconst 0, 1) := by decide +kernel
theorem dL_isSold_44 : decode cL_isSold 44 = .ok (.invokevirtual 161, 3) := by decide +kernel
theorem dL_isSold_47 : decode cL_isSold 47 = .ok (.iconst 3, 1) := by decide +kernel
theorem dL_isSold_48 : decode cL_isSold 48 = .ok (.if_icmp .ne 26, 3) := by decide +kernel
theorem dL_isSold_51 : decode cL_isSold 51 = .ok (.aload_n 0, 1) := by decide +kernel
theorem dL_isSold_52 : decode cL_isSold 52 = .ok (.iconst 1, 1) := by decide +kernel
theorem dL_isSold_53 : decode cL_isSold 53 = .ok (.invokevirtual 161, 3) := by decide +kernel
theorem dL_isSold_56 : decode cL_isSold 56 = .ok (.iload 5, 2) := by decide +kernel
theorem dL_isSold_58 : decode cL_isSold 58 = .ok (.if_icmp .ne 16, 3) := by decide +kernel
theorem dL_isSold_61 : decode cL_isSold 61 = .ok (.aload_n 0, 1) := by decide +kernel
theorem dL_isSold_62 : decode cL_isSold 62 = .ok (.invokestatic 151, 3) := by decide +kernel
theorem dL_isSold_65 : decode cL_isSold 65 = .ok (.lload_n 3, 1) := by decide +kernel
theorem dL_isSold_66 : decode cL_isSold 66 = .ok (.lcmp, 1) := by decide +kernel
theorem dL_isSold_67 : decode cL_isSold 67 = .ok (.ifCond .ne 7, 3) := by decide +kernel
theorem dL_isSold_70 : decode cL_isSold 70 = .ok (.iconst 1, 1) := by decide +kernel
theorem dL_isSold_71 : decode cL_isSold 71 = .ok (.goto 4, 3) := by decide +kernel
theorem dL_isSold_74 : decode cL_isSold 74 = .ok (.iconst 0, 1) := by decide +kernel
theorem dL_isSold_75 : decode cL_isSold 75 = .ok (.ireturn, 1) := by decide +kernel
theorem dL_isSold_76 : decode cL_isSold 76 = .ok (.iload 5, 2) := by decide +kernel
theorem dL_isSold_78 : decode cL_isSold 78 = .ok (.iload_n 2, 1) := by decide +kernel
theorem dL_isSold_79 : decode cL_isSold 79 = .ok (.if_icmp .lt 52, 3) := by decide +kernel
theorem dL_isSold_82 : decode cL_isSold 82 = .ok (.iload 7, 2) := by decide +kernel
theorem dL_isSold_84 : decode cL_isSold 84 = .ok (.aload_n 0, 1) := by decide +kernel
theorem dL_isSold_85 : decode cL_isSold 85 = .ok (.iload_n 1, 1) := by decide +kernel
theorem dL_isSold_86 : decode cL_isSold 86 = .ok (.iload_n 2, 1) := by decide +kernel
theorem dL_isSold_87 : decode cL_isSold 87 = .ok (.invokevirtual 165, 3) := by decide +kernel
theorem dL_isSold_90 : decode cL_isSold 90 = .ok (.if_icmp .ne 41, 3) := by decide +kernel
theorem dL_isSold_93 : decode cL_isSold 93 = .ok (.aload_n 0, 1) := by decide +kernel
theorem dL_isSold_94 : decode cL_isSold 94 = .ok (.iconst 1, 1) := by decide +kernel
theorem dL_isSold_95 : decode cL_isSold 95 = .ok (.invokevirtual 75, 3) := by decide +kernel
theorem dL_isSold_98 : decode cL_isSold 98 = .ok (.iload 6, 2) := by decide +kernel
theorem dL_isSold_100 : decode cL_isSold 100 = .ok (.iload 7, 2) := by decide +kernel
theorem dL_isSold_102 : decode cL_isSold 102 = .ok (.iadd, 1) := by decide +kernel
theorem dL_isSold_103 : decode cL_isSold 103 = .ok (.if_icmp .ne 28, 3) := by decide +kernel
theorem dL_isSold_106 : decode cL_isSold 106 = .ok (.aload_n 0, 1) := by decide +kernel
theorem dL_isSold_107 : decode cL_isSold 107 = .ok (.iconst 4, 1) := by decide +kernel
theorem dL_isSold_108 : decode cL_isSold 108 = .ok (.iload_n 1, 1) := by decide +kernel
theorem dL_isSold_109 : decode cL_isSold 109 = .ok (.iadd, 1) := by decide +kernel
theorem dL_isSold_110 : decode cL_isSold 110 = .ok (.invokevirtual 75, 3) := by decide +kernel
theorem dL_isSold_113 : decode cL_isSold 113 = .ok (.iload 5, 2) := by decide +kernel
theorem dL_isSold_115 : decode cL_isSold 115 = .ok (.iload_n 2, 1) := by decide +kernel
theorem dL_isSold_116 : decode cL_isSold 116 = .ok (.isub, 1) := by decide +kernel
theorem dL_isSold_117 : decode cL_isSold 117 = .ok (.if_icmp .ne 14, 3) := by decide +kernel
theorem dL_isSold_120 : decode cL_isSold 120 = .ok (.aload_n 0, 1) := by decide +kernel
theorem dL_isSold_121 : decode cL_isSold 121 = .ok (.invokestatic 158, 3) := by decide +kernel
theorem dL_isSold_124 : decode cL_isSold 124 = .ok (.ifCond .eq 7, 3) := by decide +kernel
theorem dL_isSold_127 : decode cL_isSold 127 = .ok (.iconst 1, 1) := by decide +kernel
theorem dL_isSold_128 : decode cL_isSold 128 = .ok (.goto 4, 3) := by decide +kernel
theorem dL_isSold_131 : decode cL_isSold 131 = .ok (.iconst 0, 1) := by decide +kernel
theorem dL_isSold_132 : decode cL_isSold 132 = .ok (.istore 8, 2) := by decide +kernel
theorem dL_isSold_134 : decode cL_isSold 134 = .ok (.iload 8, 2) := by decide +kernel
theorem dL_isSold_136 : decode cL_isSold 136 = .ok (.ifCond .eq 23, 3) := by decide +kernel
theorem dL_isSold_139 : decode cL_isSold 139 = .ok (.aload_n 0, 1) := by decide +kernel
theorem dL_isSold_140 : decode cL_isSold 140 = .ok (.invokevirtual 68, 3) := by decide +kernel
theorem dL_isSold_143 : decode cL_isSold 143 = .ok (.ifCond .lt 16, 3) := by decide +kernel
theorem dL_isSold_146 : decode cL_isSold 146 = .ok (.aload_n 0, 1) := by decide +kernel
theorem dL_isSold_147 : decode cL_isSold 147 = .ok (.invokestatic 151, 3) := by decide +kernel
theorem dL_isSold_150 : decode cL_isSold 150 = .ok (.lload_n 3, 1) := by decide +kernel
theorem dL_isSold_151 : decode cL_isSold 151 = .ok (.lcmp, 1) := by decide +kernel
theorem dL_isSold_152 : decode cL_isSold 152 = .ok (.ifCond .ne 7, 3) := by decide +kernel
theorem dL_isSold_155 : decode cL_isSold 155 = .ok (.iconst 1, 1) := by decide +kernel
theorem dL_isSold_156 : decode cL_isSold 156 = .ok (.goto 4, 3) := by decide +kernel
theorem dL_isSold_159 : decode cL_isSold 159 = .ok (.iconst 0, 1) := by decide +kernel
theorem dL_isSold_160 : decode cL_isSold 160 = .ok (.ireturn, 1) := by decide +kernel
theorem dL_isPassed_0 : decode cL_isPassed 0 = .ok (.aload_n 0, 1) := by decide +kernel
theorem dL_isPassed_1 : decode cL_isPassed 1 = .ok (.invokestatic 151, 3) := by decide +kernel
theorem dL_isPassed_4 : decode cL_isPassed 4 = .ok (.lstore_n 1, 1) := by decide +kernel
theorem dL_isPassed_5 : decode cL_isPassed 5 = .ok (.iconst 0, 1) := by decide +kernel
theorem dL_isPassed_6 : decode cL_isPassed 6 = .ok (.istore_n 3, 1) := by decide +kernel
theorem dL_isPassed_7 : decode cL_isPassed 7 = .ok (.iconst 0, 1) := by decide +kernel
theorem dL_isPassed_8 : decode cL_isPassed 8 = .ok (.istore 4, 2) := by decide +kernel
theorem dL_isPassed_10 : decode cL_isPassed 10 = .ok (.iload 4, 2) := by decide +kernel
theorem dL_isPassed_12 : decode cL_isPassed 12 = .ok (.bipush 32, 2) := by decide +kernel
theorem dL_isPassed_14 : decode cL_isPassed 14 = .ok (.if_icmp .ge 19, 3) := by decide +kernel
theorem dL_isPassed_17 : decode cL_isPassed 17 = .ok (.iload_n 3, 1) := by decide +kernel
theorem dL_isPassed_18 : decode cL_isPassed 18 = .ok (.aload_n 0, 1) := by decide +kernel
theorem dL_isPassed_19 : decode cL_isPassed 19 = .ok (.iload 4, 2) := by decide +kernel
theorem dL_isPassed_21 : decode cL_isPassed 21 = .ok (.iconst 3, 1) := by decide +kernel
theorem dL_isPassed_22 : decode cL_isPassed 22 = .ok (.invokevirtual 78, 3) := by decide +kernel
theorem dL_isPassed_25 : decode cL_isPassed 25 = .ok (.iadd, 1) := by decide +kernel
theorem dL_isPassed_26 : decode cL_isPassed 26 = .ok (.istore_n 3, 1) := by decide +kernel
theorem dL_isPassed_27 : decode cL_isPassed 27 = .ok (.iinc 4 1, 3) := by decide +kernel
theorem dL_isPassed_30 : decode cL_isPassed 30 = .ok (.goto (-20), 3) := by decide +kernel
theorem dL_isPassed_33 : decode cL_isPassed 33 = .ok (.aload_n 0, 1) := by decide +kernel
theorem dL_isPassed_34 : decode cL_isPassed 34 = .ok (.iconst 1, 1) := by decide +kernel
theorem dL_isPassed_35 : decode cL_isPassed 35 = .ok (.invokevirtual 41, 3) := by decide +kernel
theorem dL_isPassed_38 : decode cL_isPassed 38 = .ok (.iload_n 3, 1) := by decide +kernel
theorem dL_isPassed_39 : decode cL_isPassed 39 = .ok (.if_icmp .ne 14, 3) := by decide +kernel
theorem dL_isPassed_42 : decode cL_isPassed 42 = .ok (.aload_n 0, 1) := by decide +kernel
theorem dL_isPassed_43 : decode cL_isPassed 43 = .ok (.invokestatic 158, 3) := by decide +kernel
theorem dL_isPassed_46 : decode cL_isPassed 46 = .ok (.ifCond .eq 7, 3) := by decide +kernel
theorem dL_isPassed_49 : decode cL_isPassed 49 = .ok (.iconst 1, 1) := by decide +kernel
theorem dL_isPassed_50 : decode cL_isPassed 50 = .ok (.goto 4, 3) := by decide +kernel
theorem dL_isPassed_53 : decode cL_isPassed 53 = .ok (.iconst 0, 1) := by decide +kernel
theorem dL_isPassed_54 : decode cL_isPassed 54 = .ok (.istore 4, 2) := by decide +kernel
theorem dL_isPassed_56 : decode cL_isPassed 56 = .ok (.iload 4, 2) := by decide +kernel
theorem dL_isPassed_58 : decode cL_isPassed 58 = .ok (.ifCond .eq 23, 3) := by decide +kernel
theorem dL_isPassed_61 : decode cL_isPassed 61 = .ok (.aload_n 0, 1) := by decide +kernel
theorem dL_isPassed_62 : decode cL_isPassed 62 = .ok (.invokevirtual 68, 3) := by decide +kernel
theorem dL_isPassed_65 : decode cL_isPassed 65 = .ok (.ifCond .lt 16, 3) := by decide +kernel
theorem dL_isPassed_68 : decode cL_isPassed 68 = .ok (.aload_n 0, 1) := by decide +kernel
theorem dL_isPassed_69 : decode cL_isPassed 69 = .ok (.invokestatic 151, 3) := by decide +kernel
theorem dL_isPassed_72 : decode cL_isPassed 72 = .ok (.lload_n 1, 1) := by decide +kernel
theorem dL_isPassed_73 : decode cL_isPassed 73 = .ok (.lcmp, 1) := by decide +kernel
theorem dL_isPassed_74 : decode cL_isPassed 74 = .ok (.ifCond .ne 7, 3) := by decide +kernel
theorem dL_isPassed_77 : decode cL_isPassed 77 = .ok (.iconst 1, 1) := by decide +kernel
theorem dL_isPassed_78 : decode cL_isPassed 78 = .ok (.goto 4, 3) := by decide +kernel
theorem dL_isPassed_81 : decode cL_isPassed 81 = .ok (.iconst 0, 1) := by decide +kernel
theorem dL_isPassed_82 : decode cL_isPassed 82 = .ok (.ireturn, 1) := by decide +kernel
theorem dL_law_0 : decode cL_law 0 = .ok (.new 19, 3) := by decide +kernel
theorem dL_law_3 : decode cL_law 3 = .ok (.dup, 1) := by decide +kernel
theorem dL_law_4 : decode cL_law 4 = .ok (.invokespecial 168, 3) := by decide +kernel
theorem dL_law_7 : decode cL_law 7 = .ok (.astore_n 1, 1) := by decide +kernel
theorem dL_law_8 : decode cL_law 8 = .ok (.aload_n 1, 1) := by decide +kernel
theorem dL_law_9 : decode cL_law 9 = .ok (.iconst 0, 1) := by decide +kernel
theorem dL_law_10 : decode cL_law 10 = .ok (.iconst 0, 1) := by decide +kernel
theorem dL_law_11 : decode cL_law 11 = .ok (.bipush 90, 2) := by decide +kernel
theorem dL_law_13 : decode cL_law 13 = .ok (.invokevirtual 24, 3) := by decide +kernel
theorem dL_law_16 : decode cL_law 16 = .ok (.pop, 1) := by decide +kernel
theorem dL_law_17 : decode cL_law 17 = .ok (.aload_n 1, 1) := by decide +kernel
theorem dL_law_18 : decode cL_law 18 = .ok (.iconst 1, 1) := by decide +kernel
theorem dL_law_19 : decode cL_law 19 = .ok (.iconst 1, 1) := by decide +kernel
theorem dL_law_20 : decode cL_law 20 = .ok (.sipush 150, 3) := by decide +kernel
theorem dL_law_23 : decode cL_law 23 = .ok (.invokevirtual 24, 3) := by decide +kernel
theorem dL_law_26 : decode cL_law 26 = .ok (.pop, 1) := by decide +kernel
theorem dL_law_27 : decode cL_law 27 = .ok (.aload_n 1, 1) := by decide +kernel
theorem dL_law_28 : decode cL_law 28 = .ok (.iconst 5, 1) := by decide +kernel
theorem dL_law_29 : decode cL_law 29 = .ok (.iconst 2, 1) := by decide +kernel
theorem dL_law_30 : decode cL_law 30 = .ok (.bipush 40, 2) := by decide +kernel
theorem dL_law_32 : decode cL_law 32 = .ok (.invokevirtual 24, 3) := by decide +kernel
theorem dL_law_35 : decode cL_law 35 = .ok (.pop, 1) := by decide +kernel
theorem dL_law_36 : decode cL_law 36 = .ok (.aload_n 0, 1) := by decide +kernel
theorem dL_law_37 : decode cL_law 37 = .ok (.arraylength, 1) := by decide +kernel
theorem dL_law_38 : decode cL_law 38 = .ok (.bipush 44, 2) := by decide +kernel
theorem dL_law_40 : decode cL_law 40 = .ok (.if_icmp .ge 8, 3) := by decide +kernel
theorem dL_law_43 : decode cL_law 43 = .ok (.aload_n 0, 1) := by decide +kernel
theorem dL_law_44 : decode cL_law 44 = .ok (.arraylength, 1) := by decide +kernel
theorem dL_law_45 : decode cL_law 45 = .ok (.goto 5, 3) := by decide +kernel
theorem dL_law_48 : decode cL_law 48 = .ok (.bipush 44, 2) := by decide +kernel
theorem dL_law_50 : decode cL_law 50 = .ok (.istore_n 2, 1) := by decide +kernel
theorem dL_law_51 : decode cL_law 51 = .ok (.iconst 0, 1) := by decide +kernel
theorem dL_law_52 : decode cL_law 52 = .ok (.istore_n 3, 1) := by decide +kernel
theorem dL_law_53 : decode cL_law 53 = .ok (.iload_n 3, 1) := by decide +kernel
theorem dL_law_54 : decode cL_law 54 = .ok (.iload_n 2, 1) := by decide +kernel
theorem dL_law_55 : decode cL_law 55 = .ok (.if_icmp .ge 39, 3) := by decide +kernel
theorem dL_law_58 : decode cL_law 58 = .ok (.aload_n 1, 1) := by decide +kernel
theorem dL_law_59 : decode cL_law 59 = .ok (.invokestatic 151, 3) := by decide +kernel
theorem dL_law_62 : decode cL_law 62 = .ok (.lstore 4, 2) := by decide +kernel
theorem dL_law_64 : decode cL_law 64 = .ok (.aload_n 1, 1) := by decide +kernel
theorem dL_law_65 : decode cL_law 65 = .ok (.aload_n 0, 1) := by decide +kernel
theorem dL_law_66 : decode cL_law 66 = .ok (.iload_n 3, 1) := by decide +kernel
theorem dL_law_67 : decode cL_law 67 = .ok (.invokestatic 169, 3) := by decide +kernel
theorem dL_law_70 : decode cL_law 70 = .ok (.invokestatic 173, 3) := by decide +kernel
theorem dL_law_73 : decode cL_law 73 = .ok (.ifCond .ge 15, 3) := by decide +kernel
theorem dL_law_76 : decode cL_law 76 = .ok (.aload_n 1, 1) := by decide +kernel
theorem dL_law_77 : decode cL_law 77 = .ok (.invokestatic 151, 3) := by decide +kernel
theorem dL_law_80 : decode cL_law 80 = .ok (.lload 4, 2) := by decide +kernel
theorem dL_law_82 : decode cL_law 82 = .ok (.lcmp, 1) := by decide +kernel
theorem dL_law_83 : decode cL_law 83 = .ok (.ifCond .eq 5, 3) := by decide +kernel
theorem dL_law_86 : decode cL_law 86 = .ok (.iconst 0, 1) := by decide +kernel
theorem dL_law_87 : decode cL_law 87 = .ok (.ireturn, 1) := by decide +kernel
theorem dL_law_88 : decode cL_law 88 = .ok (.iinc 3 1, 3) := by decide +kernel
theorem dL_law_91 : decode cL_law 91 = .ok (.goto (-38), 3) := by decide +kernel
theorem dL_law_94 : decode cL_law 94 = .ok (.aload_n 1, 1) := by decide +kernel
theorem dL_law_95 : decode cL_law 95 = .ok (.invokestatic 158, 3) := by decide +kernel
theorem dL_law_98 : decode cL_law 98 = .ok (.istore_n 3, 1) := by decide +kernel
theorem dL_law_99 : decode cL_law 99 = .ok (.aload_n 1, 1) := by decide +kernel
theorem dL_law_100 : decode cL_law 100 = .ok (.invokevirtual 54, 3) := by decide +kernel
theorem dL_law_103 : decode cL_law 103 = .ok (.pop, 1) := by decide +kernel
theorem dL_law_104 : decode cL_law 104 = .ok (.aload_n 1, 1) := by decide +kernel
theorem dL_law_105 : decode cL_law 105 = .ok (.invokestatic 151, 3) := by decide +kernel
theorem dL_law_108 : decode cL_law 108 = .ok (.lstore 4, 2) := by decide +kernel
theorem dL_law_110 : decode cL_law 110 = .ok (.aload_n 1, 1) := by decide +kernel
theorem dL_law_111 : decode cL_law 111 = .ok (.invokevirtual 62, 3) := by decide +kernel
theorem dL_law_114 : decode cL_law 114 = .ok (.istore 6, 2) := by decide +kernel
theorem dL_law_116 : decode cL_law 116 = .ok (.iconst 0, 1) := by decide +kernel
theorem dL_law_117 : decode cL_law 117 = .ok (.istore 7, 2) := by decide +kernel
theorem dL_law_119 : decode cL_law 119 = .ok (.iload_n 3, 1) := by decide +kernel
theorem dL_law_120 : decode cL_law 120 = .ok (.ifCond .eq 60, 3) := by decide +kernel
theorem dL_law_123 : decode cL_law 123 = .ok (.iload 7, 2) := by decide +kernel
theorem dL_law_125 : decode cL_law 125 = .ok (.iconst 4, 1) := by decide +kernel
theorem dL_law_126 : decode cL_law 126 = .ok (.if_icmp .ge 54, 3) := by decide +kernel
theorem dL_law_129 : decode cL_law 129 = .ok (.aload_n 1, 1) := by decide +kernel
theorem dL_law_130 : decode cL_law 130 = .ok (.iload 7, 2) := by decide +kernel
theorem dL_law_132 : decode cL_law 132 = .ok (.iconst 1, 1) := by decide +kernel
theorem dL_law_133 : decode cL_law 133 = .ok (.bipush 60, 2) := by decide +kernel
theorem dL_law_135 : decode cL_law 135 = .ok (.iload 7, 2) := by decide +kernel
theorem dL_law_137 : decode cL_law 137 = .ok (.imul, 1) := by decide +kernel
theorem dL_law_138 : decode cL_law 138 = .ok (.iadd, 1) := by decide +kernel
theorem dL_law_139 : decode cL_law 139 = .ok (.invokestatic 177, 3) := by decide +kernel
theorem dL_law_142 : decode cL_law 142 = .ok (.ifCond .eq 30, 3) := by decide +kernel
theorem dL_law_145 : decode cL_law 145 = .ok (.aload_n 1, 1) := by decide +kernel
theorem dL_law_146 : decode cL_law 146 = .ok (.iload 7, 2) := by decide +kernel
theorem dL_law_148 : decode cL_law 148 = .ok (.bipush 20, 2) := by decide +kernel
theorem dL_law_150 : decode cL_law 150 = .ok (.iload 7, 2) := by decide +kernel
theorem dL_law_152 : decode cL_law 152 = .ok (.imul, 1) := by decide +kernel
theorem dL_law_153 : decode cL_law 153 = .ok (.iconst 1, 1) := by decide +kernel
theorem dL_law_154 : decode cL_law 154 = .ok (.iadd, 1) := by decide +kernel
theorem dL_law_155 : decode cL_law 155 = .ok (.invokestatic 181, 3) := by decide +kernel
theorem dL_law_158 : decode cL_law 158 = .ok (.ifCond .eq 14, 3) := by decide +kernel
theorem dL_law_161 : decode cL_law 161 = .ok (.aload_n 1, 1) := by decide +kernel
theorem dL_law_162 : decode cL_law 162 = .ok (.invokestatic 184, 3) := by decide +kernel
theorem dL_law_165 : decode cL_law 165 = .ok (.ifCond .eq 7, 3) := by decide +kernel
theorem dL_law_168 : decode cL_law 168 = .ok (.iconst 1, 1) := by decide +kernel
theorem dL_law_169 : decode cL_law 169 = .ok (.goto 4, 3) := by decide +kernel
theorem dL_law_172 : decode cL_law 172 = .ok (.iconst 0, 1) := by decide +kernel
theorem dL_law_173 : decode cL_law 173 = .ok (.istore_n 3, 1) := by decide +kernel
theorem dL_law_174 : decode cL_law 174 = .ok (.iinc 7 1, 3) := by decide +kernel
theorem dL_law_177 : decode cL_law 177 = .ok (.goto (-58), 3) := by decide +kernel
theorem dL_law_180 : decode cL_law 180 = .ok (.iconst 0, 1) := by decide +kernel
theorem dL_law_181 : decode cL_law 181 = .ok (.istore 7, 2) := by decide +kernel
theorem dL_law_183 : decode cL_law 183 = .ok (.iload_n 3, 1) := by decide +kernel
theorem dL_law_184 : decode cL_law 184 = .ok (.ifCond .eq 88, 3) := by decide +kernel
theorem dL_law_187 : decode cL_law 187 = .ok (.iload 7, 2) := by decide +kernel
theorem dL_law_189 : decode cL_law 189 = .ok (.getstatic 44, 3) := by decide +kernel
theorem dL_law_192 : decode cL_law 192 = .ok (.arraylength, 1) := by decide +kernel
theorem dL_law_193 : decode cL_law 193 = .ok (.if_icmp .ge 79, 3) := by decide +kernel
theorem dL_law_196 : decode cL_law 196 = .ok (.aload_n 1, 1) := by decide +kernel
theorem dL_law_197 : decode cL_law 197 = .ok (.getstatic 44, 3) := by decide +kernel
theorem dL_law_200 : decode cL_law 200 = .ok (.iload 7, 2) := by decide +kernel
theorem dL_law_202 : decode cL_law 202 = .ok (.aaload, 1) := by decide +kernel
theorem dL_law_203 : decode cL_law 203 = .ok (.invokestatic 50, 3) := by decide +kernel
theorem dL_law_206 : decode cL_law 206 = .ok (.invokevirtual 54, 3) := by decide +kernel
theorem dL_law_209 : decode cL_law 209 = .ok (.istore 8, 2) := by decide +kernel
theorem dL_law_211 : decode cL_law 211 = .ok (.iload 8, 2) := by decide +kernel
theorem dL_law_213 : decode cL_law 213 = .ok (.ifCond .ge 23, 3) := by decide +kernel
theorem dL_law_216 : decode cL_law 216 = .ok (.iload 8, 2) := by decide +kernel
theorem dL_law_218 : decode cL_law 218 = .ok (.bipush (-14), 2) := by decide +kernel
theorem dL_law_220 : decode cL_law 220 = .ok (.if_icmp .ne 44, 3) := by decide +kernel
theorem dL_law_223 : decode cL_law 223 = .ok (.aload_n 1, 1) := by decide +kernel
theorem dL_law_224 : decode cL_law 224 = .ok (.iconst 0, 1) := by decide +kernel
theorem dL_law_225 : decode cL_law 225 = .ok (.invokevirtual 161, 3) := by decide +kernel
theorem dL_law_228 : decode cL_law 228 = .ok (.bipush 9, 2) := by decide +kernel
theorem dL_law_230 : decode cL_law 230 = .ok (.if_icmp .ne 34, 3) := by decide +kernel
theorem dL_law_233 : decode cL_law 233 = .ok (.goto 17, 3) := by decide +kernel
theorem dL_law_236 : decode cL_law 236 = .ok (.aload_n 1, 1) := by decide +kernel
theorem dL_law_237 : decode cL_law 237 = .ok (.invokestatic 158, 3) := by decide +kernel
theorem dL_law_240 : decode cL_law 240 = .ok (.ifCond .eq 24, 3) := by decide +kernel
theorem dL_law_243 : decode cL_law 243 = .ok (.aload_n 1, 1) := by decide +kernel
theorem dL_law_244 : decode cL_law 244 = .ok (.invokevirtual 68, 3) := by decide +kernel
theorem dL_law_247 : decode cL_law 247 = .ok (.ifCond .lt 17, 3) := by decide +kernel
theorem dL_law_250 : decode cL_law 250 = .ok (.aload_n 1, 1) := by decide +kernel
theorem dL_law_251 : decode cL_law 251 = .ok (.invokestatic 151, 3) := by decide +kernel
theorem dL_law_254 : decode cL_law 254 = .ok (.lload 4, 2) := by decide +kernel
theorem dL_law_256 : decode cL_law 256 = .ok (.lcmp, 1) := by decide +kernel
theorem dL_law_257 : decode cL_law 257 = .ok (.ifCond .ne 7, 3) := by decide +kernel
theorem dL_law_260 : decode cL_law 260 = .ok (.iconst 1, 1) := by decide +kernel
theorem dL_law_261 : decode cL_law 261 = .ok (.goto 4, 3) := by decide +kernel
theorem dL_law_264 : decode cL_law 264 = .ok (.iconst 0, 1) := by decide +kernel
theorem dL_law_265 : decode cL_law 265 = .ok (.istore_n 3, 1) := by decide +kernel
theorem dL_law_266 : decode cL_law 266 = .ok (.iinc 7 1, 3) := by decide +kernel
theorem dL_law_269 : decode cL_law 269 = .ok (.goto (-86), 3) := by decide +kernel
theorem dL_law_272 : decode cL_law 272 = .ok (.iconst 0, 1) := by decide +kernel
theorem dL_law_273 : decode cL_law 273 = .ok (.istore 7, 2) := by decide +kernel
theorem dL_law_275 : decode cL_law 275 = .ok (.iload_n 3, 1) := by decide +kernel
theorem dL_law_276 : decode cL_law 276 = .ok (.ifCond .eq 93, 3) := by decide +kernel
theorem dL_law_279 : decode cL_law 279 = .ok (.iload 7, 2) := by decide +kernel
theorem dL_law_281 : decode cL_law 281 = .ok (.bipush 8, 2) := by decide +kernel
theorem dL_law_283 : decode cL_law 283 = .ok (.if_icmp .ge 86, 3) := by decide +kernel
theorem dL_law_286 : decode cL_law 286 = .ok (.aload_n 1, 1) := by decide +kernel
theorem dL_law_287 : decode cL_law 287 = .ok (.iconst 4, 1) := by decide +kernel
theorem dL_law_288 : decode cL_law 288 = .ok (.iload 7, 2) := by decide +kernel
theorem dL_law_290 : decode cL_law 290 = .ok (.imul, 1) := by decide +kernel
theorem dL_law_291 : decode cL_law 291 = .ok (.bipush 32, 2) := by decide +kernel
theorem dL_law_293 : decode cL_law 293 = .ok (.irem, 1) := by decide +kernel
theorem dL_law_294 : decode cL_law 294 = .ok (.iload 7, 2) := by decide +kernel
theorem dL_law_296 : decode cL_law 296 = .ok (.iconst 4, 1) := by decide +kernel
theorem dL_law_297 : decode cL_law 297 = .ok (.irem, 1) := by decide +kernel
theorem dL_law_298 : decode cL_law 298 = .ok (.bipush 100, 2) := by decide +kernel
theorem dL_law_300 : decode cL_law 300 = .ok (.bipush 12, 2) := by decide +kernel
theorem dL_law_302 : decode cL_law 302 = .ok (.iload 7, 2) := by decide +kernel
theorem dL_law_304 : decode cL_law 304 = .ok (.imul, 1) := by decide +kernel
theorem dL_law_305 : decode cL_law 305 = .ok (.iadd, 1) := by decide +kernel
theorem dL_law_306 : decode cL_law 306 = .ok (.invokevirtual 24, 3) := by decide +kernel
theorem dL_law_309 : decode cL_law 309 = .ok (.pop, 1) := by decide +kernel
theorem dL_law_310 : decode cL_law 310 = .ok (.aload_n 1, 1) := by decide +kernel
theorem dL_law_311 : decode cL_law 311 = .ok (.iconst 4, 1) := by decide +kernel
theorem dL_law_312 : decode cL_law 312 = .ok (.iload 7, 2) := by decide +kernel
theorem dL_law_314 : decode cL_law 314 = .ok (.imul, 1) := by decide +kernel
theorem dL_law_315 : decode cL_law 315 = .ok (.bipush 32, 2) := by decide +kernel
theorem dL_law_317 : decode cL_law 317 = .ok (.irem, 1) := by decide +kernel
theorem dL_law_318 : decode cL_law 318 = .ok (.iconst 4, 1) := by decide +kernel
theorem dL_law_319 : decode cL_law 319 = .ok (.iload 7, 2) := by decide +kernel
theorem dL_law_321 : decode cL_law 321 = .ok (.imul, 1) := by decide +kernel
theorem dL_law_322 : decode cL_law 322 = .ok (.bipush 32, 2) := by decide +kernel
theorem dL_law_324 : decode cL_law 324 = .ok (.irem, 1) := by decide +kernel
theorem dL_law_325 : decode cL_law 325 = .ok (.iconst 1, 1) := by decide +kernel
theorem dL_law_326 : decode cL_law 326 = .ok (.iadd, 1) := by decide +kernel
theorem dL_law_327 : decode cL_law 327 = .ok (.bipush 60, 2) := by decide +kernel
theorem dL_law_329 : decode cL_law 329 = .ok (.invokevirtual 32, 3) := by decide +kernel
theorem dL_law_332 : decode cL_law 332 = .ok (.pop, 1) := by decide +kernel
theorem dL_law_333 : decode cL_law 333 = .ok (.aload_n 1, 1) := by decide +kernel
theorem dL_law_334 : decode cL_law 334 = .ok (.iconst 1, 1) := by decide +kernel
theorem dL_law_335 : decode cL_law 335 = .ok (.iconst 2, 1) := by decide +kernel
theorem dL_law_336 : decode cL_law 336 = .ok (.iload 7, 2) := by decide +kernel
theorem dL_law_338 : decode cL_law 338 = .ok (.imul, 1) := by decide +kernel
theorem dL_law_339 : decode cL_law 339 = .ok (.iadd, 1) := by decide +kernel
theorem dL_law_340 : decode cL_law 340 = .ok (.invokevirtual 41, 3) := by decide +kernel
theorem dL_law_343 : decode cL_law 343 = .ok (.pop, 1) := by decide +kernel
theorem dL_law_344 : decode cL_law 344 = .ok (.aload_n 1, 1) := by decide +kernel
theorem dL_law_345 : decode cL_law 345 = .ok (.iconst 4, 1) := by decide +kernel
theorem dL_law_346 : decode cL_law 346 = .ok (.iload 7, 2) := by decide +kernel
theorem dL_law_348 : decode cL_law 348 = .ok (.imul, 1) := by decide +kernel
theorem dL_law_349 : decode cL_law 349 = .ok (.bipush 32, 2) := by decide +kernel
theorem dL_law_351 : decode cL_law 351 = .ok (.irem, 1) := by decide +kernel
theorem dL_law_352 : decode cL_law 352 = .ok (.iconst 1, 1) := by decide +kernel
theorem dL_law_353 : decode cL_law 353 = .ok (.iadd, 1) := by decide +kernel
theorem dL_law_354 : decode cL_law 354 = .ok (.invokevirtual 38, 3) := by decide +kernel
theorem dL_law_357 : decode cL_law 357 = .ok (.pop, 1) := by decide +kernel
theorem dL_law_358 : decode cL_law 358 = .ok (.aload_n 1, 1) := by decide +kernel
theorem dL_law_359 : decode cL_law 359 = .ok (.invokestatic 158, 3) := by decide +kernel
theorem dL_law_362 : decode cL_law 362 = .ok (.istore_n 3, 1) := by decide +kernel
theorem dL_law_363 : decode cL_law 363 = .ok (.iinc 7 1, 3) := by decide +kernel
theorem dL_law_366 : decode cL_law 366 = .ok (.goto (-91), 3) := by decide +kernel
theorem dL_law_369 : decode cL_law 369 = .ok (.iload_n 3, 1) := by decide +kernel
theorem dL_law_370 : decode cL_law 370 = .ok (.ifCond .eq 35, 3) := by decide +kernel
theorem dL_law_373 : decode cL_law 373 = .ok (.aload_n 1, 1) := by decide +kernel
theorem dL_law_374 : decode cL_law 374 = .ok (.invokevirtual 65, 3) := by decide +kernel
theorem dL_law_377 : decode cL_law 377 = .ok (.iload 6, 2) := by decide +kernel
theorem dL_law_379 : decode cL_law 379 = .ok (.if_icmp .ne 26, 3) := by decide +kernel
theorem dL_law_382 : decode cL_law 382 = .ok (.aload_n 1, 1) := by decide +kernel
theorem dL_law_383 : decode cL_law 383 = .ok (.invokestatic 151, 3) := by decide +kernel
theorem dL_law_386 : decode cL_law 386 = .ok (.lload 4, 2) := by decide +kernel
theorem dL_law_388 : decode cL_law 388 = .ok (.lcmp, 1) := by decide +kernel
theorem dL_law_389 : decode cL_law 389 = .ok (.ifCond .ne 16, 3) := by decide +kernel
theorem dL_law_392 : decode cL_law 392 = .ok (.aload_n 1, 1) := by decide +kernel
theorem dL_law_393 : decode cL_law 393 = .ok (.invokevirtual 68, 3) := by decide +kernel
theorem dL_law_396 : decode cL_law 396 = .ok (.bipush (-15), 2) := by decide +kernel
theorem dL_law_398 : decode cL_law 398 = .ok (.if_icmp .ne 7, 3) := by decide +kernel
theorem dL_law_401 : decode cL_law 401 = .ok (.iconst 1, 1) := by decide +kernel
theorem dL_law_402 : decode cL_law 402 = .ok (.goto 4, 3) := by decide +kernel
theorem dL_law_405 : decode cL_law 405 = .ok (.iconst 0, 1) := by decide +kernel
theorem dL_law_406 : decode cL_law 406 = .ok (.ireturn, 1) := by decide +kernel
