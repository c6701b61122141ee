theorem dX10_parents_158 : decode cX10_parents 158 = .ok (.goto (-28), 3) := by decide +kernel
theorem dX10_parents_161 : decode cX10_parents 161 = .ok (.iconst 1, 1) := by decide +kernel
theorem dX10_parents_162 : decode cX10_parents 162 = .ok (.istore_n 1, 1) := by decide +kernel
theorem dX10_parents_163 : decode cX10_parents 163 = .ok (.iload_n 1, 1) := by decide +kernel
theorem dX10_parents_164 : decode cX10_parents 164 = .ok (.ifCond .eq 106, 3) := by decide +kernel
theorem dX10_parents_167 : decode cX10_parents 167 = .ok (.iconst 0, 1) := by decide +kernel
theorem dX10_parents_168 : decode cX10_parents 168 = .ok (.istore_n 1, 1) := by decide +kernel
theorem dX10_parents_169 : decode cX10_parents 169 = .ok (.iconst 0, 1) := by decide +kernel
theorem dX10_parents_170 : decode cX10_parents 170 = .ok (.istore_n 2, 1) := by decide +kernel
theorem dX10_parents_171 : decode cX10_parents 171 = .ok (.iload_n 2, 1) := by decide +kernel
theorem dX10_parents_172 : decode cX10_parents 172 = .ok (.aload_n 0, 1) := by decide +kernel
theorem dX10_parents_173 : decode cX10_parents 173 = .ok (.getfield 11, 3) := by decide +kernel
theorem dX10_parents_176 : decode cX10_parents 176 = .ok (.iconst 0, 1) := by decide +kernel
theorem dX10_parents_177 : decode cX10_parents 177 = .ok (.iaload, 1) := by decide +kernel
theorem dX10_parents_178 : decode cX10_parents 178 = .ok (.if_icmp .ge 89, 3) := by decide +kernel
theorem dX10_parents_181 : decode cX10_parents 181 = .ok (.aload_n 0, 1) := by decide +kernel
theorem dX10_parents_182 : decode cX10_parents 182 = .ok (.getfield 36, 3) := by decide +kernel
theorem dX10_parents_185 : decode cX10_parents 185 = .ok (.iload_n 2, 1) := by decide +kernel
theorem dX10_parents_186 : decode cX10_parents 186 = .ok (.iaload, 1) := by decide +kernel
theorem dX10_parents_187 : decode cX10_parents 187 = .ok (.istore_n 3, 1) := by decide +kernel
theorem dX10_parents_188 : decode cX10_parents 188 = .ok (.iconst 0, 1) := by decide +kernel
theorem dX10_parents_189 : decode cX10_parents 189 = .ok (.istore 4, 2) := by decide +kernel
theorem dX10_parents_191 : decode cX10_parents 191 = .ok (.iload 4, 2) := by decide +kernel
theorem dX10_parents_193 : decode cX10_parents 193 = .ok (.aload_n 0, 1) := by decide +kernel
theorem dX10_parents_194 : decode cX10_parents 194 = .ok (.getfield 11, 3) := by decide +kernel
theorem dX10_parents_197 : decode cX10_parents 197 = .ok (.iconst 0, 1) := by decide +kernel
theorem dX10_parents_198 : decode cX10_parents 198 = .ok (.iaload, 1) := by decide +kernel
theorem dX10_parents_199 : decode cX10_parents 199 = .ok (.if_icmp .ge 37, 3) := by decide +kernel
theorem dX10_parents_202 : decode cX10_parents 202 = .ok (.iload_n 3, 1) := by decide +kernel
theorem dX10_parents_203 : decode cX10_parents 203 = .ok (.aload_n 0, 1) := by decide +kernel
theorem dX10_parents_204 : decode cX10_parents 204 = .ok (.getfield 36, 3) := by decide +kernel
theorem dX10_parents_207 : decode cX10_parents 207 = .ok (.iload_n 2, 1) := by decide +kernel
theorem dX10_parents_208 : decode cX10_parents 208 = .ok (.iaload, 1) := by decide +kernel
theorem dX10_parents_209 : decode cX10_parents 209 = .ok (.iload 4, 2) := by decide +kernel
theorem dX10_parents_211 : decode cX10_parents 211 = .ok (.invokestatic 89, 3) := by decide +kernel
theorem dX10_parents_214 : decode cX10_parents 214 = .ok (.ifCond .eq 13, 3) := by decide +kernel
theorem dX10_parents_217 : decode cX10_parents 217 = .ok (.aload_n 0, 1) := by decide +kernel
theorem dX10_parents_218 : decode cX10_parents 218 = .ok (.getfield 36, 3) := by decide +kernel
theorem dX10_parents_221 : decode cX10_parents 221 = .ok (.iload 4, 2) := by decide +kernel
theorem dX10_parents_223 : decode cX10_parents 223 = .ok (.iaload, 1) := by decide +kernel
theorem dX10_parents_224 : decode cX10_parents 224 = .ok (.goto 4, 3) := by decide +kernel
theorem dX10_parents_227 : decode cX10_parents 227 = .ok (.iconst 0, 1) := by decide +kernel
theorem dX10_parents_228 : decode cX10_parents 228 = .ok (.ior, 1) := by decide +kernel
theorem dX10_parents_229 : decode cX10_parents 229 = .ok (.istore_n 3, 1) := by decide +kernel
theorem dX10_parents_230 : decode cX10_parents 230 = .ok (.iinc 4 1, 3) := by decide +kernel
theorem dX10_parents_233 : decode cX10_parents 233 = .ok (.goto (-42), 3) := by decide +kernel
theorem dX10_parents_236 : decode cX10_parents 236 = .ok (.iload_n 1, 1) := by decide +kernel
theorem dX10_parents_237 : decode cX10_parents 237 = .ok (.iload_n 3, 1) := by decide +kernel
theorem dX10_parents_238 : decode cX10_parents 238 = .ok (.aload_n 0, 1) := by decide +kernel
theorem dX10_parents_239 : decode cX10_parents 239 = .ok (.getfield 36, 3) := by decide +kernel
theorem dX10_parents_242 : decode cX10_parents 242 = .ok (.iload_n 2, 1) := by decide +kernel
theorem dX10_parents_243 : decode cX10_parents 243 = .ok (.iaload, 1) := by decide +kernel
theorem dX10_parents_244 : decode cX10_parents 244 = .ok (.if_icmp .eq 7, 3) := by decide +kernel
theorem dX10_parents_247 : decode cX10_parents 247 = .ok (.iconst 1, 1) := by decide +kernel
theorem dX10_parents_248 : decode cX10_parents 248 = .ok (.goto 4, 3) := by decide +kernel
theorem dX10_parents_251 : decode cX10_parents 251 = .ok (.iconst 0, 1) := by decide +kernel
theorem dX10_parents_252 : decode cX10_parents 252 = .ok (.ior, 1) := by decide +kernel
theorem dX10_parents_253 : decode cX10_parents 253 = .ok (.istore_n 1, 1) := by decide +kernel
theorem dX10_parents_254 : decode cX10_parents 254 = .ok (.aload_n 0, 1) := by decide +kernel
theorem dX10_parents_255 : decode cX10_parents 255 = .ok (.getfield 36, 3) := by decide +kernel
theorem dX10_parents_258 : decode cX10_parents 258 = .ok (.iload_n 2, 1) := by decide +kernel
theorem dX10_parents_259 : decode cX10_parents 259 = .ok (.iload_n 3, 1) := by decide +kernel
theorem dX10_parents_260 : decode cX10_parents 260 = .ok (.iastore, 1) := by decide +kernel
theorem dX10_parents_261 : decode cX10_parents 261 = .ok (.iinc 2 1, 3) := by decide +kernel
theorem dX10_parents_264 : decode cX10_parents 264 = .ok (.goto (-93), 3) := by decide +kernel
theorem dX10_parents_267 : decode cX10_parents 267 = .ok (.goto (-104), 3) := by decide +kernel
theorem dX10_parents_270 : decode cX10_parents 270 = .ok (.return_, 1) := by decide +kernel
theorem dX10_sexes_0 : decode cX10_sexes 0 = .ok (.iconst 0, 1) := by decide +kernel
theorem dX10_sexes_1 : decode cX10_sexes 1 = .ok (.istore_n 2, 1) := by decide +kernel
theorem dX10_sexes_2 : decode cX10_sexes 2 = .ok (.iconst 0, 1) := by decide +kernel
theorem dX10_sexes_3 : decode cX10_sexes 3 = .ok (.istore_n 3, 1) := by decide +kernel
theorem dX10_sexes_4 : decode cX10_sexes 4 = .ok (.iload_n 3, 1) := by decide +kernel
theorem dX10_sexes_5 : decode cX10_sexes 5 = .ok (.aload_n 0, 1) := by decide +kernel
theorem dX10_sexes_6 : decode cX10_sexes 6 = .ok (.getfield 11, 3) := by decide +kernel
theorem dX10_sexes_9 : decode cX10_sexes 9 = .ok (.iconst 0, 1) := by decide +kernel
theorem dX10_sexes_10 : decode cX10_sexes 10 = .ok (.iaload, 1) := by decide +kernel
theorem dX10_sexes_11 : decode cX10_sexes 11 = .ok (.if_icmp .ge 69, 3) := by decide +kernel
theorem dX10_sexes_14 : decode cX10_sexes 14 = .ok (.aload_n 0, 1) := by decide +kernel
theorem dX10_sexes_15 : decode cX10_sexes 15 = .ok (.getfield 27, 3) := by decide +kernel
theorem dX10_sexes_18 : decode cX10_sexes 18 = .ok (.iload_n 3, 1) := by decide +kernel
theorem dX10_sexes_19 : decode cX10_sexes 19 = .ok (.iaload, 1) := by decide +kernel
theorem dX10_sexes_20 : decode cX10_sexes 20 = .ok (.iload_n 1, 1) := by decide +kernel
theorem dX10_sexes_21 : decode cX10_sexes 21 = .ok (.if_icmp .ne 11, 3) := by decide +kernel
theorem dX10_sexes_24 : decode cX10_sexes 24 = .ok (.iload_n 2, 1) := by decide +kernel
theorem dX10_sexes_25 : decode cX10_sexes 25 = .ok (.aload_n 0, 1) := by decide +kernel
theorem dX10_sexes_26 : decode cX10_sexes 26 = .ok (.iload_n 3, 1) := by decide +kernel
theorem dX10_sexes_27 : decode cX10_sexes 27 = .ok (.invokevirtual 92, 3) := by decide +kernel
theorem dX10_sexes_30 : decode cX10_sexes 30 = .ok (.ior, 1) := by decide +kernel
theorem dX10_sexes_31 : decode cX10_sexes 31 = .ok (.istore_n 2, 1) := by decide +kernel
theorem dX10_sexes_32 : decode cX10_sexes 32 = .ok (.iload_n 2, 1) := by decide +kernel
theorem dX10_sexes_33 : decode cX10_sexes 33 = .ok (.aload_n 0, 1) := by decide +kernel
theorem dX10_sexes_34 : decode cX10_sexes 34 = .ok (.getfield 30, 3) := by decide +kernel
theorem dX10_sexes_37 : decode cX10_sexes 37 = .ok (.iload_n 3, 1) := by decide +kernel
theorem dX10_sexes_38 : decode cX10_sexes 38 = .ok (.iaload, 1) := by decide +kernel
theorem dX10_sexes_39 : decode cX10_sexes 39 = .ok (.iload_n 1, 1) := by decide +kernel
theorem dX10_sexes_40 : decode cX10_sexes 40 = .ok (.invokestatic 89, 3) := by decide +kernel
theorem dX10_sexes_43 : decode cX10_sexes 43 = .ok (.ifCond .eq 7, 3) := by decide +kernel
theorem dX10_sexes_46 : decode cX10_sexes 46 = .ok (.iconst 1, 1) := by decide +kernel
theorem dX10_sexes_47 : decode cX10_sexes 47 = .ok (.goto 4, 3) := by decide +kernel
theorem dX10_sexes_50 : decode cX10_sexes 50 = .ok (.iconst 0, 1) := by decide +kernel
theorem dX10_sexes_51 : decode cX10_sexes 51 = .ok (.ior, 1) := by decide +kernel
theorem dX10_sexes_52 : decode cX10_sexes 52 = .ok (.istore_n 2, 1) := by decide +kernel
theorem dX10_sexes_53 : decode cX10_sexes 53 = .ok (.iload_n 2, 1) := by decide +kernel
theorem dX10_sexes_54 : decode cX10_sexes 54 = .ok (.aload_n 0, 1) := by decide +kernel
theorem dX10_sexes_55 : decode cX10_sexes 55 = .ok (.getfield 33, 3) := by decide +kernel
theorem dX10_sexes_58 : decode cX10_sexes 58 = .ok (.iload_n 3, 1) := by decide +kernel
theorem dX10_sexes_59 : decode cX10_sexes 59 = .ok (.iaload, 1) := by decide +kernel
theorem dX10_sexes_60 : decode cX10_sexes 60 = .ok (.iload_n 1, 1) := by decide +kernel
theorem dX10_sexes_61 : decode cX10_sexes 61 = .ok (.invokestatic 89, 3) := by decide +kernel
theorem dX10_sexes_64 : decode cX10_sexes 64 = .ok (.ifCond .eq 7, 3) := by decide +kernel
theorem dX10_sexes_67 : decode cX10_sexes 67 = .ok (.iconst 2, 1) := by decide +kernel
theorem dX10_sexes_68 : decode cX10_sexes 68 = .ok (.goto 4, 3) := by decide +kernel
theorem dX10_sexes_71 : decode cX10_sexes 71 = .ok (.iconst 0, 1) := by decide +kernel
theorem dX10_sexes_72 : decode cX10_sexes 72 = .ok (.ior, 1) := by decide +kernel
theorem dX10_sexes_73 : decode cX10_sexes 73 = .ok (.istore_n 2, 1) := by decide +kernel
theorem dX10_sexes_74 : decode cX10_sexes 74 = .ok (.iinc 3 1, 3) := by decide +kernel
theorem dX10_sexes_77 : decode cX10_sexes 77 = .ok (.goto (-73), 3) := by decide +kernel
theorem dX10_sexes_80 : decode cX10_sexes 80 = .ok (.iload_n 2, 1) := by decide +kernel
theorem dX10_sexes_81 : decode cX10_sexes 81 = .ok (.ireturn, 1) := by decide +kernel
theorem dX10_clashes_0 : decode cX10_clashes 0 = .ok (.aload_n 0, 1) := by decide +kernel
theorem dX10_clashes_1 : decode cX10_clashes 1 = .ok (.getfield 96, 3) := by decide +kernel
theorem dX10_clashes_4 : decode cX10_clashes 4 = .ok (.ifCond .eq 4, 3) := by decide +kernel
theorem dX10_clashes_7 : decode cX10_clashes 7 = .ok (.return_, 1) := by decide +kernel
theorem dX10_clashes_8 : decode cX10_clashes 8 = .ok (.aload_n 0, 1) := by decide +kernel
theorem dX10_clashes_9 : decode cX10_clashes 9 = .ok (.iload_n 1, 1) := by decide +kernel
theorem dX10_clashes_10 : decode cX10_clashes 10 = .ok (.putfield 96, 3) := by decide +kernel
theorem dX10_clashes_13 : decode cX10_clashes 13 = .ok (.aload_n 0, 1) := by decide +kernel
theorem dX10_clashes_14 : decode cX10_clashes 14 = .ok (.iload_n 2, 1) := by decide +kernel
theorem dX10_clashes_15 : decode cX10_clashes 15 = .ok (.putfield 100, 3) := by decide +kernel
theorem dX10_clashes_18 : decode cX10_clashes 18 = .ok (.return_, 1) := by decide +kernel
theorem dX10_looks_0 : decode cX10_looks 0 = .ok (.iconst 0, 1) := by decide +kernel
theorem dX10_looks_1 : decode cX10_looks 1 = .ok (.istore_n 1, 1) := by decide +kernel
theorem dX10_looks_2 : decode cX10_looks 2 = .ok (.iload_n 1, 1) := by decide +kernel
theorem dX10_looks_3 : decode cX10_looks 3 = .ok (.aload_n 0, 1) := by decide +kernel
theorem dX10_looks_4 : decode cX10_looks 4 = .ok (.getfield 11, 3) := by decide +kernel
theorem dX10_looks_7 : decode cX10_looks 7 = .ok (.iconst 0, 1) := by decide +kernel
theorem dX10_looks_8 : decode cX10_looks 8 = .ok (.iaload, 1) := by decide +kernel
theorem dX10_looks_9 : decode cX10_looks 9 = .ok (.if_icmp .ge 32, 3) := by decide +kernel
theorem dX10_looks_12 : decode cX10_looks 12 = .ok (.aload_n 0, 1) := by decide +kernel
theorem dX10_looks_13 : decode cX10_looks 13 = .ok (.iload_n 1, 1) := by decide +kernel
theorem dX10_looks_14 : decode cX10_looks 14 = .ok (.invokevirtual 103, 3) := by decide +kernel
theorem dX10_looks_17 : decode cX10_looks 17 = .ok (.ifCond .eq 18, 3) := by decide +kernel
theorem dX10_looks_20 : decode cX10_looks 20 = .ok (.aload_n 0, 1) := by decide +kernel
theorem dX10_looks_21 : decode cX10_looks 21 = .ok (.iload_n 1, 1) := by decide +kernel
theorem dX10_looks_22 : decode cX10_looks 22 = .ok (.invokevirtual 107, 3) := by decide +kernel
theorem dX10_looks_25 : decode cX10_looks 25 = .ok (.iconst 3, 1) := by decide +kernel
theorem dX10_looks_26 : decode cX10_looks 26 = .ok (.if_icmp .ne 9, 3) := by decide +kernel
theorem dX10_looks_29 : decode cX10_looks 29 = .ok (.aload_n 0, 1) := by decide +kernel
theorem dX10_looks_30 : decode cX10_looks 30 = .ok (.iconst 1, 1) := by decide +kernel
theorem dX10_looks_31 : decode cX10_looks 31 = .ok (.iload_n 1, 1) := by decide +kernel
theorem dX10_looks_32 : decode cX10_looks 32 = .ok (.invokevirtual 110, 3) := by decide +kernel
theorem dX10_looks_35 : decode cX10_looks 35 = .ok (.iinc 1 1, 3) := by decide +kernel
theorem dX10_looks_38 : decode cX10_looks 38 = .ok (.goto (-36), 3) := by decide +kernel
theorem dX10_looks_41 : decode cX10_looks 41 = .ok (.iconst 0, 1) := by decide +kernel
theorem dX10_looks_42 : decode cX10_looks 42 = .ok (.istore_n 1, 1) := by decide +kernel
theorem dX10_looks_43 : decode cX10_looks 43 = .ok (.iload_n 1, 1) := by decide +kernel
theorem dX10_looks_44 : decode cX10_looks 44 = .ok (.aload_n 0, 1) := by decide +kernel
theorem dX10_looks_45 : decode cX10_looks 45 = .ok (.getfield 11, 3) := by decide +kernel
theorem dX10_looks_48 : decode cX10_looks 48 = .ok (.iconst 0, 1) := by decide +kernel
theorem dX10_looks_49 : decode cX10_looks 49 = .ok (.iaload, 1) := by decide +kernel
theorem dX10_looks_50 : decode cX10_looks 50 = .ok (.if_icmp .ge 41, 3) := by decide +kernel
theorem dX10_looks_53 : decode cX10_looks 53 = .ok (.aload_n 0, 1) := by decide +kernel
theorem dX10_looks_54 : decode cX10_looks 54 = .ok (.getfield 30, 3) := by decide +kernel
theorem dX10_looks_57 : decode cX10_looks 57 = .ok (.iload_n 1, 1) := by decide +kernel
theorem dX10_looks_58 : decode cX10_looks 58 = .ok (.iaload, 1) := by decide +kernel
theorem dX10_looks_59 : decode cX10_looks 59 = .ok (.invokestatic 114, 3) := by decide +kernel
theorem dX10_looks_62 : decode cX10_looks 62 = .ok (.iconst 1, 1) := by decide +kernel
theorem dX10_looks_63 : decode cX10_looks 63 = .ok (.if_icmp .gt 16, 3) := by decide +kernel
theorem dX10_looks_66 : decode cX10_looks 66 = .ok (.aload_n 0, 1) := by decide +kernel
theorem dX10_looks_67 : decode cX10_looks 67 = .ok (.getfield 33, 3) := by decide +kernel
theorem dX10_looks_70 : decode cX10_looks 70 = .ok (.iload_n 1, 1) := by decide +kernel
theorem dX10_looks_71 : decode cX10_looks 71 = .ok (.iaload, 1) := by decide +kernel
theorem dX10_looks_72 : decode cX10_looks 72 = .ok (.invokestatic 114, 3) := by decide +kernel
theorem dX10_looks_75 : decode cX10_looks 75 = .ok (.iconst 1, 1) := by decide +kernel
theorem dX10_looks_76 : decode cX10_looks 76 = .ok (.if_icmp .le 9, 3) := by decide +kernel
theorem dX10_looks_79 : decode cX10_looks 79 = .ok (.aload_n 0, 1) := by decide +kernel
theorem dX10_looks_80 : decode cX10_looks 80 = .ok (.iconst 2, 1) := by decide +kernel
theorem dX10_looks_81 : decode cX10_looks 81 = .ok (.iload_n 1, 1) := by decide +kernel
theorem dX10_looks_82 : decode cX10_looks 82 = .ok (.invokevirtual 110, 3) := by decide +kernel
theorem dX10_looks_85 : decode cX10_looks 85 = .ok (.iinc 1 1, 3) := by decide +kernel
theorem dX10_looks_88 : decode cX10_looks 88 = .ok (.goto (-45), 3) := by decide +kernel
theorem dX10_looks_91 : decode cX10_looks 91 = .ok (.iconst 0, 1) := by decide +kernel
theorem dX10_looks_92 : decode cX10_looks 92 = .ok (.istore_n 1, 1) := by decide +kernel
theorem dX10_looks_93 : decode cX10_looks 93 = .ok (.iload_n 1, 1) := by decide +kernel
theorem dX10_looks_94 : decode cX10_looks 94 = .ok (.aload_n 0, 1) := by decide +kernel
theorem dX10_looks_95 : decode cX10_looks 95 = .ok (.getfield 11, 3) := by decide +kernel
theorem dX10_looks_98 : decode cX10_looks 98 = .ok (.iconst 0, 1) := by decide +kernel
theorem dX10_looks_99 : decode cX10_looks 99 = .ok (.iaload, 1) := by decide +kernel
theorem dX10_looks_100 : decode cX10_looks 100 = .ok (.if_icmp .ge 28, 3) := by decide +kernel
theorem dX10_looks_103 : decode cX10_looks 103 = .ok (.aload_n 0, 1) := by decide +kernel
theorem dX10_looks_104 : decode cX10_looks 104 = .ok (.getfield 36, 3) := by decide +kernel
theorem dX10_looks_107 : decode cX10_looks 107 = .ok (.iload_n 1, 1) := by decide +kernel
theorem dX10_looks_108 : decode cX10_looks 108 = .ok (.iaload, 1) := by decide +kernel
theorem dX10_looks_109 : decode cX10_looks 109 = .ok (.iload_n 1, 1) := by decide +kernel
theorem dX10_looks_110 : decode cX10_looks 110 = .ok (.invokestatic 89, 3) := by decide +kernel
theorem dX10_looks_113 : decode cX10_looks 113 = .ok (.ifCond .eq 9, 3) := by decide +kernel
theorem dX10_looks_116 : decode cX10_looks 116 = .ok (.aload_n 0, 1) := by decide +kernel
theorem dX10_looks_117 : decode cX10_looks 117 = .ok (.iconst 3, 1) := by decide +kernel
theorem dX10_looks_118 : decode cX10_looks 118 = .ok (.iload_n 1, 1) := by decide +kernel
theorem dX10_looks_119 : decode cX10_looks 119 = .ok (.invokevirtual 110, 3) := by decide +kernel
theorem dX10_looks_122 : decode cX10_looks 122 = .ok (.iinc 1 1, 3) := by decide +kernel
theorem dX10_looks_125 : decode cX10_looks 125 = .ok (.goto (-32), 3) := by decide +kernel
theorem dX10_looks_128 : decode cX10_looks 128 = .ok (.return_, 1) := by decide +kernel
theorem dX10_bornOf_0 : decode cX10_bornOf 0 = .ok (.iconst 2, 1) := by decide +kernel
theorem dX10_bornOf_1 : decode cX10_bornOf 1 = .ok (.iload_n 0, 1) := by decide +kernel
theorem dX10_bornOf_2 : decode cX10_bornOf 2 = .ok (.imul, 1) := by decide +kernel
theorem dX10_bornOf_3 : decode cX10_bornOf 3 = .ok (.ireturn, 1) := by decide +kernel
theorem dX10_yearOf_0 : decode cX10_yearOf 0 = .ok (.bipush 60, 2) := by decide +kernel
theorem dX10_yearOf_2 : decode cX10_yearOf 2 = .ok (.iload_n 0, 1) := by decide +kernel
theorem dX10_yearOf_3 : decode cX10_yearOf 3 = .ok (.iadd, 1) := by decide +kernel
theorem dX10_yearOf_4 : decode cX10_yearOf 4 = .ok (.ireturn, 1) := by decide +kernel
theorem dX10_narrows_0 : decode cX10_narrows 0 = .ok (.aload_n 0, 1) := by decide +kernel
theorem dX10_narrows_1 : decode cX10_narrows 1 = .ok (.getfield 96, 3) := by decide +kernel
theorem dX10_narrows_4 : decode cX10_narrows 4 = .ok (.ifCond .eq 4, 3) := by decide +kernel
theorem dX10_narrows_7 : decode cX10_narrows 7 = .ok (.return_, 1) := by decide +kernel
theorem dX10_narrows_8 : decode cX10_narrows 8 = .ok (.iload_n 1, 1) := by decide +kernel
theorem dX10_narrows_9 : decode cX10_narrows 9 = .ok (.iconst 2, 1) := by decide +kernel
theorem dX10_narrows_10 : decode cX10_narrows 10 = .ok (.irem, 1) := by decide +kernel
theorem dX10_narrows_11 : decode cX10_narrows 11 = .ok (.iconst 1, 1) := by decide +kernel
theorem dX10_narrows_12 : decode cX10_narrows 12 = .ok (.if_icmp .ne 7, 3) := by decide +kernel
theorem dX10_narrows_15 : decode cX10_narrows 15 = .ok (.iconst 1, 1) := by decide +kernel
theorem dX10_narrows_16 : decode cX10_narrows 16 = .ok (.goto 4, 3) := by decide +kernel
theorem dX10_narrows_19 : decode cX10_narrows 19 = .ok (.iconst 0, 1) := by decide +kernel
theorem dX10_narrows_20 : decode cX10_narrows 20 = .ok (.istore 4, 2) := by decide +kernel
theorem dX10_narrows_22 : decode cX10_narrows 22 = .ok (.iload 4, 2) := by decide +kernel
theorem dX10_narrows_24 : decode cX10_narrows 24 = .ok (.ifCond .eq 16, 3) := by decide +kernel
theorem dX10_narrows_27 : decode cX10_narrows 27 = .ok (.aload_n 0, 1) := by decide +kernel
theorem dX10_narrows_28 : decode cX10_narrows 28 = .ok (.getfield 39, 3) := by decide +kernel
theorem dX10_narrows_31 : decode cX10_narrows 31 = .ok (.iload_n 1, 1) := by decide +kernel
theorem dX10_narrows_32 : decode cX10_narrows 32 = .ok (.iaload, 1) := by decide +kernel
theorem dX10_narrows_33 : decode cX10_narrows 33 = .ok (.iload_n 2, 1) := by decide +kernel
theorem dX10_narrows_34 : decode cX10_narrows 34 = .ok (.if_icmp .gt 17, 3) := by decide +kernel
theorem dX10_narrows_37 : decode cX10_narrows 37 = .ok (.goto 13, 3) := by decide +kernel
theorem dX10_narrows_40 : decode cX10_narrows 40 = .ok (.aload_n 0, 1) := by decide +kernel
theorem dX10_narrows_41 : decode cX10_narrows 41 = .ok (.getfield 39, 3) := by decide +kernel
theorem dX10_narrows_44 : decode cX10_narrows 44 = .ok (.iload_n 1, 1) := by decide +kernel
theorem dX10_narrows_45 : decode cX10_narrows 45 = .ok (.iaload, 1) := by decide +kernel
theorem dX10_narrows_46 : decode cX10_narrows 46 = .ok (.iload_n 2, 1) := by decide +kernel
theorem dX10_narrows_47 : decode cX10_narrows 47 = .ok (.if_icmp .lt 4, 3) := by decide +kernel
theorem dX10_narrows_50 : decode cX10_narrows 50 = .ok (.return_, 1) := by decide +kernel
theorem dX10_narrows_51 : decode cX10_narrows 51 = .ok (.aload_n 0, 1) := by decide +kernel
theorem dX10_narrows_52 : decode cX10_narrows 52 = .ok (.getfield 39, 3) := by decide +kernel
theorem dX10_narrows_55 : decode cX10_narrows 55 = .ok (.iload_n 1, 1) := by decide +kernel
theorem dX10_narrows_56 : decode cX10_narrows 56 = .ok (.iload_n 2, 1) := by decide +kernel
theorem dX10_narrows_57 : decode cX10_narrows 57 = .ok (.iastore, 1) := by decide +kernel
theorem dX10_narrows_58 : decode cX10_narrows 58 = .ok (.aload_n 0, 1) := by decide +kernel
theorem dX10_narrows_59 : decode cX10_narrows 59 = .ok (.getfield 42, 3) := by decide +kernel
theorem dX10_narrows_62 : decode cX10_narrows 62 = .ok (.iload_n 1, 1) := by decide +kernel
theorem dX10_narrows_63 : decode cX10_narrows 63 = .ok (.aload_n 0, 1) := by decide +kernel
theorem dX10_narrows_64 : decode cX10_narrows 64 = .ok (.getfield 117, 3) := by decide +kernel
theorem dX10_narrows_67 : decode cX10_narrows 67 = .ok (.iastore, 1) := by decide +kernel
theorem dX10_narrows_68 : decode cX10_narrows 68 = .ok (.aload_n 0, 1) := by decide +kernel
theorem dX10_narrows_69 : decode cX10_narrows 69 = .ok (.getfield 45, 3) := by decide +kernel
theorem dX10_narrows_72 : decode cX10_narrows 72 = .ok (.iload_n 1, 1) := by decide +kernel
theorem dX10_narrows_73 : decode cX10_narrows 73 = .ok (.iload_n 3, 1) := by decide +kernel
theorem dX10_narrows_74 : decode cX10_narrows 74 = .ok (.iastore, 1) := by decide +kernel
theorem dX10_narrows_75 : decode cX10_narrows 75 = .ok (.aload_n 0, 1) := by decide +kernel
theorem dX10_narrows_76 : decode cX10_narrows 76 = .ok (.iconst 1, 1) := by decide +kernel
theorem dX10_narrows_77 : decode cX10_narrows 77 = .ok (.putfield 120, 3) := by decide +kernel
theorem dX10_narrows_80 : decode cX10_narrows 80 = .ok (.aload_n 0, 1) := by decide +kernel
theorem dX10_narrows_81 : decode cX10_narrows 81 = .ok (.getfield 39, 3) := by decide +kernel
theorem dX10_narrows_84 : decode cX10_narrows 84 = .ok (.iload_n 1, 1) := by decide +kernel
theorem dX10_narrows_85 : decode cX10_narrows 85 = .ok (.bipush (-2), 2) := by decide +kernel
theorem dX10_narrows_87 : decode cX10_narrows 87 = .ok (.iand, 1) := by decide +kernel
theorem dX10_narrows_88 : decode cX10_narrows 88 = .ok (.iaload, 1) := by decide +kernel
theorem dX10_narrows_89 : decode cX10_narrows 89 = .ok (.aload_n 0, 1) := by decide +kernel
theorem dX10_narrows_90 : decode cX10_narrows 90 = .ok (.getfield 39, 3) := by decide +kernel
theorem dX10_narrows_93 : decode cX10_narrows 93 = .ok (.iload_n 1, 1) := by decide +kernel
theorem dX10_narrows_94 : decode cX10_narrows 94 = .ok (.iconst 1, 1) := by decide +kernel
theorem dX10_narrows_95 : decode cX10_narrows 95 = .ok (.ior, 1) := by decide +kernel
theorem dX10_narrows_96 : decode cX10_narrows 96 = .ok (.iaload, 1) := by decide +kernel
theorem dX10_narrows_97 : decode cX10_narrows 97 = .ok (.if_icmp .le 15, 3) := by decide +kernel
theorem dX10_narrows_100 : decode cX10_narrows 100 = .ok (.aload_n 0, 1) := by decide +kernel
theorem dX10_narrows_101 : decode cX10_narrows 101 = .ok (.iconst 4, 1) := by decide +kernel
theorem dX10_narrows_102 : decode cX10_narrows 102 = .ok (.putfield 96, 3) := by decide +kernel
theorem dX10_narrows_105 : decode cX10_narrows 105 = .ok (.aload_n 0, 1) := by decide +kernel
theorem dX10_narrows_106 : decode cX10_narrows 106 = .ok (.iload_n 1, 1) := by decide +kernel
theorem dX10_narrows_107 : decode cX10_narrows 107 = .ok (.iconst 2, 1) := by decide +kernel
theorem dX10_narrows_108 : decode cX10_narrows 108 = .ok (.idiv, 1) := by decide +kernel
theorem dX10_narrows_109 : decode cX10_narrows 109 = .ok (.putfield 100, 3) := by decide +kernel
theorem dX10_narrows_112 : decode cX10_narrows 112 = .ok (.return_, 1) := by decide +kernel
theorem dX10_isWithin_0 : decode cX10_isWithin 0 = .ok (.aload_n 0, 1) := by decide +kernel
theorem dX10_isWithin_1 : decode cX10_isWithin 1 = .ok (.iconst 2, 1) := by decide +kernel
theorem dX10_isWithin_2 : decode cX10_isWithin 2 = .ok (.iload_n 1, 1) := by decide +kernel
theorem dX10_isWithin_3 : decode cX10_isWithin 3 = .ok (.imul, 1) := by decide +kernel
theorem dX10_isWithin_4 : decode cX10_isWithin 4 = .ok (.iload_n 2, 1) := by decide +kernel
theorem dX10_isWithin_5 : decode cX10_isWithin 5 = .ok (.bipush (-5), 2) := by decide +kernel
theorem dX10_isWithin_7 : decode cX10_isWithin 7 = .ok (.invokevirtual 124, 3) := by decide +kernel
theorem dX10_isWithin_10 : decode cX10_isWithin 10 = .ok (.aload_n 0, 1) := by decide +kernel
theorem dX10_isWithin_11 : decode cX10_isWithin 11 = .ok (.iconst 2, 1) := by decide +kernel
theorem dX10_isWithin_12 : decode cX10_isWithin 12 = .ok (.iload_n 1, 1) := by decide +kernel
theorem dX10_isWithin_13 : decode cX10_isWithin 13 = .ok (.imul, 1) := by decide +kernel
theorem dX10_isWithin_14 : decode cX10_isWithin 14 = .ok (.iconst 1, 1) := by decide +kernel
theorem dX10_isWithin_15 : decode cX10_isWithin 15 = .ok (.iadd, 1) := by decide +kernel
theorem dX10_isWithin_16 : decode cX10_isWithin 16 = .ok (.iload_n 3, 1) := by decide +kernel
theorem dX10_isWithin_17 : decode cX10_isWithin 17 = .ok (.bipush (-5), 2) := by decide +kernel
theorem dX10_isWithin_19 : decode cX10_isWithin 19 = .ok (.invokevirtual 124, 3) := by decide +kernel
theorem dX10_isWithin_22 : decode cX10_isWithin 22 = .ok (.return_, 1) := by decide +kernel
theorem dX10_differ_0 : decode cX10_differ 0 = .ok (.iload 4, 2) := by decide +kernel
theorem dX10_differ_2 : decode cX10_differ 2 = .ok (.sipush 3001, 3) := by decide +kernel
theorem dX10_differ_5 : decode cX10_differ 5 = .ok (.if_icmp .ne 7, 3) := by decide +kernel
theorem dX10_differ_8 : decode cX10_differ 8 = .ok (.iconst 1, 1) := by decide +kernel
theorem dX10_differ_9 : decode cX10_differ 9 = .ok (.goto 4, 3) := by decide +kernel
theorem dX10_differ_12 : decode cX10_differ 12 = .ok (.iconst 0, 1) := by decide +kernel
theorem dX10_differ_13 : decode cX10_differ 13 = .ok (.istore 5, 2) := by decide +kernel
theorem dX10_differ_15 : decode cX10_differ 15 = .ok (.aload_n 0, 1) := by decide +kernel
theorem dX10_differ_16 : decode cX10_differ 16 = .ok (.iconst 2, 1) := by decide +kernel
theorem dX10_differ_17 : decode cX10_differ 17 = .ok (.iload_n 1, 1) := by decide +kernel
theorem dX10_differ_18 : decode cX10_differ 18 = .ok (.imul, 1) := by decide +kernel
theorem dX10_differ_19 : decode cX10_differ 19 = .ok (.aload_n 0, 1) := by decide +kernel
theorem dX10_differ_20 : decode cX10_differ 20 = .ok (.getfield 39, 3) := by decide +kernel
theorem dX10_differ_23 : decode cX10_differ 23 = .ok (.iconst 2, 1) := by decide +kernel
theorem dX10_differ_24 : decode cX10_differ 24 = .ok (.iload_n 2, 1) := by decide +kernel
theorem dX10_differ_25 : decode cX10_differ 25 = .ok (.imul, 1) := by decide +kernel
theorem dX10_differ_26 : decode cX10_differ 26 = .ok (.iaload, 1) := by decide +kernel
theorem dX10_differ_27 : decode cX10_differ 27 = .ok (.iload_n 3, 1) := by decide +kernel
theorem dX10_differ_28 : decode cX10_differ 28 = .ok (.iadd, 1) := by decide +kernel
theorem dX10_differ_29 : decode cX10_differ 29 = .ok (.iconst 2, 1) := by decide +kernel
theorem dX10_differ_30 : decode cX10_differ 30 = .ok (.iload_n 2, 1) := by decide +kernel
theorem dX10_differ_31 : decode cX10_differ 31 = .ok (.imul, 1) := by decide +kernel
theorem dX10_differ_32 : decode cX10_differ 32 = .ok (.invokevirtual 124, 3) := by decide +kernel
theorem dX10_differ_35 : decode cX10_differ 35 = .ok (.iload 5, 2) := by decide +kernel
theorem dX10_differ_37 : decode cX10_differ 37 = .ok (.ifCond .ne 30, 3) := by decide +kernel
theorem dX10_differ_40 : decode cX10_differ 40 = .ok (.aload_n 0, 1) := by decide +kernel
theorem dX10_differ_41 : decode cX10_differ 41 = .ok (.iconst 2, 1) := by decide +kernel
theorem dX10_differ_42 : decode cX10_differ 42 = .ok (.iload_n 1, 1) := by decide +kernel
theorem dX10_differ_43 : decode cX10_differ 43 = .ok (.imul, 1) := by decide +kernel
theorem dX10_differ_44 : decode cX10_differ 44 = .ok (.iconst 1, 1) := by decide +kernel
theorem dX10_differ_45 : decode cX10_differ 45 = .ok (.iadd, 1) := by decide +kernel
theorem dX10_differ_46 : decode cX10_differ 46 = .ok (.aload_n 0, 1) := by decide +kernel
theorem dX10_differ_47 : decode cX10_differ 47 = .ok (.getfield 39, 3) := by decide +kernel
theorem dX10_differ_50 : decode cX10_differ 50 = .ok (.iconst 2, 1) := by decide +kernel
theorem dX10_differ_51 : decode cX10_differ 51 = .ok (.iload_n 2, 1) := by decide +kernel
theorem dX10_differ_52 : decode cX10_differ 52 = .ok (.imul, 1) := by decide +kernel
theorem dX10_differ_53 : decode cX10_differ 53 = .ok (.iconst 1, 1) := by decide +kernel
theorem dX10_differ_54 : decode cX10_differ 54 = .ok (.iadd, 1) := by decide +kernel
theorem dX10_differ_55 : decode cX10_differ 55 = .ok (.iaload, 1) := by decide +kernel
theorem dX10_differ_56 : decode cX10_differ 56 = .ok (.iload 4, 2) := by decide +kernel
theorem dX10_differ_58 : decode cX10_differ 58 = .ok (.iadd, 1) := by decide +kernel
theorem dX10_differ_59 : decode cX10_differ 59 = .ok (.iconst 2, 1) := by decide +kernel
theorem dX10_differ_60 : decode cX10_differ 60 = .ok (.iload_n 2, 1) := by decide +kernel
theorem dX10_differ_61 : decode cX10_differ 61 = .ok (.imul, 1) := by decide +kernel
theorem dX10_differ_62 : decode cX10_differ 62 = .ok (.iconst 1, 1) := by decide +kernel
theorem dX10_differ_63 : decode cX10_differ 63 = .ok (.iadd, 1) := by decide +kernel
theorem dX10_differ_64 : decode cX10_differ 64 = .ok (.invokevirtual 124, 3) := by decide +kernel
theorem dX10_differ_67 : decode cX10_differ 67 = .ok (.iload 5, 2) := by decide +kernel
theorem dX10_differ_69 : decode cX10_differ 69 = .ok (.ifCond .ne 24, 3) := by decide +kernel
theorem dX10_differ_72 : decode cX10_differ 72 = .ok (.aload_n 0, 1) := by decide +kernel
theorem dX10_differ_73 : decode cX10_differ 73 = .ok (.iconst 2, 1) := by decide +kernel
theorem dX10_differ_74 : decode cX10_differ 74 = .ok (.iload_n 2, 1) := by decide +kernel
theorem dX10_differ_75 : decode cX10_differ 75 = .ok (.imul, 1) := by decide +kernel
theorem dX10_differ_76 : decode cX10_differ 76 = .ok (.aload_n 0, 1) := by decide +kernel
theorem dX10_differ_77 : decode cX10_differ 77 = .ok (.getfield 39, 3) := by decide +kernel
theorem dX10_differ_80 : decode cX10_differ 80 = .ok (.iconst 2, 1) := by decide +kernel
theorem dX10_differ_81 : decode cX10_differ 81 = .ok (.iload_n 1, 1) := by decide +kernel
theorem dX10_differ_82 : decode cX10_differ 82 = .ok (.imul, 1) := by decide +kernel
theorem dX10_differ_83 : decode cX10_differ 83 = .ok (.iaload, 1) := by decide +kernel
theorem dX10_differ_84 : decode cX10_differ 84 = .ok (.iload 4, 2) := by decide +kernel
theorem dX10_differ_86 : decode cX10_differ 86 = .ok (.isub, 1) := by decide +kernel
theorem dX10_differ_87 : decode cX10_differ 87 = .ok (.iconst 2, 1) := by decide +kernel
theorem dX10_differ_88 : decode cX10_differ 88 = .ok (.iload_n 1, 1) := by decide +kernel
theorem dX10_differ_89 : decode cX10_differ 89 = .ok (.imul, 1) := by decide +kernel
theorem dX10_differ_90 : decode cX10_differ 90 = .ok (.invokevirtual 124, 3) := by decide +kernel
theorem dX10_differ_93 : decode cX10_differ 93 = .ok (.aload_n 0, 1) := by decide +kernel
theorem dX10_differ_94 : decode cX10_differ 94 = .ok (.iconst 2, 1) := by decide +kernel
theorem dX10_differ_95 : decode cX10_differ 95 = .ok (.iload_n 2, 1) := by decide +kernel
theorem dX10_differ_96 : decode cX10_differ 96 = .ok (.imul, 1) := by decide +kernel
theorem dX10_differ_97 : decode cX10_differ 97 = .ok (.iconst 1, 1) := by decide +kernel
theorem dX10_differ_98 : decode cX10_differ 98 = .ok (.iadd, 1) := by decide +kernel
theorem dX10_differ_99 : decode cX10_differ 99 = .ok (.aload_n 0, 1) := by decide +kernel
theorem dX10_differ_100 : decode cX10_differ 100 = .ok (.getfield 39, 3) := by decide +kernel
theorem dX10_differ_103 : decode cX10_differ 103 = .ok (.iconst 2, 1) := by decide +kernel
theorem dX10_differ_104 : decode cX10_differ 104 = .ok (.iload_n 1, 1) := by decide +kernel
theorem dX10_differ_105 : decode cX10_differ 105 = .ok (.imul, 1) := by decide +kernel
theorem dX10_differ_106 : decode cX10_differ 106 = .ok (.iconst 1, 1) := by decide +kernel
theorem dX10_differ_107 : decode cX10_differ 107 = .ok (.iadd, 1) := by decide +kernel
theorem dX10_differ_108 : decode cX10_differ 108 = .ok (.iaload, 1) := by decide +kernel
theorem dX10_differ_109 : decode cX10_differ 109 = .ok (.iload_n 3, 1) := by decide +kernel
theorem dX10_differ_110 : decode cX10_differ 110 = .ok (.isub, 1) := by decide +kernel
theorem dX10_differ_111 : decode cX10_differ 111 = .ok (.iconst 2, 1) := by decide +kernel
theorem dX10_differ_112 : decode cX10_differ 112 = .ok (.iload_n 1, 1) := by decide +kernel
theorem dX10_differ_113 : decode cX10_differ 113 = .ok (.imul, 1) := by decide +kernel
theorem dX10_differ_114 : decode cX10_differ 114 = .ok (.iconst 1, 1) := by decide +kernel
theorem dX10_differ_115 : decode cX10_differ 115 = .ok (.iadd, 1) := by decide +kernel
theorem dX10_differ_116 : decode cX10_differ 116 = .ok (.invokevirtual 124, 3) := by decide +kernel
theorem dX10_differ_119 : decode cX10_differ 119 = .ok (.return_, 1) := by decide +kernel
theorem dX10_weds_0 : decode cX10_weds 0 = .ok (.aload_n 0, 1) := by decide +kernel
theorem dX10_weds_1 : decode cX10_weds 1 = .ok (.iload_n 2, 1) := by decide +kernel
theorem dX10_weds_2 : decode cX10_weds 2 = .ok (.iload_n 1, 1) := by decide +kernel
theorem dX10_weds_3 : decode cX10_weds 3 = .ok (.invokestatic 128, 3) := by decide +kernel
theorem dX10_weds_6 : decode cX10_weds 6 = .ok (.bipush 14, 2) := by decide +kernel
theorem dX10_weds_8 : decode cX10_weds 8 = .ok (.bipush 110, 2) := by decide +kernel
theorem dX10_weds_10 : decode cX10_weds 10 = .ok (.invokevirtual 131, 3) := by decide +kernel
theorem dX10_weds_13 : decode cX10_weds 13 = .ok (.aload_n 0, 1) := by decide +kernel
theorem dX10_weds_14 : decode cX10_weds 14 = .ok (.iload_n 1, 1) := by decide +kernel
theorem dX10_weds_15 : decode cX10_weds 15 = .ok (.invokestatic 128, 3) := by decide +kernel
theorem dX10_weds_18 : decode cX10_weds 18 = .ok (.iconst 1, 1) := by decide +kernel
theorem dX10_weds_19 : decode cX10_weds 19 = .ok (.iadd, 1) := by decide +kernel
theorem dX10_weds_20 : decode cX10_weds 20 = .ok (.iload_n 2, 1) := by decide +kernel
theorem dX10_weds_21 : decode cX10_weds 21 = .ok (.iconst 0, 1) := by decide +kernel
theorem dX10_weds_22 : decode cX10_weds 22 = .ok (.sipush 3001, 3) := by decide +kernel
theorem dX10_weds_25 : decode cX10_weds 25 = .ok (.invokevirtual 131, 3) := by decide +kernel
theorem dX10_weds_28 : decode cX10_weds 28 = .ok (.return_, 1) := by decide +kernel
theorem dX10_applies_0 : decode cX10_applies 0 = .ok (.aload_n 0, 1) := by decide +kernel
theorem dX10_applies_1 : decode cX10_applies 1 = .ok (.getfield 27, 3) := by decide +kernel
theorem dX10_applies_4 : decode cX10_applies 4 = .ok (.aload_n 0, 1) := by decide +kernel
theorem dX10_applies_5 : decode cX10_applies 5 = .ok (.iload_n 1, 1) := by decide +kernel
theorem dX10_applies_6 : decode cX10_applies 6 = .ok (.iconst 1, 1) := by decide +kernel
theorem dX10_applies_7 : decode cX10_applies 7 = .ok (.invokevirtual 76, 3) := by decide +kernel
theorem dX10_applies_10 : decode cX10_applies 10 = .ok (.iaload, 1) := by decide +kernel
theorem dX10_applies_11 : decode cX10_applies 11 = .ok (.istore_n 2, 1) := by decide +kernel
theorem dX10_applies_12 : decode cX10_applies 12 = .ok (.aload_n 0, 1) := by decide +kernel
theorem dX10_applies_13 : decode cX10_applies 13 = .ok (.iload_n 1, 1) := by decide +kernel
theorem dX10_applies_14 : decode cX10_applies 14 = .ok (.iconst 2, 1) := by decide +kernel
theorem dX10_applies_15 : decode cX10_applies 15 = .ok (.invokevirtual 76, 3) := by decide +kernel
theorem dX10_applies_18 : decode cX10_applies 18 = .ok (.ifCond .ge 7, 3) := by decide +kernel
theorem dX10_applies_21 : decode cX10_applies 21 = .ok (.iload_n 2, 1) := by decide +kernel
theorem dX10_applies_22 : decode cX10_applies 22 = .ok (.goto 14, 3) := by decide +kernel
theorem dX10_applies_25 : decode cX10_applies 25 = .ok (.aload_n 0, 1) := by decide +kernel
theorem dX10_applies_26 : decode cX10_applies 26 = .ok (.getfield 27, 3) := by decide +kernel
theorem dX10_applies_29 : decode cX10_applies 29 = .ok (.aload_n 0, 1) := by decide +kernel
theorem dX10_applies_30 : decode cX10_applies 30 = .ok (.iload_n 1, 1) := by decide +kernel
theorem dX10_applies_31 : decode cX10_applies 31 = .ok (.iconst 2, 1) := by decide +kernel
theorem dX10_applies_32 : decode cX10_applies 32 = .ok (.invokevirtual 76, 3) := by decide +kernel
theorem dX10_applies_35 : decode cX10_applies 35 = .ok (.iaload, 1) := by decide +kernel
theorem dX10_applies_36 : decode cX10_applies 36 = .ok (.istore_n 3, 1) := by decide +kernel
theorem dX10_applies_37 : decode cX10_applies 37 = .ok (.aload_n 0, 1) := by decide +kernel
theorem dX10_applies_38 : decode cX10_applies 38 = .ok (.iload_n 1, 1) := by decide +kernel
theorem dX10_applies_39 : decode cX10_applies 39 = .ok (.iconst 3, 1) := by decide +kernel
theorem dX10_applies_40 : decode cX10_applies 40 = .ok (.invokevirtual 76, 3) := by decide +kernel
theorem dX10_applies_43 : decode cX10_applies 43 = .ok (.istore 4, 2) := by decide +kernel
theorem dX10_applies_45 : decode cX10_applies 45 = .ok (.aload_n 0, 1) := by decide +kernel
theorem dX10_applies_46 : decode cX10_applies 46 = .ok (.iload_n 1, 1) := by decide +kernel
theorem dX10_applies_47 : decode cX10_applies 47 = .ok (.putfield 117, 3) := by decide +kernel
theorem dX10_applies_50 : decode cX10_applies 50 = .ok (.aload_n 0, 1) := by decide +kernel
theorem dX10_applies_51 : decode cX10_applies 51 = .ok (.iload_n 1, 1) := by decide +kernel
theorem dX10_applies_52 : decode cX10_applies 52 = .ok (.iconst 0, 1) := by decide +kernel
theorem dX10_applies_53 : decode cX10_applies 53 = .ok (.invokevirtual 76, 3) := by decide +kernel
theorem dX10_applies_56 : decode cX10_applies 56 = .ok (.tableswitch 254 0 7 #[48, 67, 88, 125, 162, 254, 199, 234], 48) := by decide +kernel
theorem dX10_applies_104 : decode cX10_applies 104 = .ok (.aload_n 0, 1) := by decide +kernel
theorem dX10_applies_105 : decode cX10_applies 105 = .ok (.iload_n 2, 1) := by decide +kernel
theorem dX10_applies_106 : decode cX10_applies 106 = .ok (.invokestatic 128, 3) := by decide +kernel
theorem dX10_applies_109 : decode cX10_applies 109 = .ok (.iload 4, 2) := by decide +kernel
theorem dX10_applies_111 : decode cX10_applies 111 = .ok (.aload_n 0, 1) := by decide +kernel
theorem dX10_applies_112 : decode cX10_applies 112 = .ok (.iload_n 1, 1) := by decide +kernel
theorem dX10_applies_113 : decode cX10_applies 113 = .ok (.iconst 4, 1) := by decide +kernel
theorem dX10_applies_114 : decode cX10_applies 114 = .ok (.invokevirtual 76, 3) := by decide +kernel
theorem dX10_applies_117 : decode cX10_applies 117 = .ok (.invokevirtual 135, 3) := by decide +kernel
theorem dX10_applies_120 : decode cX10_applies 120 = .ok (.goto 190, 3) := by decide +kernel
theorem dX10_applies_123 : decode cX10_applies 123 = .ok (.aload_n 0, 1) := by decide +kernel
theorem dX10_applies_124 : decode cX10_applies 124 = .ok (.iload_n 2, 1) := by decide +kernel
theorem dX10_applies_125 : decode cX10_applies 125 = .ok (.invokestatic 128, 3) := by decide +kernel
theorem dX10_applies_128 : decode cX10_applies 128 = .ok (.iconst 1, 1) := by decide +kernel
theorem dX10_applies_129 : decode cX10_applies 129 = .ok (.iadd, 1) := by decide +kernel
theorem dX10_applies_130 : decode cX10_applies 130 = .ok (.iload 4, 2) := by decide +kernel
theorem dX10_applies_132 : decode cX10_applies 132 = .ok (.aload_n 0, 1) := by decide +kernel
theorem dX10_applies_133 : decode cX10_applies 133 = .ok (.iload_n 1, 1) := by decide +kernel
theorem dX10_applies_134 : decode cX10_applies 134 = .ok (.iconst 4, 1) := by decide +kernel
theorem dX10_applies_135 : decode cX10_applies 135 = .ok (.invokevirtual 76, 3) := by decide +kernel
theorem dX10_applies_138 : decode cX10_applies 138 = .ok (.invokevirtual 135, 3) := by decide +kernel
theorem dX10_applies_141 : decode cX10_applies 141 = .ok (.goto 169, 3) := by decide +kernel
theorem dX10_applies_144 : decode cX10_applies 144 = .ok (.aload_n 0, 1) := by decide +kernel
theorem dX10_applies_145 : decode cX10_applies 145 = .ok (.iload_n 2, 1) := by decide +kernel
theorem dX10_applies_146 : decode cX10_applies 146 = .ok (.invokestatic 128, 3) := by decide +kernel
theorem dX10_applies_149 : decode cX10_applies 149 = .ok (.iload_n 3, 1) := by decide +kernel
theorem dX10_applies_150 : decode cX10_applies 150 = .ok (.invokestatic 128, 3) := by decide +kernel
theorem dX10_applies_153 : decode cX10_applies 153 = .ok (.bipush 12, 2) := by decide +kernel
theorem dX10_applies_155 : decode cX10_applies 155 = .ok (.bipush 55, 2) := by decide +kernel
theorem dX10_applies_157 : decode cX10_applies 157 = .ok (.invokevirtual 131, 3) := by decide +kernel
theorem dX10_applies_160 : decode cX10_applies 160 = .ok (.aload_n 0, 1) := by decide +kernel
theorem dX10_applies_161 : decode cX10_applies 161 = .ok (.iload_n 3, 1) := by decide +kernel
theorem dX10_applies_162 : decode cX10_applies 162 = .ok (.invokestatic 128, 3) := by decide +kernel
theorem dX10_applies_165 : decode cX10_applies 165 = .ok (.iconst 1, 1) := by decide +kernel
theorem dX10_applies_166 : decode cX10_applies 166 = .ok (.iadd, 1) := by decide +kernel
theorem dX10_applies_167 : decode cX10_applies 167 = .ok (.iload_n 2, 1) := by decide +kernel
theorem dX10_applies_168 : decode cX10_applies 168 = .ok (.invokestatic 128, 3) := by decide +kernel
theorem dX10_applies_171 : decode cX10_applies 171 = .ok (.iconst 0, 1) := by decide +kernel
theorem dX10_applies_172 : decode cX10_applies 172 = .ok (.sipush 3001, 3) := by decide +kernel
theorem dX10_applies_175 : decode cX10_applies 175 = .ok (.invokevirtual 131, 3) := by decide +kernel
theorem dX10_applies_178 : decode cX10_applies 178 = .ok (.goto 132, 3) := by decide +kernel
theorem dX10_applies_181 : decode cX10_applies 181 = .ok (.aload_n 0, 1) := by decide +kernel
theorem dX10_applies_182 : decode cX10_applies 182 = .ok (.iload_n 2, 1) := by decide +kernel
theorem dX10_applies_183 : decode cX10_applies 183 = .ok (.invokestatic 128, 3) := by decide +kernel
theorem dX10_applies_186 : decode cX10_applies 186 = .ok (.iload_n 3, 1) := by decide +kernel
theorem dX10_applies_187 : decode cX10_applies 187 = .ok (.invokestatic 128, 3) := by decide +kernel
theorem dX10_applies_190 : decode cX10_applies 190 = .ok (.bipush 14, 2) := by decide +kernel
theorem dX10_applies_192 : decode cX10_applies 192 = .ok (.bipush 80, 2) := by decide +kernel
theorem dX10_applies_194 : decode cX10_applies 194 = .ok (.invokevirtual 131, 3) := by decide +kernel
theorem dX10_applies_197 : decode cX10_applies 197 = .ok (.aload_n 0, 1) := by decide +kernel
theorem dX10_applies_198 : decode cX10_applies 198 = .ok (.iload_n 3, 1) := by decide +kernel
theorem dX10_applies_199 : decode cX10_applies 199 = .ok (.invokestatic 128, 3) := by decide +kernel
theorem dX10_applies_202 : decode cX10_applies 202 = .ok (.iconst 1, 1) := by decide +kernel
theorem dX10_applies_203 : decode cX10_applies 203 = .ok (.iadd, 1) := by decide +kernel
theorem dX10_applies_204 : decode cX10_applies 204 = .ok (.iload_n 2, 1) := by decide +kernel
theorem dX10_applies_205 : decode cX10_applies 205 = .ok (.invokestatic 128, 3) := by decide +kernel
theorem dX10_applies_208 : decode cX10_applies 208 = .ok (.iconst (-1), 1) := by decide +kernel
theorem dX10_applies_209 : decode cX10_applies 209 = .ok (.sipush 3001, 3) := by decide +kernel
theorem dX10_applies_212 : decode cX10_applies 212 = .ok (.invokevirtual 131, 3) := by decide +kernel
theorem dX10_applies_215 : decode cX10_applies 215 = .ok (.goto 95, 3) := by decide +kernel
theorem dX10_applies_218 : decode cX10_applies 218 = .ok (.aload_n 0, 1) := by decide +kernel
theorem dX10_applies_219 : decode cX10_applies 219 = .ok (.iload_n 1, 1) := by decide +kernel
theorem dX10_applies_220 : decode cX10_applies 220 = .ok (.invokestatic 138, 3) := by decide +kernel
theorem dX10_applies_223 : decode cX10_applies 223 = .ok (.iload 4, 2) := by decide +kernel
theorem dX10_applies_225 : decode cX10_applies 225 = .ok (.aload_n 0, 1) := by decide +kernel
theorem dX10_applies_226 : decode cX10_applies 226 = .ok (.iload_n 1, 1) := by decide +kernel
theorem dX10_applies_227 : decode cX10_applies 227 = .ok (.iconst 4, 1) := by decide +kernel
theorem dX10_applies_228 : decode cX10_applies 228 = .ok (.invokevirtual 76, 3) := by decide +kernel
theorem dX10_applies_231 : decode cX10_applies 231 = .ok (.invokevirtual 135, 3) := by decide +kernel
theorem dX10_applies_234 : decode cX10_applies 234 = .ok (.aload_n 0, 1) := by decide +kernel
theorem dX10_applies_235 : decode cX10_applies 235 = .ok (.iload_n 2, 1) := by decide +kernel
theorem dX10_applies_236 : decode cX10_applies 236 = .ok (.iload_n 1, 1) := by decide +kernel
theorem dX10_applies_237 : decode cX10_applies 237 = .ok (.invokestatic 138, 3) := by decide +kernel
theorem dX10_applies_240 : decode cX10_applies 240 = .ok (.invokevirtual 141, 3) := by decide +kernel
theorem dX10_applies_243 : decode cX10_applies 243 = .ok (.aload_n 0, 1) := by decide +kernel
theorem dX10_applies_244 : decode cX10_applies 244 = .ok (.iload_n 3, 1) := by decide +kernel
theorem dX10_applies_245 : decode cX10_applies 245 = .ok (.iload_n 1, 1) := by decide +kernel
theorem dX10_applies_246 : decode cX10_applies 246 = .ok (.invokestatic 138, 3) := by decide +kernel
theorem dX10_applies_249 : decode cX10_applies 249 = .ok (.invokevirtual 141, 3) := by decide +kernel
theorem dX10_applies_252 : decode cX10_applies 252 = .ok (.goto 58, 3) := by decide +kernel
theorem dX10_applies_255 : decode cX10_applies 255 = .ok (.aload_n 0, 1) := by decide +kernel
theorem dX10_applies_256 : decode cX10_applies 256 = .ok (.iconst 2, 1) := by decide +kernel
theorem dX10_applies_257 : decode cX10_applies 257 = .ok (.iload_n 2, 1) := by decide +kernel
theorem dX10_applies_258 : decode cX10_applies 258 = .ok (.invokestatic 128, 3) := by decide +kernel
theorem dX10_applies_261 : decode cX10_applies 261 = .ok (.imul, 1) := by decide +kernel
theorem dX10_applies_262 : decode cX10_applies 262 = .ok (.iconst 1, 1) := by decide +kernel
theorem dX10_applies_263 : decode cX10_applies 263 = .ok (.iadd, 1) := by decide +kernel
theorem dX10_applies_264 : decode cX10_applies 264 = .ok (.iload 4, 2) := by decide +kernel
theorem dX10_applies_266 : decode cX10_applies 266 = .ok (.bipush (-5), 2) := by decide +kernel
theorem dX10_applies_268 : decode cX10_applies 268 = .ok (.invokevirtual 124, 3) := by decide +kernel
theorem dX10_applies_271 : decode cX10_applies 271 = .ok (.aload_n 0, 1) := by decide +kernel
theorem dX10_applies_272 : decode cX10_applies 272 = .ok (.iconst 2, 1) := by decide +kernel
theorem dX10_applies_273 : decode cX10_applies 273 = .ok (.iload_n 2, 1) := by decide +kernel
theorem dX10_applies_274 : decode cX10_applies 274 = .ok (.invokestatic 128, 3) := by decide +kernel
theorem dX10_applies_277 : decode cX10_applies 277 = .ok (.iconst 1, 1) := by decide +kernel
theorem dX10_applies_278 : decode cX10_applies 278 = .ok (.iadd, 1) := by decide +kernel
theorem dX10_applies_279 : decode cX10_applies 279 = .ok (.imul, 1) := by decide +kernel
theorem dX10_applies_280 : decode cX10_applies 280 = .ok (.iload 4, 2) := by decide +kernel
theorem dX10_applies_282 : decode cX10_applies 282 = .ok (.bipush (-5), 2) := by decide +kernel
theorem dX10_applies_284 : decode cX10_applies 284 = .ok (.invokevirtual 124, 3) := by decide +kernel
theorem dX10_applies_287 : decode cX10_applies 287 = .ok (.goto 23, 3) := by decide +kernel
theorem dX10_applies_290 : decode cX10_applies 290 = .ok (.aload_n 0, 1) := by decide +kernel
theorem dX10_applies_291 : decode cX10_applies 291 = .ok (.iload_n 3, 1) := by decide +kernel
theorem dX10_applies_292 : decode cX10_applies 292 = .ok (.invokestatic 128, 3) := by decide +kernel
theorem dX10_applies_295 : decode cX10_applies 295 = .ok (.iload_n 2, 1) := by decide +kernel
theorem dX10_applies_296 : decode cX10_applies 296 = .ok (.invokestatic 128, 3) := by decide +kernel
theorem dX10_applies_299 : decode cX10_applies 299 = .ok (.iload 4, 2) := by decide +kernel
theorem dX10_applies_301 : decode cX10_applies 301 = .ok (.sipush 3001, 3) := by decide +kernel
theorem dX10_applies_304 : decode cX10_applies 304 = .ok (.invokevirtual 131, 3) := by decide +kernel
theorem dX10_applies_307 : decode cX10_applies 307 = .ok (.goto 3, 3) := by decide +kernel
theorem dX10_applies_310 : decode cX10_applies 310 = .ok (.return_, 1) := by decide +kernel
theorem dX10_works_0 : decode cX10_works 0 = .ok (.aload_n 0, 1) := by decide +kernel
theorem dX10_works_1 : decode cX10_works 1 = .ok (.invokevirtual 144, 3) := by decide +kernel
theorem dX10_works_4 : decode cX10_works 4 = .ok (.aload_n 0, 1) := by decide +kernel
theorem dX10_works_5 : decode cX10_works 5 = .ok (.invokevirtual 147, 3) := by decide +kernel
theorem dX10_works_8 : decode cX10_works 8 = .ok (.aload_n 0, 1) := by decide +kernel
theorem dX10_works_9 : decode cX10_works 9 = .ok (.iconst 0, 1) := by decide +kernel
theorem dX10_works_10 : decode cX10_works 10 = .ok (.putfield 96, 3) := by decide +kernel
theorem dX10_works_13 : decode cX10_works 13 = .ok (.aload_n 0, 1) := by decide +kernel
theorem dX10_works_14 : decode cX10_works 14 = .ok (.bipush (-5), 2) := by decide +kernel
theorem dX10_works_16 : decode cX10_works 16 = .ok (.putfield 100, 3) := by decide +kernel
theorem dX10_works_19 : decode cX10_works 19 = .ok (.aload_n 0, 1) := by decide +kernel
theorem dX10_works_20 : decode cX10_works 20 = .ok (.iconst 0, 1) := by decide +kernel
theorem dX10_works_21 : decode cX10_works 21 = .ok (.putfield 150, 3) := by decide +kernel
theorem dX10_works_24 : decode cX10_works 24 = .ok (.iconst 0, 1) := by decide +kernel
theorem dX10_works_25 : decode cX10_works 25 = .ok (.istore_n 1, 1) := by decide +kernel
theorem dX10_works_26 : decode cX10_works 26 = .ok (.iload_n 1, 1) := by decide +kernel
theorem dX10_works_27 : decode cX10_works 27 = .ok (.sipush 240, 3) := by decide +kernel
theorem dX10_works_30 : decode cX10_works 30 = .ok (.if_icmp .ge 44, 3) := by decide +kernel
theorem dX10_works_33 : decode cX10_works 33 = .ok (.aload_n 0, 1) := by decide +kernel
theorem dX10_works_34 : decode cX10_works 34 = .ok (.getfield 39, 3) := by decide +kernel
theorem dX10_works_37 : decode cX10_works 37 = .ok (.iload_n 1, 1) := by decide +kernel
theorem dX10_works_38 : decode cX10_works 38 = .ok (.iload_n 1, 1) := by decide +kernel
theorem dX10_works_39 : decode cX10_works 39 = .ok (.iconst 2, 1) := by decide +kernel
theorem dX10_works_40 : decode cX10_works 40 = .ok (.irem, 1) := by decide +kernel
theorem dX10_works_41 : decode cX10_works 41 = .ok (.ifCond .ne 7, 3) := by decide +kernel
theorem dX10_works_44 : decode cX10_works 44 = .ok (.iconst 0, 1) := by decide +kernel
theorem dX10_works_45 : decode cX10_works 45 = .ok (.goto 6, 3) := by decide +kernel
theorem dX10_works_48 : decode cX10_works 48 = .ok (.sipush 3000, 3) := by decide +kernel
theorem dX10_works_51 : decode cX10_works 51 = .ok (.iastore, 1) := by decide +kernel
theorem dX10_works_52 : decode cX10_works 52 = .ok (.aload_n 0, 1) := by decide +kernel
theorem dX10_works_53 : decode cX10_works 53 = .ok (.getfield 42, 3) := by decide +kernel
theorem dX10_works_56 : decode cX10_works 56 = .ok (.iload_n 1, 1) := by decide +kernel
theorem dX10_works_57 : decode cX10_works 57 = .ok (.bipush (-5), 2) := by decide +kernel
theorem dX10_works_59 : decode cX10_works 59 = .ok (.iastore, 1) := by decide +kernel
theorem dX10_works_60 : decode cX10_works 60 = .ok (.aload_n 0, 1) := by decide +kernel
theorem dX10_works_61 : decode cX10_works 61 = .ok (.getfield 45, 3) := by decide +kernel
theorem dX10_works_64 : decode cX10_works 64 = .ok (.iload_n 1, 1) := by decide +kernel
theorem dX10_works_65 : decode cX10_works 65 = .ok (.bipush (-5), 2) := by decide +kernel
theorem dX10_works_67 : decode cX10_works 67 = .ok (.iastore, 1) := by decide +kernel
theorem dX10_works_68 : decode cX10_works 68 = .ok (.iinc 1 1, 3) := by decide +kernel
theorem dX10_works_71 : decode cX10_works 71 = .ok (.goto (-45), 3) := by decide +kernel
theorem dX10_works_74 : decode cX10_works 74 = .ok (.aload_n 0, 1) := by decide +kernel
theorem dX10_works_75 : decode cX10_works 75 = .ok (.invokevirtual 153, 3) := by decide +kernel
theorem dX10_works_78 : decode cX10_works 78 = .ok (.aload_n 0, 1) := by decide +kernel
theorem dX10_works_79 : decode cX10_works 79 = .ok (.getfield 96, 3) := by decide +kernel
theorem dX10_works_82 : decode cX10_works 82 = .ok (.ifCond .eq 4, 3) := by decide +kernel
theorem dX10_works_85 : decode cX10_works 85 = .ok (.return_, 1) := by decide +kernel
theorem dX10_works_86 : decode cX10_works 86 = .ok (.aload_n 0, 1) := by decide +kernel
theorem dX10_works_87 : decode cX10_works 87 = .ok (.iconst 1, 1) := by decide +kernel
theorem dX10_works_88 : decode cX10_works 88 = .ok (.putfield 120, 3) := by decide +kernel
theorem dX10_works_91 : decode cX10_works 91 = .ok (.aload_n 0, 1) := by decide +kernel
theorem dX10_works_92 : decode cX10_works 92 = .ok (.getfield 120, 3) := by decide +kernel
theorem dX10_works_95 : decode cX10_works 95 = .ok (.ifCond .eq 112, 3) := by decide +kernel
theorem dX10_works_98 : decode cX10_works 98 = .ok (.aload_n 0, 1) := by decide +kernel
theorem dX10_works_99 : decode cX10_works 99 = .ok (.getfield 96, 3) := by decide +kernel
theorem dX10_works_102 : decode cX10_works 102 = .ok (.ifCond .ne 105, 3) := by decide +kernel
theorem dX10_works_105 : decode cX10_works 105 = .ok (.aload_n 0, 1) := by decide +kernel
theorem dX10_works_106 : decode cX10_works 106 = .ok (.iconst 0, 1) := by decide +kernel
theorem dX10_works_107 : decode cX10_works 107 = .ok (.putfield 120, 3) := by decide +kernel
theorem dX10_works_110 : decode cX10_works 110 = .ok (.aload_n 0, 1) := by decide +kernel
theorem dX10_works_111 : decode cX10_works 111 = .ok (.dup, 1) := by decide +kernel
theorem dX10_works_112 : decode cX10_works 112 = .ok (.getfield 150, 3) := by decide +kernel
theorem dX10_works_115 : decode cX10_works 115 = .ok (.iconst 1, 1) := by decide +kernel
theorem dX10_works_116 : decode cX10_works 116 = .ok (.iadd, 1) := by decide +kernel
theorem dX10_works_117 : decode cX10_works 117 = .ok (.putfield 150, 3) := by decide +kernel
theorem dX10_works_120 : decode cX10_works 120 = .ok (.iconst 0, 1) := by decide +kernel
theorem dX10_works_121 : decode cX10_works 121 = .ok (.istore_n 1, 1) := by decide +kernel
theorem dX10_works_122 : decode cX10_works 122 = .ok (.iload_n 1, 1) := by decide +kernel
theorem dX10_works_123 : decode cX10_works 123 = .ok (.aload_n 0, 1) := by decide +kernel
theorem dX10_works_124 : decode cX10_works 124 = .ok (.getfield 11, 3) := by decide +kernel
theorem dX10_works_127 : decode cX10_works 127 = .ok (.iconst 0, 1) := by decide +kernel
theorem dX10_works_128 : decode cX10_works 128 = .ok (.iaload, 1) := by decide +kernel
theorem dX10_works_129 : decode cX10_works 129 = .ok (.if_icmp .ge 42, 3) := by decide +kernel
theorem dX10_works_132 : decode cX10_works 132 = .ok (.aload_n 0, 1) := by decide +kernel
theorem dX10_works_133 : decode cX10_works 133 = .ok (.bipush 100, 2) := by decide +kernel
theorem dX10_works_135 : decode cX10_works 135 = .ok (.iload_n 1, 1) := by decide +kernel
theorem dX10_works_136 : decode cX10_works 136 = .ok (.iadd, 1) := by decide +kernel
theorem dX10_works_137 : decode cX10_works 137 = .ok (.putfield 117, 3) := by decide +kernel
theorem dX10_works_140 : decode cX10_works 140 = .ok (.aload_n 0, 1) := by decide +kernel
theorem dX10_works_141 : decode cX10_works 141 = .ok (.iload_n 1, 1) := by decide +kernel
theorem dX10_works_142 : decode cX10_works 142 = .ok (.invokevirtual 103, 3) := by decide +kernel
theorem dX10_works_145 : decode cX10_works 145 = .ok (.ifCond .eq 20, 3) := by decide +kernel
theorem dX10_works_148 : decode cX10_works 148 = .ok (.aload_n 0, 1) := by decide +kernel
theorem dX10_works_149 : decode cX10_works 149 = .ok (.iload_n 1, 1) := by decide +kernel
theorem dX10_works_150 : decode cX10_works 150 = .ok (.invokestatic 128, 3) := by decide +kernel
theorem dX10_works_153 : decode cX10_works 153 = .ok (.iconst 1, 1) := by decide +kernel
theorem dX10_works_154 : decode cX10_works 154 = .ok (.iadd, 1) := by decide +kernel
theorem dX10_works_155 : decode cX10_works 155 = .ok (.iload_n 1, 1) := by decide +kernel
theorem dX10_works_156 : decode cX10_works 156 = .ok (.invokestatic 128, 3) := by decide +kernel
theorem dX10_works_159 : decode cX10_works 159 = .ok (.iconst 0, 1) := by decide +kernel
theorem dX10_works_160 : decode cX10_works 160 = .ok (.bipush 110, 2) := by decide +kernel
theorem dX10_works_162 : decode cX10_works 162 = .ok (.invokevirtual 131, 3) := by decide +kernel
theorem dX10_works_165 : decode cX10_works 165 = .ok (.iinc 1 1, 3) := by decide +kernel
theorem dX10_works_168 : decode cX10_works 168 = .ok (.goto (-46), 3) := by decide +kernel
theorem dX10_works_171 : decode cX10_works 171 = .ok (.iconst 0, 1) := by decide +kernel
theorem dX10_works_172 : decode cX10_works 172 = .ok (.istore_n 1, 1) := by decide +kernel
theorem dX10_works_173 : decode cX10_works 173 = .ok (.iload_n 1, 1) := by decide +kernel
theorem dX10_works_174 : decode cX10_works 174 = .ok (.aload_n 0, 1) := by decide +kernel
theorem dX10_works_175 : decode cX10_works 175 = .ok (.getfield 11, 3) := by decide +kernel
theorem dX10_works_178 : decode cX10_works 178 = .ok (.iconst 1, 1) := by decide +kernel
theorem dX10_works_179 : decode cX10_works 179 = .ok (.iaload, 1) := by decide +kernel
theorem dX10_works_180 : decode cX10_works 180 = .ok (.if_icmp .ge 24, 3) := by decide +kernel
theorem dX10_works_183 : decode cX10_works 183 = .ok (.aload_n 0, 1) := by decide +kernel
theorem dX10_works_184 : decode cX10_works 184 = .ok (.iload_n 1, 1) := by decide +kernel
theorem dX10_works_185 : decode cX10_works 185 = .ok (.iconst 5, 1) := by decide +kernel
theorem dX10_works_186 : decode cX10_works 186 = .ok (.invokevirtual 76, 3) := by decide +kernel
theorem dX10_works_189 : decode cX10_works 189 = .ok (.iconst 1, 1) := by decide +kernel
theorem dX10_works_190 : decode cX10_works 190 = .ok (.if_icmp .ne 8, 3) := by decide +kernel
theorem dX10_works_193 : decode cX10_works 193 = .ok (.aload_n 0, 1) := by decide +kernel
theorem dX10_works_194 : decode cX10_works 194 = .ok (.iload_n 1, 1) := by decide +kernel
theorem dX10_works_195 : decode cX10_works 195 = .ok (.invokevirtual 156, 3) := by decide +kernel
theorem dX10_works_198 : decode cX10_works 198 = .ok (.iinc 1 1, 3) := by decide +kernel
theorem dX10_works_201 : decode cX10_works 201 = .ok (.goto (-28), 3) := by decide +kernel
theorem dX10_works_204 : decode cX10_works 204 = .ok (.goto (-113), 3) := by decide +kernel
theorem dX10_works_207 : decode cX10_works 207 = .ok (.return_, 1) := by decide +kernel
theorem dX10_feed_0 : decode cX10_feed 0 = .ok (.iload_n 1, 1) := by decide +kernel
theorem dX10_feed_1 : decode cX10_feed 1 = .ok (.iconst 1, 1) := by decide +kernel
theorem dX10_feed_2 : decode cX10_feed 2 = .ok (.bipush 127, 2) := by decide +kernel
theorem dX10_feed_4 : decode cX10_feed 4 = .ok (.invokestatic 72, 3) := by decide +kernel
theorem dX10_feed_7 : decode cX10_feed 7 = .ok (.ifCond .ne 6, 3) := by decide +kernel
theorem dX10_feed_10 : decode cX10_feed 10 = .ok (.bipush (-2), 2) := by decide +kernel
theorem dX10_feed_12 : decode cX10_feed 12 = .ok (.ireturn, 1) := by decide +kernel
theorem dX10_feed_13 : decode cX10_feed 13 = .ok (.aload_n 0, 1) := by decide +kernel
theorem dX10_feed_14 : decode cX10_feed 14 = .ok (.getfield 160, 3) := by decide +kernel
theorem dX10_feed_17 : decode cX10_feed 17 = .ok (.bipush 60, 2) := by decide +kernel
theorem dX10_feed_19 : decode cX10_feed 19 = .ok (.if_icmp .ne 6, 3) := by decide +kernel
theorem dX10_feed_22 : decode cX10_feed 22 = .ok (.bipush (-4), 2) := by decide +kernel
theorem dX10_feed_24 : decode cX10_feed 24 = .ok (.ireturn, 1) := by decide +kernel
theorem dX10_feed_25 : decode cX10_feed 25 = .ok (.aload_n 0, 1) := by decide +kernel
theorem dX10_feed_26 : decode cX10_feed 26 = .ok (.getfield 18, 3) := by decide +kernel
theorem dX10_feed_29 : decode cX10_feed 29 = .ok (.aload_n 0, 1) := by decide +kernel
theorem dX10_feed_30 : decode cX10_feed 30 = .ok (.getfield 160, 3) := by decide +kernel
theorem dX10_feed_33 : decode cX10_feed 33 = .ok (.iload_n 1, 1) := by decide +kernel
theorem dX10_feed_34 : decode cX10_feed 34 = .ok (.iastore, 1) := by decide +kernel
theorem dX10_feed_35 : decode cX10_feed 35 = .ok (.aload_n 0, 1) := by decide +kernel
theorem dX10_feed_36 : decode cX10_feed 36 = .ok (.dup, 1) := by decide +kernel
theorem dX10_feed_37 : decode cX10_feed 37 = .ok (.getfield 160, 3) := by decide +kernel
theorem dX10_feed_40 : decode cX10_feed 40 = .ok (.iconst 1, 1) := by decide +kernel
theorem dX10_feed_41 : decode cX10_feed 41 = .ok (.iadd, 1) := by decide +kernel
theorem dX10_feed_42 : decode cX10_feed 42 = .ok (.putfield 160, 3) := by decide +kernel
theorem dX10_feed_45 : decode cX10_feed 45 = .ok (.aload_n 0, 1) := by decide +kernel
theorem dX10_feed_46 : decode cX10_feed 46 = .ok (.getfield 160, 3) := by decide +kernel
theorem dX10_feed_49 : decode cX10_feed 49 = .ok (.ireturn, 1) := by decide +kernel
theorem dX10_clear_0 : decode cX10_clear 0 = .ok (.aload_n 0, 1) := by decide +kernel
theorem dX10_clear_1 : decode cX10_clear 1 = .ok (.getfield 160, 3) := by decide +kernel
theorem dX10_clear_4 : decode cX10_clear 4 = .ok (.istore_n 1, 1) := by decide +kernel
theorem dX10_clear_5 : decode cX10_clear 5 = .ok (.aload_n 0, 1) := by decide +kernel
theorem dX10_clear_6 : decode cX10_clear 6 = .ok (.iconst 0, 1) := by decide +kernel
theorem dX10_clear_7 : decode cX10_clear 7 = .ok (.putfield 160, 3) := by decide +kernel
theorem dX10_clear_10 : decode cX10_clear 10 = .ok (.iload_n 1, 1) := by decide +kernel
theorem dX10_clear_11 : decode cX10_clear 11 = .ok (.ireturn, 1) := by decide +kernel
theorem dX10_paper_0 : decode cX10_paper 0 = .ok (.iload_n 1, 1) := by decide +kernel
theorem dX10_paper_1 : decode cX10_paper 1 = .ok (.iconst 0, 1) := by decide +kernel
theorem dX10_paper_2 : decode cX10_paper 2 = .ok (.aload_n 0, 1) := by decide +kernel
theorem dX10_paper_3 : decode cX10_paper 3 = .ok (.getfield 163, 3) := by decide +kernel
theorem dX10_paper_6 : decode cX10_paper 6 = .ok (.iconst 1, 1) := by decide +kernel
theorem dX10_paper_7 : decode cX10_paper 7 = .ok (.isub, 1) := by decide +kernel
theorem dX10_paper_8 : decode cX10_paper 8 = .ok (.invokestatic 72, 3) := by decide +kernel
theorem dX10_paper_11 : decode cX10_paper 11 = .ok (.ifCond .eq 12, 3) := by decide +kernel
theorem dX10_paper_14 : decode cX10_paper 14 = .ok (.aload_n 0, 1) := by decide +kernel
theorem dX10_paper_15 : decode cX10_paper 15 = .ok (.getfield 21, 3) := by decide +kernel
theorem dX10_paper_18 : decode cX10_paper 18 = .ok (.iload_n 1, 1) := by decide +kernel
theorem dX10_paper_19 : decode cX10_paper 19 = .ok (.iaload, 1) := by decide +kernel
theorem dX10_paper_20 : decode cX10_paper 20 = .ok (.goto 4, 3) := by decide +kernel
theorem dX10_paper_23 : decode cX10_paper 23 = .ok (.iconst (-1), 1) := by decide +kernel
theorem dX10_paper_24 : decode cX10_paper 24 = .ok (.ireturn, 1) := by decide +kernel
theorem dX10_lettersOnTape_0 : decode cX10_lettersOnTape 0 = .ok (.iconst 0, 1) := by decide +kernel
theorem dX10_lettersOnTape_1 : decode cX10_lettersOnTape 1 = .ok (.istore_n 1, 1) := by decide +kernel
theorem dX10_lettersOnTape_2 : decode cX10_lettersOnTape 2 = .ok (.iload_n 1, 1) := by decide +kernel
theorem dX10_lettersOnTape_3 : decode cX10_lettersOnTape 3 = .ok (.aload_n 0, 1) := by decide +kernel
theorem dX10_lettersOnTape_4 : decode cX10_lettersOnTape 4 = .ok (.getfield 160, 3) := by decide +kernel
theorem dX10_lettersOnTape_7 : decode cX10_lettersOnTape 7 = .ok (.if_icmp .ge 25, 3) := by decide +kernel
theorem dX10_lettersOnTape_10 : decode cX10_lettersOnTape 10 = .ok (.aload_n 0, 1) := by decide +kernel
theorem dX10_lettersOnTape_11 : decode cX10_lettersOnTape 11 = .ok (.getfield 18, 3) := by decide +kernel
theorem dX10_lettersOnTape_14 : decode cX10_lettersOnTape 14 = .ok (.iload_n 1, 1) := by decide +kernel
theorem dX10_lettersOnTape_15 : decode cX10_lettersOnTape 15 = .ok (.iaload, 1) := by decide +kernel
theorem dX10_lettersOnTape_16 : decode cX10_lettersOnTape 16 = .ok (.bipush 97, 2) := by decide +kernel
theorem dX10_lettersOnTape_18 : decode cX10_lettersOnTape 18 = .ok (.bipush 122, 2) := by decide +kernel
theorem dX10_lettersOnTape_20 : decode cX10_lettersOnTape 20 = .ok (.invokestatic 72, 3) := by decide +kernel
theorem dX10_lettersOnTape_23 : decode cX10_lettersOnTape 23 = .ok (.ifCond .eq 9, 3) := by decide +kernel
theorem dX10_lettersOnTape_26 : decode cX10_lettersOnTape 26 = .ok (.iinc 1 1, 3) := by decide +kernel
theorem dX10_lettersOnTape_29 : decode cX10_lettersOnTape 29 = .ok (.goto (-27), 3) := by decide +kernel
theorem dX10_lettersOnTape_32 : decode cX10_lettersOnTape 32 = .ok (.iload_n 1, 1) := by decide +kernel
theorem dX10_lettersOnTape_33 : decode cX10_lettersOnTape 33 = .ok (.ireturn, 1) := by decide +kernel
theorem dX10_person_0 : decode cX10_person 0 = .ok (.iload_n 1, 1) := by decide +kernel
theorem dX10_person_1 : decode cX10_person 1 = .ok (.iconst 0, 1) := by decide +kernel
theorem dX10_person_2 : decode cX10_person 2 = .ok (.iconst 2, 1) := by decide +kernel
theorem dX10_person_3 : decode cX10_person 3 = .ok (.invokestatic 72, 3) := by decide +kernel
theorem dX10_person_6 : decode cX10_person 6 = .ok (.ifCond .ne 5, 3) := by decide +kernel
theorem dX10_person_9 : decode cX10_person 9 = .ok (.iconst (-1), 1) := by decide +kernel
theorem dX10_person_10 : decode cX10_person 10 = .ok (.ireturn, 1) := by decide +kernel
theorem dX10_person_11 : decode cX10_person 11 = .ok (.aload_n 0, 1) := by decide +kernel
theorem dX10_person_12 : decode cX10_person 12 = .ok (.getfield 11, 3) := by decide +kernel
theorem dX10_person_15 : decode cX10_person 15 = .ok (.iconst 0, 1) := by decide +kernel
theorem dX10_person_16 : decode cX10_person 16 = .ok (.iaload, 1) := by decide +kernel
theorem dX10_person_17 : decode cX10_person 17 = .ok (.bipush 30, 2) := by decide +kernel
theorem dX10_person_19 : decode cX10_person 19 = .ok (.if_icmp .ne 6, 3) := by decide +kernel
theorem dX10_person_22 : decode cX10_person 22 = .ok (.bipush (-4), 2) := by decide +kernel
theorem dX10_person_24 : decode cX10_person 24 = .ok (.ireturn, 1) := by decide +kernel
theorem dX10_person_25 : decode cX10_person 25 = .ok (.aload_n 0, 1) := by decide +kernel
theorem dX10_person_26 : decode cX10_person 26 = .ok (.invokevirtual 166, 3) := by decide +kernel
theorem dX10_person_29 : decode cX10_person 29 = .ok (.istore_n 2, 1) := by decide +kernel
theorem dX10_person_30 : decode cX10_person 30 = .ok (.aload_n 0, 1) := by decide +kernel
theorem dX10_person_31 : decode cX10_person 31 = .ok (.getfield 160, 3) := by decide +kernel
theorem dX10_person_34 : decode cX10_person 34 = .ok (.istore_n 3, 1) := by decide +kernel
theorem dX10_person_35 : decode cX10_person 35 = .ok (.aload_n 0, 1) := by decide +kernel
theorem dX10_person_36 : decode cX10_person 36 = .ok (.iconst 0, 1) := by decide +kernel
theorem dX10_person_37 : decode cX10_person 37 = .ok (.putfield 160, 3) := by decide +kernel
theorem dX10_person_40 : decode cX10_person 40 = .ok (.iload_n 2, 1) := by decide +kernel
theorem dX10_person_41 : decode cX10_person 41 = .ok (.bipush 7, 2) := by decide +kernel
theorem dX10_person_43 : decode cX10_person 43 = .ok (.if_icmp .le 6, 3) := by decide +kernel
theorem dX10_person_46 : decode cX10_person 46 = .ok (.bipush (-107), 2) := by decide +kernel
theorem dX10_person_48 : decode cX10_person 48 = .ok (.ireturn, 1) := by decide +kernel
theorem dX10_person_49 : decode cX10_person 49 = .ok (.iload_n 2, 1) := by decide +kernel
theorem dX10_person_50 : decode cX10_person 50 = .ok (.ifCond .eq 8, 3) := by decide +kernel
theorem dX10_person_53 : decode cX10_person 53 = .ok (.iload_n 2, 1) := by decide +kernel
theorem dX10_person_54 : decode cX10_person 54 = .ok (.iload_n 3, 1) := by decide +kernel
theorem dX10_person_55 : decode cX10_person 55 = .ok (.if_icmp .ge 8, 3) := by decide +kernel
theorem dX10_person_58 : decode cX10_person 58 = .ok (.bipush (-100), 2) := by decide +kernel
theorem dX10_person_60 : decode cX10_person 60 = .ok (.iload_n 2, 1) := by decide +kernel
theorem dX10_person_61 : decode cX10_person 61 = .ok (.isub, 1) := by decide +kernel
theorem dX10_person_62 : decode cX10_person 62 = .ok (.ireturn, 1) := by decide +kernel
theorem dX10_person_63 : decode cX10_person 63 = .ok (.aload_n 0, 1) := by decide +kernel
theorem dX10_person_64 : decode cX10_person 64 = .ok (.getfield 11, 3) := by decide +kernel
theorem dX10_person_67 : decode cX10_person 67 = .ok (.iconst 0, 1) := by decide +kernel
theorem dX10_person_68 : decode cX10_person 68 = .ok (.iaload, 1) := by decide +kernel
theorem dX10_person_69 : decode cX10_person 69 = .ok (.istore 4, 2) := by decide +kernel
theorem dX10_person_71 : decode cX10_person 71 = .ok (.iconst 0, 1) := by decide +kernel
theorem dX10_person_72 : decode cX10_person 72 = .ok (.istore 5, 2) := by decide +kernel
theorem dX10_person_74 : decode cX10_person 74 = .ok (.iload 5, 2) := by decide +kernel
theorem dX10_person_76 : decode cX10_person 76 = .ok (.bipush 7, 2) := by decide +kernel
theorem dX10_person_78 : decode cX10_person 78 = .ok (.if_icmp .ge 41, 3) := by decide +kernel
theorem dX10_person_81 : decode cX10_person 81 = .ok (.aload_n 0, 1) := by decide +kernel
theorem dX10_person_82 : decode cX10_person 82 = .ok (.getfield 11, 3) := by decide +kernel
theorem dX10_person_85 : decode cX10_person 85 = .ok (.iconst 2, 1) := by decide +kernel
theorem dX10_person_86 : decode cX10_person 86 = .ok (.bipush 8, 2) := by decide +kernel
theorem dX10_person_88 : decode cX10_person 88 = .ok (.iload 4, 2) := by decide +kernel
theorem dX10_person_90 : decode cX10_person 90 = .ok (.imul, 1) := by decide +kernel
theorem dX10_person_91 : decode cX10_person 91 = .ok (.iadd, 1) := by decide +kernel
theorem dX10_person_92 : decode cX10_person 92 = .ok (.iload 5, 2) := by decide +kernel
theorem dX10_person_94 : decode cX10_person 94 = .ok (.iadd, 1) := by decide +kernel
theorem dX10_person_95 : decode cX10_person 95 = .ok (.iload 5, 2) := by decide +kernel
theorem dX10_person_97 : decode cX10_person 97 = .ok (.iload_n 2, 1) := by decide +kernel
theorem dX10_person_98 : decode cX10_person 98 = .ok (.if_icmp .ge 13, 3) := by decide +kernel
theorem dX10_person_101 : decode cX10_person 101 = .ok (.aload_n 0, 1) := by decide +kernel
theorem dX10_person_102 : decode cX10_person 102 = .ok (.getfield 18, 3) := by decide +kernel
theorem dX10_person_105 : decode cX10_person 105 = .ok (.iload 5, 2) := by decide +kernel
theorem dX10_person_107 : decode cX10_person 107 = .ok (.iaload, 1) := by decide +kernel
theorem dX10_person_108 : decode cX10_person 108 = .ok (.goto 4, 3) := by decide +kernel
theorem dX10_person_111 : decode cX10_person 111 = .ok (.iconst 0, 1) := by decide +kernel
theorem dX10_person_112 : decode cX10_person 112 = .ok (.iastore, 1) := by decide +kernel
theorem dX10_person_113 : decode cX10_person 113 = .ok (.iinc 5 1, 3) := by decide +kernel
theorem dX10_person_116 : decode cX10_person 116 = .ok (.goto (-42), 3) := by decide +kernel
theorem dX10_person_119 : decode cX10_person 119 = .ok (.aload_n 0, 1) := by decide +kernel
theorem dX10_person_120 : decode cX10_person 120 = .ok (.getfield 11, 3) := by decide +kernel
theorem dX10_person_123 : decode cX10_person 123 = .ok (.iconst 2, 1) := by decide +kernel
theorem dX10_person_124 : decode cX10_person 124 = .ok (.bipush 8, 2) := by decide +kernel
theorem dX10_person_126 : decode cX10_person 126 = .ok (.iload 4, 2) := by decide +kernel
theorem dX10_person_128 : decode cX10_person 128 = .ok (.imul, 1) := by decide +kernel
theorem dX10_person_129 : decode cX10_person 129 = .ok (.iadd, 1) := by decide +kernel
theorem dX10_person_130 : decode cX10_person 130 = .ok (.bipush 7, 2) := by decide +kernel
theorem dX10_person_132 : decode cX10_person 132 = .ok (.iadd, 1) := by decide +kernel
theorem dX10_person_133 : decode cX10_person 133 = .ok (.iload_n 1, 1) := by decide +kernel
theorem dX10_person_134 : decode cX10_person 134 = .ok (.iastore, 1) := by decide +kernel
theorem dX10_person_135 : decode cX10_person 135 = .ok (.aload_n 0, 1) := by decide +kernel
theorem dX10_person_136 : decode cX10_person 136 = .ok (.getfield 11, 3) := by decide +kernel
theorem dX10_person_139 : decode cX10_person 139 = .ok (.iconst 0, 1) := by decide +kernel
theorem dX10_person_140 : decode cX10_person 140 = .ok (.dup2, 1) := by decide +kernel
theorem dX10_person_141 : decode cX10_person 141 = .ok (.iaload, 1) := by decide +kernel
theorem dX10_person_142 : decode cX10_person 142 = .ok (.iconst 1, 1) := by decide +kernel
theorem dX10_person_143 : decode cX10_person 143 = .ok (.iadd, 1) := by decide +kernel
theorem dX10_person_144 : decode cX10_person 144 = .ok (.iastore, 1) := by decide +kernel
theorem dX10_person_145 : decode cX10_person 145 = .ok (.aload_n 0, 1) := by decide +kernel
theorem dX10_person_146 : decode cX10_person 146 = .ok (.invokevirtual 69, 3) := by decide +kernel
theorem dX10_person_149 : decode cX10_person 149 = .ok (.iload 4, 2) := by decide +kernel
theorem dX10_person_151 : decode cX10_person 151 = .ok (.ireturn, 1) := by decide +kernel
theorem dX10_sex_0 : decode cX10_sex 0 = .ok (.aload_n 0, 1) := by decide +kernel
theorem dX10_sex_1 : decode cX10_sex 1 = .ok (.iload_n 1, 1) := by decide +kernel
theorem dX10_sex_2 : decode cX10_sex 2 = .ok (.invokevirtual 170, 3) := by decide +kernel
theorem dX10_sex_5 : decode cX10_sex 5 = .ok (.ifCond .eq 12, 3) := by decide +kernel
theorem dX10_sex_8 : decode cX10_sex 8 = .ok (.iload_n 2, 1) := by decide +kernel
theorem dX10_sex_9 : decode cX10_sex 9 = .ok (.iconst 0, 1) := by decide +kernel
theorem dX10_sex_10 : decode cX10_sex 10 = .ok (.iconst 2, 1) := by decide +kernel
theorem dX10_sex_11 : decode cX10_sex 11 = .ok (.invokestatic 72, 3) := by decide +kernel
theorem dX10_sex_14 : decode cX10_sex 14 = .ok (.ifCond .ne 5, 3) := by decide +kernel
theorem dX10_sex_17 : decode cX10_sex 17 = .ok (.iconst (-1), 1) := by decide +kernel
theorem dX10_sex_18 : decode cX10_sex 18 = .ok (.ireturn, 1) := by decide +kernel
theorem dX10_sex_19 : decode cX10_sex 19 = .ok (.aload_n 0, 1) := by decide +kernel
theorem dX10_sex_20 : decode cX10_sex 20 = .ok (.iload_n 1, 1) := by decide +kernel
theorem dX10_sex_21 : decode cX10_sex 21 = .ok (.invokevirtual 92, 3) := by decide +kernel
theorem dX10_sex_24 : decode cX10_sex 24 = .ok (.istore_n 3, 1) := by decide +kernel
theorem dX10_sex_25 : decode cX10_sex 25 = .ok (.aload_n 0, 1) := by decide +kernel
theorem dX10_sex_26 : decode cX10_sex 26 = .ok (.getfield 11, 3) := by decide +kernel
theorem dX10_sex_29 : decode cX10_sex 29 = .ok (.iconst 2, 1) := by decide +kernel
theorem dX10_sex_30 : decode cX10_sex 30 = .ok (.bipush 8, 2) := by decide +kernel
theorem dX10_sex_32 : decode cX10_sex 32 = .ok (.iload_n 1, 1) := by decide +kernel
theorem dX10_sex_33 : decode cX10_sex 33 = .ok (.imul, 1) := by decide +kernel
theorem dX10_sex_34 : decode cX10_sex 34 = .ok (.iadd, 1) := by decide +kernel
theorem dX10_sex_35 : decode cX10_sex 35 = .ok (.bipush 7, 2) := by decide +kernel
theorem dX10_sex_37 : decode cX10_sex 37 = .ok (.iadd, 1) := by decide +kernel
theorem dX10_sex_38 : decode cX10_sex 38 = .ok (.iload_n 2, 1) := by decide +kernel
theorem dX10_sex_39 : decode cX10_sex 39 = .ok (.iastore, 1) := by decide +kernel
theorem dX10_sex_40 : decode cX10_sex 40 = .ok (.aload_n 0, 1) := by decide +kernel
theorem dX10_sex_41 : decode cX10_sex 41 = .ok (.invokevirtual 69, 3) := by decide +kernel
theorem dX10_sex_44 : decode cX10_sex 44 = .ok (.iload_n 3, 1) := by decide +kernel
theorem dX10_sex_45 : decode cX10_sex 45 = .ok (.ireturn, 1) := by decide +kernel
theorem dX10_fails_0 : decode cX10_fails 0 = .ok (.aload_n 0, 1) := by decide +kernel
theorem dX10_fails_1 : decode cX10_fails 1 = .ok (.getfield 173, 3) := by decide +kernel
theorem dX10_fails_4 : decode cX10_fails 4 = .ok (.ifCond .ge 8, 3) := by decide +kernel
theorem dX10_fails_7 : decode cX10_fails 7 = .ok (.aload_n 0, 1) := by decide +kernel
theorem dX10_fails_8 : decode cX10_fails 8 = .ok (.iload_n 1, 1) := by decide +kernel
theorem dX10_fails_9 : decode cX10_fails 9 = .ok (.putfield 173, 3) := by decide +kernel
theorem dX10_fails_12 : decode cX10_fails 12 = .ok (.return_, 1) := by decide +kernel
theorem dX10_number_0 : decode cX10_number 0 = .ok (.aload_n 0, 1) := by decide +kernel
theorem dX10_number_1 : decode cX10_number 1 = .ok (.getfield 173, 3) := by decide +kernel
theorem dX10_number_4 : decode cX10_number 4 = .ok (.ifCond .ge 41, 3) := by decide +kernel
theorem dX10_number_7 : decode cX10_number 7 = .ok (.aload_n 0, 1) := by decide +kernel
theorem dX10_number_8 : decode cX10_number 8 = .ok (.getfield 176, 3) := by decide +kernel
theorem dX10_number_11 : decode cX10_number 11 = .ok (.aload_n 0, 1) := by decide +kernel
theorem dX10_number_12 : decode cX10_number 12 = .ok (.getfield 160, 3) := by decide +kernel
theorem dX10_number_15 : decode cX10_number 15 = .ok (.if_icmp .ge 30, 3) := by decide +kernel
theorem dX10_number_18 : decode cX10_number 18 = .ok (.aload_n 0, 1) := by decide +kernel
theorem dX10_number_19 : decode cX10_number 19 = .ok (.getfield 18, 3) := by decide +kernel
theorem dX10_number_22 : decode cX10_number 22 = .ok (.aload_n 0, 1) := by decide +kernel
theorem dX10_number_23 : decode cX10_number 23 = .ok (.getfield 176, 3) := by decide +kernel
theorem dX10_number_26 : decode cX10_number 26 = .ok (.iaload, 1) := by decide +kernel
theorem dX10_number_27 : decode cX10_number 27 = .ok (.bipush 32, 2) := by decide +kernel
theorem dX10_number_29 : decode cX10_number 29 = .ok (.if_icmp .ne 16, 3) := by decide +kernel
theorem dX10_number_32 : decode cX10_number 32 = .ok (.aload_n 0, 1) := by decide +kernel
theorem dX10_number_33 : decode cX10_number 33 = .ok (.dup, 1) := by decide +kernel
theorem dX10_number_34 : decode cX10_number 34 = .ok (.getfield 176, 3) := by decide +kernel
theorem dX10_number_37 : decode cX10_number 37 = .ok (.iconst 1, 1) := by decide +kernel
theorem dX10_number_38 : decode cX10_number 38 = .ok (.iadd, 1) := by decide +kernel
theorem dX10_number_39 : decode cX10_number 39 = .ok (.putfield 176, 3) := by decide +kernel
theorem dX10_number_42 : decode cX10_number 42 = .ok (.goto 11, 3) := by decide +kernel
theorem dX10_number_45 : decode cX10_number 45 = .ok (.aload_n 0, 1) := by decide +kernel
theorem dX10_number_46 : decode cX10_number 46 = .ok (.aload_n 0, 1) := by decide +kernel
theorem dX10_number_47 : decode cX10_number 47 = .ok (.getfield 176, 3) := by decide +kernel
theorem dX10_number_50 : decode cX10_number 50 = .ok (.invokevirtual 179, 3) := by decide +kernel
theorem dX10_number_53 : decode cX10_number 53 = .ok (.aload_n 0, 1) := by decide +kernel
theorem dX10_number_54 : decode cX10_number 54 = .ok (.getfield 176, 3) := by decide +kernel
theorem dX10_number_57 : decode cX10_number 57 = .ok (.istore 4, 2) := by decide +kernel
theorem dX10_number_59 : decode cX10_number 59 = .ok (.iconst 0, 1) := by decide +kernel
theorem dX10_number_60 : decode cX10_number 60 = .ok (.istore 5, 2) := by decide +kernel
theorem dX10_number_62 : decode cX10_number 62 = .ok (.aload_n 0, 1) := by decide +kernel
theorem dX10_number_63 : decode cX10_number 63 = .ok (.getfield 173, 3) := by decide +kernel
theorem dX10_number_66 : decode cX10_number 66 = .ok (.ifCond .ge 77, 3) := by decide +kernel
theorem dX10_number_69 : decode cX10_number 69 = .ok (.aload_n 0, 1) := by decide +kernel
theorem dX10_number_70 : decode cX10_number 70 = .ok (.getfield 176, 3) := by decide +kernel
theorem dX10_number_73 : decode cX10_number 73 = .ok (.aload_n 0, 1) := by decide +kernel
theorem dX10_number_74 : decode cX10_number 74 = .ok (.getfield 160, 3) := by decide +kernel
theorem dX10_number_77 : decode cX10_number 77 = .ok (.if_icmp .ge 66, 3) := by decide +kernel
theorem dX10_number_80 : decode cX10_number 80 = .ok (.aload_n 0, 1) := by decide +kernel
theorem dX10_number_81 : decode cX10_number 81 = .ok (.getfield 176, 3) := by decide +kernel
theorem dX10_number_84 : decode cX10_number 84 = .ok (.iload 4, 2) := by decide +kernel
theorem dX10_number_86 : decode cX10_number 86 = .ok (.iconst 4, 1) := by decide +kernel
theorem dX10_number_87 : decode cX10_number 87 = .ok (.iadd, 1) := by decide +kernel
theorem dX10_number_88 : decode cX10_number 88 = .ok (.if_icmp .ge 55, 3) := by decide +kernel
theorem dX10_number_91 : decode cX10_number 91 = .ok (.aload_n 0, 1) := by decide +kernel
theorem dX10_number_92 : decode cX10_number 92 = .ok (.getfield 18, 3) := by decide +kernel
theorem dX10_number_95 : decode cX10_number 95 = .ok (.aload_n 0, 1) := by decide +kernel
theorem dX10_number_96 : decode cX10_number 96 = .ok (.getfield 176, 3) := by decide +kernel
theorem dX10_number_99 : decode cX10_number 99 = .ok (.iaload, 1) := by decide +kernel
theorem dX10_number_100 : decode cX10_number 100 = .ok (.bipush 48, 2) := by decide +kernel
theorem dX10_number_102 : decode cX10_number 102 = .ok (.bipush 57, 2) := by decide +kernel
theorem dX10_number_104 : decode cX10_number 104 = .ok (.invokestatic 72, 3) := by decide +kernel
theorem dX10_number_107 : decode cX10_number 107 = .ok (.ifCond .eq 36, 3) := by decide +kernel
theorem dX10_number_110 : decode cX10_number 110 = .ok (.bipush 10, 2) := by decide +kernel
theorem dX10_number_112 : decode cX10_number 112 = .ok (.iload 5, 2) := by decide +kernel
theorem dX10_number_114 : decode cX10_number 114 = .ok (.imul, 1) := by decide +kernel
theorem dX10_number_115 : decode cX10_number 115 = .ok (.aload_n 0, 1) := by decide +kernel
theorem dX10_number_116 : decode cX10_number 116 = .ok (.getfield 18, 3) := by decide +kernel
theorem dX10_number_119 : decode cX10_number 119 = .ok (.aload_n 0, 1) := by decide +kernel
theorem dX10_number_120 : decode cX10_number 120 = .ok (.getfield 176, 3) := by decide +kernel
theorem dX10_number_123 : decode cX10_number 123 = .ok (.iaload, 1) := by decide +kernel
theorem dX10_number_124 : decode cX10_number 124 = .ok (.iadd, 1) := by decide +kernel
theorem dX10_number_125 : decode cX10_number 125 = .ok (.bipush 48, 2) := by decide +kernel
theorem dX10_number_127 : decode cX10_number 127 = .ok (.isub, 1) := by decide +kernel
theorem dX10_number_128 : decode cX10_number 128 = .ok (.istore 5, 2) := by decide +kernel
theorem dX10_number_130 : decode cX10_number 130 = .ok (.aload_n 0, 1) := by decide +kernel
theorem dX10_number_131 : decode cX10_number 131 = .ok (.dup, 1) := by decide +kernel
theorem dX10_number_132 : decode cX10_number 132 = .ok (.getfield 176, 3) := by decide +kernel
theorem dX10_number_135 : decode cX10_number 135 = .ok (.iconst 1, 1) := by decide +kernel
theorem dX10_number_136 : decode cX10_number 136 = .ok (.iadd, 1) := by decide +kernel
theorem dX10_number_137 : decode cX10_number 137 = .ok (.putfield 176, 3) := by decide +kernel
theorem dX10_number_140 : decode cX10_number 140 = .ok (.goto (-78), 3) := by decide +kernel
theorem dX10_number_143 : decode cX10_number 143 = .ok (.aload_n 0, 1) := by decide +kernel
theorem dX10_number_144 : decode cX10_number 144 = .ok (.getfield 176, 3) := by decide +kernel
theorem dX10_number_147 : decode cX10_number 147 = .ok (.iload 4, 2) := by decide +kernel
theorem dX10_number_149 : decode cX10_number 149 = .ok (.if_icmp .ne 11, 3) := by decide +kernel
theorem dX10_number_152 : decode cX10_number 152 = .ok (.aload_n 0, 1) := by decide +kernel
theorem dX10_number_153 : decode cX10_number 153 = .ok (.aload_n 0, 1) := by decide +kernel
theorem dX10_number_154 : decode cX10_number 154 = .ok (.getfield 176, 3) := by decide +kernel
theorem dX10_number_157 : decode cX10_number 157 = .ok (.invokevirtual 179, 3) := by decide +kernel
theorem dX10_number_160 : decode cX10_number 160 = .ok (.iload 5, 2) := by decide +kernel
theorem dX10_number_162 : decode cX10_number 162 = .ok (.iload_n 1, 1) := by decide +kernel
theorem dX10_number_163 : decode cX10_number 163 = .ok (.iload_n 2, 1) := by decide +kernel
theorem dX10_number_164 : decode cX10_number 164 = .ok (.invokestatic 72, 3) := by decide +kernel
theorem dX10_number_167 : decode cX10_number 167 = .ok (.ifCond .eq 9, 3) := by decide +kernel
theorem dX10_number_170 : decode cX10_number 170 = .ok (.iload 5, 2) := by decide +kernel
theorem dX10_number_172 : decode cX10_number 172 = .ok (.iload_n 3, 1) := by decide +kernel
theorem dX10_number_173 : decode cX10_number 173 = .ok (.if_icmp .ne 9, 3) := by decide +kernel
theorem dX10_number_176 : decode cX10_number 176 = .ok (.aload_n 0, 1) := by decide +kernel
theorem dX10_number_177 : decode cX10_number 177 = .ok (.iload 4, 2) := by decide +kernel
theorem dX10_number_179 : decode cX10_number 179 = .ok (.invokevirtual 179, 3) := by decide +kernel
theorem dX10_number_182 : decode cX10_number 182 = .ok (.iload 5, 2) := by decide +kernel
theorem dX10_number_184 : decode cX10_number 184 = .ok (.ireturn, 1) := by decide +kernel
theorem dX10_sortOf_0 : decode cX10_sortOf 0 = .ok (.iload_n 0, 1) := by decide +kernel
theorem dX10_sortOf_1 : decode cX10_sortOf 1 = .ok (.tableswitch 118 98 119 #[103, 118, 105, 118, 109, 118, 118, 118, 118, 118, 115, 107, 118, 118, 118, 118, 118, 113, 118, 118, 118, 111], 103) := by decide +kernel
theorem dX10_sortOf_104 : decode cX10_sortOf 104 = .ok (.iconst 0, 1) := by decide +kernel
theorem dX10_sortOf_105 : decode cX10_sortOf 105 = .ok (.ireturn, 1) := by decide +kernel
theorem dX10_sortOf_106 : decode cX10_sortOf 106 = .ok (.iconst 1, 1) := by decide +kernel
theorem dX10_sortOf_107 : decode cX10_sortOf 107 = .ok (.ireturn, 1) := by decide +kernel
theorem dX10_sortOf_108 : decode cX10_sortOf 108 = .ok (.iconst 2, 1) := by decide +kernel
theorem dX10_sortOf_109 : decode cX10_sortOf 109 = .ok (.ireturn, 1) := by decide +kernel
theorem dX10_sortOf_110 : decode cX10_sortOf 110 = .ok (.iconst 3, 1) := by decide +kernel
theorem dX10_sortOf_111 : decode cX10_sortOf 111 = .ok (.ireturn, 1) := by decide +kernel
theorem dX10_sortOf_112 : decode cX10_sortOf 112 = .ok (.iconst 4, 1) := by decide +kernel
theorem dX10_sortOf_113 : decode cX10_sortOf 113 = .ok (.ireturn, 1) := by decide +kernel
theorem dX10_sortOf_114 : decode cX10_sortOf 114 = .ok (.iconst 5, 1) := by decide +kernel
theorem dX10_sortOf_115 : decode cX10_sortOf 115 = .ok (.ireturn, 1) := by decide +kernel
theorem dX10_sortOf_116 : decode cX10_sortOf 116 = .ok (.bipush 6, 2) := by decide +kernel
theorem dX10_sortOf_118 : decode cX10_sortOf 118 = .ok (.ireturn, 1) := by decide +kernel
theorem dX10_sortOf_119 : decode cX10_sortOf 119 = .ok (.iload_n 0, 1) := by decide +kernel
theorem dX10_sortOf_120 : decode cX10_sortOf 120 = .ok (.bipush 111, 2) := by decide +kernel
theorem dX10_sortOf_122 : decode cX10_sortOf 122 = .ok (.if_icmp .ne 8, 3) := by decide +kernel
theorem dX10_sortOf_125 : decode cX10_sortOf 125 = .ok (.bipush 7, 2) := by decide +kernel
theorem dX10_sortOf_127 : decode cX10_sortOf 127 = .ok (.goto 4, 3) := by decide +kernel
theorem dX10_sortOf_130 : decode cX10_sortOf 130 = .ok (.iconst (-1), 1) := by decide +kernel
theorem dX10_sortOf_131 : decode cX10_sortOf 131 = .ok (.ireturn, 1) := by decide +kernel
theorem dX10_isOfTwo_0 : decode cX10_isOfTwo 0 = .ok (.iload_n 0, 1) := by decide +kernel
theorem dX10_isOfTwo_1 : decode cX10_isOfTwo 1 = .ok (.ifCond .eq 18, 3) := by decide +kernel
theorem dX10_isOfTwo_4 : decode cX10_isOfTwo 4 = .ok (.iload_n 0, 1) := by decide +kernel
theorem dX10_isOfTwo_5 : decode cX10_isOfTwo 5 = .ok (.iconst 1, 1) := by decide +kernel
theorem dX10_isOfTwo_6 : decode cX10_isOfTwo 6 = .ok (.if_icmp .eq 13, 3) := by decide +kernel
theorem dX10_isOfTwo_9 : decode cX10_isOfTwo 9 = .ok (.iload_n 0, 1) := by decide +kernel
theorem dX10_isOfTwo_10 : decode cX10_isOfTwo 10 = .ok (.bipush 6, 2) := by decide +kernel
theorem dX10_isOfTwo_12 : decode cX10_isOfTwo 12 = .ok (.if_icmp .eq 7, 3) := by decide +kernel
theorem dX10_isOfTwo_15 : decode cX10_isOfTwo 15 = .ok (.iconst 1, 1) := by decide +kernel
theorem dX10_isOfTwo_16 : decode cX10_isOfTwo 16 = .ok (.goto 4, 3) := by decide +kernel
theorem dX10_isOfTwo_19 : decode cX10_isOfTwo 19 = .ok (.iconst 0, 1) := by decide +kernel
theorem dX10_isOfTwo_20 : decode cX10_isOfTwo 20 = .ok (.ireturn, 1) := by decide +kernel
theorem dX10_isOfYears_0 : decode cX10_isOfYears 0 = .ok (.iload_n 0, 1) := by decide +kernel
theorem dX10_isOfYears_1 : decode cX10_isOfYears 1 = .ok (.ifCond .eq 13, 3) := by decide +kernel
theorem dX10_isOfYears_4 : decode cX10_isOfYears 4 = .ok (.iload_n 0, 1) := by decide +kernel
theorem dX10_isOfYears_5 : decode cX10_isOfYears 5 = .ok (.iconst 1, 1) := by decide +kernel
theorem dX10_isOfYears_6 : decode cX10_isOfYears 6 = .ok (.if_icmp .eq 8, 3) := by decide +kernel
theorem dX10_isOfYears_9 : decode cX10_isOfYears 9 = .ok (.iload_n 0, 1) := by decide +kernel
theorem dX10_isOfYears_10 : decode cX10_isOfYears 10 = .ok (.iconst 4, 1) := by decide +kernel
theorem dX10_isOfYears_11 : decode cX10_isOfYears 11 = .ok (.if_icmp .ne 7, 3) := by decide +kernel
theorem dX10_isOfYears_14 : decode cX10_isOfYears 14 = .ok (.iconst 1, 1) := by decide +kernel
theorem dX10_isOfYears_15 : decode cX10_isOfYears 15 = .ok (.goto 4, 3) := by decide +kernel
theorem dX10_isOfYears_18 : decode cX10_isOfYears 18 = .ok (.iconst 0, 1) := by decide +kernel
theorem dX10_isOfYears_19 : decode cX10_isOfYears 19 = .ok (.ireturn, 1) := by decide +kernel
theorem dX10_reads_0 : decode cX10_reads 0 = .ok (.aload_n 0, 1) := by decide +kernel
theorem dX10_reads_1 : decode cX10_reads 1 = .ok (.iconst 1, 1) := by decide +kernel
theorem dX10_reads_2 : decode cX10_reads 2 = .ok (.putfield 176, 3) := by decide +kernel
theorem dX10_reads_5 : decode cX10_reads 5 = .ok (.aload_n 0, 1) := by decide +kernel
theorem dX10_reads_6 : decode cX10_reads 6 = .ok (.iconst (-1), 1) := by decide +kernel
theorem dX10_reads_7 : decode cX10_reads 7 = .ok (.putfield 173, 3) := by decide +kernel
theorem dX10_reads_10 : decode cX10_reads 10 = .ok (.aload_n 0, 1) := by decide +kernel
theorem dX10_reads_11 : decode cX10_reads 11 = .ok (.getfield 160, 3) := by decide +kernel
theorem dX10_reads_14 : decode cX10_reads 14 = .ok (.ifCond .ne 7, 3) := by decide +kernel
theorem dX10_reads_17 : decode cX10_reads 17 = .ok (.iconst (-1), 1) := by decide +kernel
theorem dX10_reads_18 : decode cX10_reads 18 = .ok (.goto 12, 3) := by decide +kernel
theorem dX10_reads_21 : decode cX10_reads 21 = .ok (.aload_n 0, 1) := by decide +kernel
theorem dX10_reads_22 : decode cX10_reads 22 = .ok (.getfield 18, 3) := by decide +kernel
theorem dX10_reads_25 : decode cX10_reads 25 = .ok (.iconst 0, 1) := by decide +kernel
theorem dX10_reads_26 : decode cX10_reads 26 = .ok (.iaload, 1) := by decide +kernel
theorem dX10_reads_27 : decode cX10_reads 27 = .ok (.invokestatic 182, 3) := by decide +kernel
theorem dX10_reads_30 : decode cX10_reads 30 = .ok (.istore_n 1, 1) := by decide +kernel
theorem dX10_reads_31 : decode cX10_reads 31 = .ok (.iload_n 1, 1) := by decide +kernel
theorem dX10_reads_32 : decode cX10_reads 32 = .ok (.ifCond .ge 8, 3) := by decide +kernel
theorem dX10_reads_35 : decode cX10_reads 35 = .ok (.aload_n 0, 1) := by decide +kernel
theorem dX10_reads_36 : decode cX10_reads 36 = .ok (.iconst 0, 1) := by decide +kernel
theorem dX10_reads_37 : decode cX10_reads 37 = .ok (.invokevirtual 179, 3) := by decide +kernel
theorem dX10_reads_40 : decode cX10_reads 40 = .ok (.aload_n 0, 1) := by decide +kernel
theorem dX10_reads_41 : decode cX10_reads 41 = .ok (.getfield 24, 3) := by decide +kernel
theorem dX10_reads_44 : decode cX10_reads 44 = .ok (.iconst 0, 1) := by decide +kernel
theorem dX10_reads_45 : decode cX10_reads 45 = .ok (.iload_n 1, 1) := by decide +kernel
theorem dX10_reads_46 : decode cX10_reads 46 = .ok (.iastore, 1) := by decide +kernel
theorem dX10_reads_47 : decode cX10_reads 47 = .ok (.aload_n 0, 1) := by decide +kernel
theorem dX10_reads_48 : decode cX10_reads 48 = .ok (.getfield 24, 3) := by decide +kernel
theorem dX10_reads_51 : decode cX10_reads 51 = .ok (.iconst 1, 1) := by decide +kernel
theorem dX10_reads_52 : decode cX10_reads 52 = .ok (.aload_n 0, 1) := by decide +kernel
theorem dX10_reads_53 : decode cX10_reads 53 = .ok (.iconst 0, 1) := by decide +kernel
theorem dX10_reads_54 : decode cX10_reads 54 = .ok (.aload_n 0, 1) := by decide +kernel
theorem dX10_reads_55 : decode cX10_reads 55 = .ok (.getfield 11, 3) := by decide +kernel
theorem dX10_reads_58 : decode cX10_reads 58 = .ok (.iconst 0, 1) := by decide +kernel
theorem dX10_reads_59 : decode cX10_reads 59 = .ok (.iaload, 1) := by decide +kernel
theorem dX10_reads_60 : decode cX10_reads 60 = .ok (.iconst 1, 1) := by decide +kernel
theorem dX10_reads_61 : decode cX10_reads 61 = .ok (.isub, 1) := by decide +kernel
theorem dX10_reads_62 : decode cX10_reads 62 = .ok (.iconst (-1), 1) := by decide +kernel
theorem dX10_reads_63 : decode cX10_reads 63 = .ok (.invokevirtual 185, 3) := by decide +kernel
theorem dX10_reads_66 : decode cX10_reads 66 = .ok (.iastore, 1) := by decide +kernel
theorem dX10_reads_67 : decode cX10_reads 67 = .ok (.aload_n 0, 1) := by decide +kernel
theorem dX10_reads_68 : decode cX10_reads 68 = .ok (.getfield 24, 3) := by decide +kernel
theorem dX10_reads_71 : decode cX10_reads 71 = .ok (.iconst 2, 1) := by decide +kernel
theorem dX10_reads_72 : decode cX10_reads 72 = .ok (.iload_n 1, 1) := by decide +kernel
theorem dX10_reads_73 : decode cX10_reads 73 = .ok (.invokestatic 189, 3) := by decide +kernel
theorem dX10_reads_76 : decode cX10_reads 76 = .ok (.ifCond .eq 25, 3) := by decide +kernel
theorem dX10_reads_79 : decode cX10_reads 79 = .ok (.aload_n 0, 1) := by decide +kernel
theorem dX10_reads_80 : decode cX10_reads 80 = .ok (.iconst 0, 1) := by decide +kernel
theorem dX10_reads_81 : decode cX10_reads 81 = .ok (.aload_n 0, 1) := by decide +kernel
theorem dX10_reads_82 : decode cX10_reads 82 = .ok (.getfield 11, 3) := by decide +kernel
theorem dX10_reads_85 : decode cX10_reads 85 = .ok (.iconst 0, 1) := by decide +kernel
theorem dX10_reads_86 : decode cX10_reads 86 = .ok (.iaload, 1) := by decide +kernel
theorem dX10_reads_87 : decode cX10_reads 87 = .ok (.iconst 1, 1) := by decide +kernel
theorem dX10_reads_88 : decode cX10_reads 88 = .ok (.isub, 1) := by decide +kernel
theorem dX10_reads_89 : decode cX10_reads 89 = .ok (.aload_n 0, 1) := by decide +kernel
theorem dX10_reads_90 : decode cX10_reads 90 = .ok (.getfield 24, 3) := by decide +kernel
theorem dX10_reads_93 : decode cX10_reads 93 = .ok (.iconst 1, 1) := by decide +kernel
theorem dX10_reads_94 : decode cX10_reads 94 = .ok (.iaload, 1) := by decide +kernel
theorem dX10_reads_95 : decode cX10_reads 95 = .ok (.invokevirtual 185, 3) := by decide +kernel
theorem dX10_reads_98 : decode cX10_reads 98 = .ok (.goto 5, 3) := by decide +kernel
theorem dX10_reads_101 : decode cX10_reads 101 = .ok (.bipush (-5), 2) := by decide +kernel
theorem dX10_reads_103 : decode cX10_reads 103 = .ok (.iastore, 1) := by decide +kernel
theorem dX10_reads_104 : decode cX10_reads 104 = .ok (.aload_n 0, 1) := by decide +kernel
theorem dX10_reads_105 : decode cX10_reads 105 = .ok (.getfield 24, 3) := by decide +kernel
theorem dX10_reads_108 : decode cX10_reads 108 = .ok (.iconst 3, 1) := by decide +kernel
theorem dX10_reads_109 : decode cX10_reads 109 = .ok (.iload_n 1, 1) := by decide +kernel
theorem dX10_reads_110 : decode cX10_reads 110 = .ok (.invokestatic 192, 3) := by decide +kernel
theorem dX10_reads_113 : decode cX10_reads 113 = .ok (.ifCond .ne 9, 3) := by decide +kernel
theorem dX10_reads_116 : decode cX10_reads 116 = .ok (.iload_n 1, 1) := by decide +kernel
theorem dX10_reads_117 : decode cX10_reads 117 = .ok (.bipush 6, 2) := by decide +kernel
theorem dX10_reads_119 : decode cX10_reads 119 = .ok (.if_icmp .ne 15, 3) := by decide +kernel
theorem dX10_reads_122 : decode cX10_reads 122 = .ok (.aload_n 0, 1) := by decide +kernel
theorem dX10_reads_123 : decode cX10_reads 123 = .ok (.iconst 0, 1) := by decide +kernel
theorem dX10_reads_124 : decode cX10_reads 124 = .ok (.sipush 3000, 3) := by decide +kernel
theorem dX10_reads_127 : decode cX10_reads 127 = .ok (.iconst (-1), 1) := by decide +kernel
theorem dX10_reads_128 : decode cX10_reads 128 = .ok (.invokevirtual 185, 3) := by decide +kernel
theorem dX10_reads_131 : decode cX10_reads 131 = .ok (.goto 22, 3) := by decide +kernel
theorem dX10_reads_134 : decode cX10_reads 134 = .ok (.iload_n 1, 1) := by decide +kernel
theorem dX10_reads_135 : decode cX10_reads 135 = .ok (.bipush 7, 2) := by decide +kernel
theorem dX10_reads_137 : decode cX10_reads 137 = .ok (.if_icmp .ne 14, 3) := by decide +kernel
theorem dX10_reads_140 : decode cX10_reads 140 = .ok (.aload_n 0, 1) := by decide +kernel
theorem dX10_reads_141 : decode cX10_reads 141 = .ok (.iconst 0, 1) := by decide +kernel
theorem dX10_reads_142 : decode cX10_reads 142 = .ok (.bipush 99, 2) := by decide +kernel
theorem dX10_reads_144 : decode cX10_reads 144 = .ok (.iconst (-1), 1) := by decide +kernel
theorem dX10_reads_145 : decode cX10_reads 145 = .ok (.invokevirtual 185, 3) := by decide +kernel
theorem dX10_reads_148 : decode cX10_reads 148 = .ok (.goto 5, 3) := by decide +kernel
theorem dX10_reads_151 : decode cX10_reads 151 = .ok (.bipush (-5), 2) := by decide +kernel
theorem dX10_reads_153 : decode cX10_reads 153 = .ok (.iastore, 1) := by decide +kernel
theorem dX10_reads_154 : decode cX10_reads 154 = .ok (.aload_n 0, 1) := by decide +kernel
theorem dX10_reads_155 : decode cX10_reads 155 = .ok (.getfield 24, 3) := by decide +kernel
theorem dX10_reads_158 : decode cX10_reads 158 = .ok (.iconst 4, 1) := by decide +kernel
theorem dX10_reads_159 : decode cX10_reads 159 = .ok (.iload_n 1, 1) := by decide +kernel
theorem dX10_reads_160 : decode cX10_reads 160 = .ok (.invokestatic 192, 3) := by decide +kernel
theorem dX10_reads_163 : decode cX10_reads 163 = .ok (.ifCond .eq 20, 3) := by decide +kernel
theorem dX10_reads_166 : decode cX10_reads 166 = .ok (.aload_n 0, 1) := by decide +kernel
theorem dX10_reads_167 : decode cX10_reads 167 = .ok (.aload_n 0, 1) := by decide +kernel
theorem dX10_reads_168 : decode cX10_reads 168 = .ok (.getfield 24, 3) := by decide +kernel
theorem dX10_reads_171 : decode cX10_reads 171 = .ok (.iconst 3, 1) := by decide +kernel
theorem dX10_reads_172 : decode cX10_reads 172 = .ok (.iaload, 1) := by decide +kernel
theorem dX10_reads_173 : decode cX10_reads 173 = .ok (.sipush 3000, 3) := by decide +kernel
theorem dX10_reads_176 : decode cX10_reads 176 = .ok (.iconst (-1), 1) := by decide +kernel
theorem dX10_reads_177 : decode cX10_reads 177 = .ok (.invokevirtual 185, 3) := by decide +kernel
theorem dX10_reads_180 : decode cX10_reads 180 = .ok (.goto 5, 3) := by decide +kernel
theorem dX10_reads_183 : decode cX10_reads 183 = .ok (.bipush (-5), 2) := by decide +kernel
theorem dX10_reads_185 : decode cX10_reads 185 = .ok (.iastore, 1) := by decide +kernel
theorem dX10_reads_186 : decode cX10_reads 186 = .ok (.aload_n 0, 1) := by decide +kernel
theorem dX10_reads_187 : decode cX10_reads 187 = .ok (.getfield 176, 3) := by decide +kernel
theorem dX10_reads_190 : decode cX10_reads 190 = .ok (.aload_n 0, 1) := by decide +kernel
theorem dX10_reads_191 : decode cX10_reads 191 = .ok (.getfield 160, 3) := by decide +kernel
theorem dX10_reads_194 : decode cX10_reads 194 = .ok (.if_icmp .ge 11, 3) := by decide +kernel
theorem dX10_reads_197 : decode cX10_reads 197 = .ok (.aload_n 0, 1) := by decide +kernel
theorem dX10_reads_198 : decode cX10_reads 198 = .ok (.aload_n 0, 1) := by decide +kernel
theorem dX10_reads_199 : decode cX10_reads 199 = .ok (.getfield 176, 3) := by decide +kernel
theorem dX10_reads_202 : decode cX10_reads 202 = .ok (.invokevirtual 179, 3) := by decide +kernel
theorem dX10_reads_205 : decode cX10_reads 205 = .ok (.aload_n 0, 1) := by decide +kernel
theorem dX10_reads_206 : decode cX10_reads 206 = .ok (.iconst 0, 1) := by decide +kernel
theorem dX10_reads_207 : decode cX10_reads 207 = .ok (.putfield 160, 3) := by decide +kernel
theorem dX10_reads_210 : decode cX10_reads 210 = .ok (.aload_n 0, 1) := by decide +kernel
theorem dX10_reads_211 : decode cX10_reads 211 = .ok (.getfield 173, 3) := by decide +kernel
theorem dX10_reads_214 : decode cX10_reads 214 = .ok (.ifCond .ge 7, 3) := by decide +kernel
theorem dX10_reads_217 : decode cX10_reads 217 = .ok (.iconst 1, 1) := by decide +kernel
theorem dX10_reads_218 : decode cX10_reads 218 = .ok (.goto 4, 3) := by decide +kernel
theorem dX10_reads_221 : decode cX10_reads 221 = .ok (.iconst 0, 1) := by decide +kernel
theorem dX10_reads_222 : decode cX10_reads 222 = .ok (.ireturn, 1) := by decide +kernel
theorem dX10_comes_0 : decode cX10_comes 0 = .ok (.aload_n 0, 1) := by decide +kernel
theorem dX10_comes_1 : decode cX10_comes 1 = .ok (.getfield 24, 3) := by decide +kernel
theorem dX10_comes_4 : decode cX10_comes 4 = .ok (.iconst 5, 1) := by decide +kernel
theorem dX10_comes_5 : decode cX10_comes 5 = .ok (.iload_n 1, 1) := by decide +kernel
theorem dX10_comes_6 : decode cX10_comes 6 = .ok (.iastore, 1) := by decide +kernel
theorem dX10_comes_7 : decode cX10_comes 7 = .ok (.iconst 0, 1) := by decide +kernel
theorem dX10_comes_8 : decode cX10_comes 8 = .ok (.istore_n 2, 1) := by decide +kernel
theorem dX10_comes_9 : decode cX10_comes 9 = .ok (.iload_n 2, 1) := by decide +kernel
theorem dX10_comes_10 : decode cX10_comes 10 = .ok (.bipush 6, 2) := by decide +kernel
theorem dX10_comes_12 : decode cX10_comes 12 = .ok (.if_icmp .ge 35, 3) := by decide +kernel
theorem dX10_comes_15 : decode cX10_comes 15 = .ok (.aload_n 0, 1) := by decide +kernel
theorem dX10_comes_16 : decode cX10_comes 16 = .ok (.getfield 11, 3) := by decide +kernel
theorem dX10_comes_19 : decode cX10_comes 19 = .ok (.sipush 242, 3) := by decide +kernel
theorem dX10_comes_22 : decode cX10_comes 22 = .ok (.bipush 6, 2) := by decide +kernel
theorem dX10_comes_24 : decode cX10_comes 24 = .ok (.aload_n 0, 1) := by decide +kernel
theorem dX10_comes_25 : decode cX10_comes 25 = .ok (.getfield 11, 3) := by decide +kernel
theorem dX10_comes_28 : decode cX10_comes 28 = .ok (.iconst 1, 1) := by decide +kernel
theorem dX10_comes_29 : decode cX10_comes 29 = .ok (.iaload, 1) := by decide +kernel
theorem dX10_comes_30 : decode cX10_comes 30 = .ok (.imul, 1) := by decide +kernel
theorem dX10_comes_31 : decode cX10_comes 31 = .ok (.iadd, 1) := by decide +kernel
theorem dX10_comes_32 : decode cX10_comes 32 = .ok (.iload_n 2, 1) := by decide +kernel
theorem dX10_comes_33 : decode cX10_comes 33 = .ok (.iadd, 1) := by decide +kernel
theorem dX10_comes_34 : decode cX10_comes 34 = .ok (.aload_n 0, 1) := by decide +kernel
theorem dX10_comes_35 : decode cX10_comes 35 = .ok (.getfield 24, 3) := by decide +kernel
theorem dX10_comes_38 : decode cX10_comes 38 = .ok (.iload_n 2, 1) := by decide +kernel
theorem dX10_comes_39 : decode cX10_comes 39 = .ok (.iaload, 1) := by decide +kernel
theorem dX10_comes_40 : decode cX10_comes 40 = .ok (.iastore, 1) := by decide +kernel
theorem dX10_comes_41 : decode cX10_comes 41 = .ok (.iinc 2 1, 3) := by decide +kernel
theorem dX10_comes_44 : decode cX10_comes 44 = .ok (.goto (-35), 3) := by decide +kernel
theorem dX10_comes_47 : decode cX10_comes 47 = .ok (.aload_n 0, 1) := by decide +kernel
theorem dX10_comes_48 : decode cX10_comes 48 = .ok (.getfield 11, 3) := by decide +kernel
theorem dX10_comes_51 : decode cX10_comes 51 = .ok (.iconst 1, 1) := by decide +kernel
theorem dX10_comes_52 : decode cX10_comes 52 = .ok (.dup2, 1) := by decide +kernel
theorem dX10_comes_53 : decode cX10_comes 53 = .ok (.iaload, 1) := by decide +kernel
theorem dX10_comes_54 : decode cX10_comes 54 = .ok (.iconst 1, 1) := by decide +kernel
theorem dX10_comes_55 : decode cX10_comes 55 = .ok (.iadd, 1) := by decide +kernel
theorem dX10_comes_56 : decode cX10_comes 56 = .ok (.iastore, 1) := by decide +kernel
theorem dX10_comes_57 : decode cX10_comes 57 = .ok (.aload_n 0, 1) := by decide +kernel
theorem dX10_comes_58 : decode cX10_comes 58 = .ok (.invokevirtual 69, 3) := by decide +kernel
theorem dX10_comes_61 : decode cX10_comes 61 = .ok (.return_, 1) := by decide +kernel
theorem dX10_state_0 : decode cX10_state 0 = .ok (.iload_n 1, 1) := by decide +kernel
theorem dX10_state_1 : decode cX10_state 1 = .ok (.iconst 0, 1) := by decide +kernel
theorem dX10_state_2 : decode cX10_state 2 = .ok (.iconst 1, 1) := by decide +kernel
theorem dX10_state_3 : decode cX10_state 3 = .ok (.invokestatic 72, 3) := by decide +kernel
theorem dX10_state_6 : decode cX10_state 6 = .ok (.ifCond .ne 5, 3) := by decide +kernel
theorem dX10_state_9 : decode cX10_state 9 = .ok (.iconst (-1), 1) := by decide +kernel
theorem dX10_state_10 : decode cX10_state 10 = .ok (.ireturn, 1) := by decide +kernel
theorem dX10_state_11 : decode cX10_state 11 = .ok (.aload_n 0, 1) := by decide +kernel
theorem dX10_state_12 : decode cX10_state 12 = .ok (.getfield 11, 3) := by decide +kernel
theorem dX10_state_15 : decode cX10_state 15 = .ok (.iconst 1, 1) := by decide +kernel
theorem dX10_state_16 : decode cX10_state 16 = .ok (.iaload, 1) := by decide +kernel
theorem dX10_state_17 : decode cX10_state 17 = .ok (.bipush 60, 2) := by decide +kernel
theorem dX10_state_19 : decode cX10_state 19 = .ok (.if_icmp .ne 6, 3) := by decide +kernel
theorem dX10_state_22 : decode cX10_state 22 = .ok (.bipush (-4), 2) := by decide +kernel
theorem dX10_state_24 : decode cX10_state 24 = .ok (.ireturn, 1) := by decide +kernel
theorem dX10_state_25 : decode cX10_state 25 = .ok (.aload_n 0, 1) := by decide +kernel
theorem dX10_state_26 : decode cX10_state 26 = .ok (.invokevirtual 195, 3) := by decide +kernel
theorem dX10_state_29 : decode cX10_state 29 = .ok (.ifCond .ne 11, 3) := by decide +kernel
theorem dX10_state_32 : decode cX10_state 32 = .ok (.bipush (-100), 2) := by decide +kernel
theorem dX10_state_34 : decode cX10_state 34 = .ok (.aload_n 0, 1) := by decide +kernel
theorem dX10_state_35 : decode cX10_state 35 = .ok (.getfield 173, 3) := by decide +kernel
theorem dX10_state_38 : decode cX10_state 38 = .ok (.isub, 1) := by decide +kernel
theorem dX10_state_39 : decode cX10_state 39 = .ok (.ireturn, 1) := by decide +kernel
theorem dX10_state_40 : decode cX10_state 40 = .ok (.aload_n 0, 1) := by decide +kernel
theorem dX10_state_41 : decode cX10_state 41 = .ok (.iload_n 1, 1) := by decide +kernel
theorem dX10_state_42 : decode cX10_state 42 = .ok (.invokevirtual 199, 3) := by decide +kernel
theorem dX10_state_45 : decode cX10_state 45 = .ok (.aload_n 0, 1) := by decide +kernel
theorem dX10_state_46 : decode cX10_state 46 = .ok (.getfield 11, 3) := by decide +kernel
theorem dX10_state_49 : decode cX10_state 49 = .ok (.iconst 1, 1) := by decide +kernel
theorem dX10_state_50 : decode cX10_state 50 = .ok (.iaload, 1) := by decide +kernel
theorem dX10_state_51 : decode cX10_state 51 = .ok (.iconst 1, 1) := by decide +kernel
theorem dX10_state_52 : decode cX10_state 52 = .ok (.isub, 1) := by decide +kernel
theorem dX10_state_53 : decode cX10_state 53 = .ok (.ireturn, 1) := by decide +kernel
theorem dX10_live_0 : decode cX10_live 0 = .ok (.aload_n 0, 1) := by decide +kernel
theorem dX10_live_1 : decode cX10_live 1 = .ok (.iload_n 1, 1) := by decide +kernel
theorem dX10_live_2 : decode cX10_live 2 = .ok (.invokevirtual 202, 3) := by decide +kernel
theorem dX10_live_5 : decode cX10_live 5 = .ok (.ifCond .eq 12, 3) := by decide +kernel
theorem dX10_live_8 : decode cX10_live 8 = .ok (.iload_n 2, 1) := by decide +kernel
theorem dX10_live_9 : decode cX10_live 9 = .ok (.iconst 0, 1) := by decide +kernel
theorem dX10_live_10 : decode cX10_live 10 = .ok (.iconst 1, 1) := by decide +kernel
theorem dX10_live_11 : decode cX10_live 11 = .ok (.invokestatic 72, 3) := by decide +kernel
theorem dX10_live_14 : decode cX10_live 14 = .ok (.ifCond .ne 5, 3) := by decide +kernel
theorem dX10_live_17 : decode cX10_live 17 = .ok (.iconst (-1), 1) := by decide +kernel
theorem dX10_live_18 : decode cX10_live 18 = .ok (.ireturn, 1) := by decide +kernel
theorem dX10_live_19 : decode cX10_live 19 = .ok (.aload_n 0, 1) := by decide +kernel
theorem dX10_live_20 : decode cX10_live 20 = .ok (.iload_n 1, 1) := by decide +kernel
theorem dX10_live_21 : decode cX10_live 21 = .ok (.iconst 5, 1) := by decide +kernel
theorem dX10_live_22 : decode cX10_live 22 = .ok (.invokevirtual 76, 3) := by decide +kernel
theorem dX10_live_25 : decode cX10_live 25 = .ok (.istore_n 3, 1) := by decide +kernel
theorem dX10_live_26 : decode cX10_live 26 = .ok (.aload_n 0, 1) := by decide +kernel
theorem dX10_live_27 : decode cX10_live 27 = .ok (.getfield 11, 3) := by decide +kernel
theorem dX10_live_30 : decode cX10_live 30 = .ok (.sipush 242, 3) := by decide +kernel
theorem dX10_live_33 : decode cX10_live 33 = .ok (.bipush 6, 2) := by decide +kernel
theorem dX10_live_35 : decode cX10_live 35 = .ok (.iload_n 1, 1) := by decide +kernel
theorem dX10_live_36 : decode cX10_live 36 = .ok (.imul, 1) := by decide +kernel
theorem dX10_live_37 : decode cX10_live 37 = .ok (.iadd, 1) := by decide +kernel
theorem dX10_live_38 : decode cX10_live 38 = .ok (.iconst 5, 1) := by decide +kernel
theorem dX10_live_39 : decode cX10_live 39 = .ok (.iadd, 1) := by decide +kernel
theorem dX10_live_40 : decode cX10_live 40 = .ok (.iload_n 2, 1) := by decide +kernel
theorem dX10_live_41 : decode cX10_live 41 = .ok (.iastore, 1) := by decide +kernel
theorem dX10_live_42 : decode cX10_live 42 = .ok (.aload_n 0, 1) := by decide +kernel
theorem dX10_live_43 : decode cX10_live 43 = .ok (.invokevirtual 69, 3) := by decide +kernel
theorem dX10_live_46 : decode cX10_live 46 = .ok (.iload_n 3, 1) := by decide +kernel
theorem dX10_live_47 : decode cX10_live 47 = .ok (.ireturn, 1) := by decide +kernel
theorem dX10_of_0 : decode cX10_of 0 = .ok (.aload_n 0, 1) := by decide +kernel
theorem dX10_of_1 : decode cX10_of 1 = .ok (.iload_n 1, 1) := by decide +kernel
theorem dX10_of_2 : decode cX10_of 2 = .ok (.invokevirtual 202, 3) := by decide +kernel
theorem dX10_of_5 : decode cX10_of 5 = .ok (.ifCond .eq 21, 3) := by decide +kernel
theorem dX10_of_8 : decode cX10_of 8 = .ok (.iload_n 2, 1) := by decide +kernel
theorem dX10_of_9 : decode cX10_of 9 = .ok (.iconst 0, 1) := by decide +kernel
theorem dX10_of_10 : decode cX10_of 10 = .ok (.iconst 5, 1) := by decide +kernel
theorem dX10_of_11 : decode cX10_of 11 = .ok (.invokestatic 72, 3) := by decide +kernel
theorem dX10_of_14 : decode cX10_of 14 = .ok (.ifCond .eq 12, 3) := by decide +kernel
theorem dX10_of_17 : decode cX10_of 17 = .ok (.aload_n 0, 1) := by decide +kernel
theorem dX10_of_18 : decode cX10_of 18 = .ok (.iload_n 1, 1) := by decide +kernel
theorem dX10_of_19 : decode cX10_of 19 = .ok (.iload_n 2, 1) := by decide +kernel
theorem dX10_of_20 : decode cX10_of 20 = .ok (.invokevirtual 76, 3) := by decide +kernel
theorem dX10_of_23 : decode cX10_of 23 = .ok (.goto 4, 3) := by decide +kernel
theorem dX10_of_26 : decode cX10_of 26 = .ok (.iconst (-1), 1) := by decide +kernel
theorem dX10_of_27 : decode cX10_of 27 = .ok (.ireturn, 1) := by decide +kernel
theorem dX10_writes_0 : decode cX10_writes 0 = .ok (.aload_n 0, 1) := by decide +kernel
theorem dX10_writes_1 : decode cX10_writes 1 = .ok (.getfield 21, 3) := by decide +kernel
theorem dX10_writes_4 : decode cX10_writes 4 = .ok (.aload_n 0, 1) := by decide +kernel
theorem dX10_writes_5 : decode cX10_writes 5 = .ok (.getfield 163, 3) := by decide +kernel
theorem dX10_writes_8 : decode cX10_writes 8 = .ok (.iload_n 1, 1) := by decide +kernel
theorem dX10_writes_9 : decode cX10_writes 9 = .ok (.iastore, 1) := by decide +kernel
theorem dX10_writes_10 : decode cX10_writes 10 = .ok (.aload_n 0, 1) := by decide +kernel
theorem dX10_writes_11 : decode cX10_writes 11 = .ok (.dup, 1) := by decide +kernel
theorem dX10_writes_12 : decode cX10_writes 12 = .ok (.getfield 163, 3) := by decide +kernel
theorem dX10_writes_15 : decode cX10_writes 15 = .ok (.iconst 1, 1) := by decide +kernel
theorem dX10_writes_16 : decode cX10_writes 16 = .ok (.iadd, 1) := by decide +kernel
theorem dX10_writes_17 : decode cX10_writes 17 = .ok (.putfield 163, 3) := by decide +kernel
theorem dX10_writes_20 : decode cX10_writes 20 = .ok (.return_, 1) := by decide +kernel
theorem dX10_writesNumber_0 : decode cX10_writesNumber 0 = .ok (.iload_n 1, 1) := by decide +kernel
theorem dX10_writesNumber_1 : decode cX10_writesNumber 1 = .ok (.bipush 9, 2) := by decide +kernel
theorem dX10_writesNumber_3 : decode cX10_writesNumber 3 = .ok (.if_icmp .le 11, 3) := by decide +kernel
theorem dX10_writesNumber_6 : decode cX10_writesNumber 6 = .ok (.aload_n 0, 1) := by decide +kernel
theorem dX10_writesNumber_7 : decode cX10_writesNumber 7 = .ok (.iload_n 1, 1) := by decide +kernel
theorem dX10_writesNumber_8 : decode cX10_writesNumber 8 = .ok (.bipush 10, 2) := by decide +kernel
theorem dX10_writesNumber_10 : decode cX10_writesNumber 10 = .ok (.idiv, 1) := by decide +kernel
theorem dX10_writesNumber_11 : decode cX10_writesNumber 11 = .ok (.invokevirtual 205, 3) := by decide +kernel
theorem dX10_writesNumber_14 : decode cX10_writesNumber 14 = .ok (.aload_n 0, 1) := by decide +kernel
theorem dX10_writesNumber_15 : decode cX10_writesNumber 15 = .ok (.bipush 48, 2) := by decide +kernel
theorem dX10_writesNumber_17 : decode cX10_writesNumber 17 = .ok (.iload_n 1, 1) := by decide +kernel
theorem dX10_writesNumber_18 : decode cX10_writesNumber 18 = .ok (.bipush 10, 2) := by decide +kernel
theorem dX10_writesNumber_20 : decode cX10_writesNumber 20 = .ok (.irem, 1) := by decide +kernel
theorem dX10_writesNumber_21 : decode cX10_writesNumber 21 = .ok (.iadd, 1) := by decide +kernel
theorem dX10_writesNumber_22 : decode cX10_writesNumber 22 = .ok (.invokevirtual 208, 3) := by decide +kernel
theorem dX10_writesNumber_25 : decode cX10_writesNumber 25 = .ok (.return_, 1) := by decide +kernel
theorem dX10_spell_0 : decode cX10_spell 0 = .ok (.aload_n 0, 1) := by decide +kernel
theorem dX10_spell_1 : decode cX10_spell 1 = .ok (.iload_n 1, 1) := by decide +kernel
theorem dX10_spell_2 : decode cX10_spell 2 = .ok (.invokevirtual 202, 3) := by decide +kernel
theorem dX10_spell_5 : decode cX10_spell 5 = .ok (.ifCond .ne 5, 3) := by decide +kernel
theorem dX10_spell_8 : decode cX10_spell 8 = .ok (.iconst (-1), 1) := by decide +kernel
theorem dX10_spell_9 : decode cX10_spell 9 = .ok (.ireturn, 1) := by decide +kernel
theorem dX10_spell_10 : decode cX10_spell 10 = .ok (.aload_n 0, 1) := by decide +kernel
theorem dX10_spell_11 : decode cX10_spell 11 = .ok (.iconst 0, 1) := by decide +kernel
theorem dX10_spell_12 : decode cX10_spell 12 = .ok (.putfield 163, 3) := by decide +kernel
theorem dX10_spell_15 : decode cX10_spell 15 = .ok (.aload_n 0, 1) := by decide +kernel
theorem dX10_spell_16 : decode cX10_spell 16 = .ok (.ldc 211, 2) := by decide +kernel
theorem dX10_spell_18 : decode cX10_spell 18 = .ok (.aload_n 0, 1) := by decide +kernel
theorem dX10_spell_19 : decode cX10_spell 19 = .ok (.iload_n 1, 1) := by decide +kernel
theorem dX10_spell_20 : decode cX10_spell 20 = .ok (.iconst 0, 1) := by decide +kernel
theorem dX10_spell_21 : decode cX10_spell 21 = .ok (.invokevirtual 76, 3) := by decide +kernel
theorem dX10_spell_24 : decode cX10_spell 24 = .ok (.invokevirtual 213, 3) := by decide +kernel
theorem dX10_spell_27 : decode cX10_spell 27 = .ok (.invokevirtual 208, 3) := by decide +kernel
theorem dX10_spell_30 : decode cX10_spell 30 = .ok (.iconst 1, 1) := by decide +kernel
theorem dX10_spell_31 : decode cX10_spell 31 = .ok (.istore_n 2, 1) := by decide +kernel
theorem dX10_spell_32 : decode cX10_spell 32 = .ok (.iload_n 2, 1) := by decide +kernel
theorem dX10_spell_33 : decode cX10_spell 33 = .ok (.iconst 4, 1) := by decide +kernel
theorem dX10_spell_34 : decode cX10_spell 34 = .ok (.if_icmp .gt 37, 3) := by decide +kernel
theorem dX10_spell_37 : decode cX10_spell 37 = .ok (.aload_n 0, 1) := by decide +kernel
theorem dX10_spell_38 : decode cX10_spell 38 = .ok (.iload_n 1, 1) := by decide +kernel
theorem dX10_spell_39 : decode cX10_spell 39 = .ok (.iload_n 2, 1) := by decide +kernel
theorem dX10_spell_40 : decode cX10_spell 40 = .ok (.invokevirtual 76, 3) := by decide +kernel
theorem dX10_spell_43 : decode cX10_spell 43 = .ok (.ifCond .ge 6, 3) := by decide +kernel
theorem dX10_spell_46 : decode cX10_spell 46 = .ok (.goto 19, 3) := by decide +kernel
theorem dX10_spell_49 : decode cX10_spell 49 = .ok (.aload_n 0, 1) := by decide +kernel
theorem dX10_spell_50 : decode cX10_spell 50 = .ok (.bipush 32, 2) := by decide +kernel
theorem dX10_spell_52 : decode cX10_spell 52 = .ok (.invokevirtual 208, 3) := by decide +kernel
theorem dX10_spell_55 : decode cX10_spell 55 = .ok (.aload_n 0, 1) := by decide +kernel
theorem dX10_spell_56 : decode cX10_spell 56 = .ok (.aload_n 0, 1) := by decide +kernel
theorem dX10_spell_57 : decode cX10_spell 57 = .ok (.iload_n 1, 1) := by decide +kernel
theorem dX10_spell_58 : decode cX10_spell 58 = .ok (.iload_n 2, 1) := by decide +kernel
theorem dX10_spell_59 : decode cX10_spell 59 = .ok (.invokevirtual 76, 3) := by decide +kernel
theorem dX10_spell_62 : decode cX10_spell 62 = .ok (.invokevirtual 205, 3) := by decide +kernel
theorem dX10_spell_65 : decode cX10_spell 65 = .ok (.iinc 2 1, 3) := by decide +kernel
theorem dX10_spell_68 : decode cX10_spell 68 = .ok (.goto (-36), 3) := by decide +kernel
theorem dX10_spell_71 : decode cX10_spell 71 = .ok (.aload_n 0, 1) := by decide +kernel
theorem dX10_spell_72 : decode cX10_spell 72 = .ok (.getfield 163, 3) := by decide +kernel
theorem dX10_spell_75 : decode cX10_spell 75 = .ok (.ireturn, 1) := by decide +kernel
theorem dX10_lengthOf_0 : decode cX10_lengthOf 0 = .ok (.iconst 0, 1) := by decide +kernel
theorem dX10_lengthOf_1 : decode cX10_lengthOf 1 = .ok (.istore_n 2, 1) := by decide +kernel
theorem dX10_lengthOf_2 : decode cX10_lengthOf 2 = .ok (.iload_n 2, 1) := by decide +kernel
theorem dX10_lengthOf_3 : decode cX10_lengthOf 3 = .ok (.bipush 7, 2) := by decide +kernel
theorem dX10_lengthOf_5 : decode cX10_lengthOf 5 = .ok (.if_icmp .ge 18, 3) := by decide +kernel
theorem dX10_lengthOf_8 : decode cX10_lengthOf 8 = .ok (.aload_n 0, 1) := by decide +kernel
theorem dX10_lengthOf_9 : decode cX10_lengthOf 9 = .ok (.iload_n 1, 1) := by decide +kernel
theorem dX10_lengthOf_10 : decode cX10_lengthOf 10 = .ok (.iload_n 2, 1) := by decide +kernel
theorem dX10_lengthOf_11 : decode cX10_lengthOf 11 = .ok (.invokevirtual 219, 3) := by decide +kernel
theorem dX10_lengthOf_14 : decode cX10_lengthOf 14 = .ok (.ifCond .le 9, 3) := by decide +kernel
theorem dX10_lengthOf_17 : decode cX10_lengthOf 17 = .ok (.iinc 2 1, 3) := by decide +kernel
theorem dX10_lengthOf_20 : decode cX10_lengthOf 20 = .ok (.goto (-18), 3) := by decide +kernel
theorem dX10_lengthOf_23 : decode cX10_lengthOf 23 = .ok (.iload_n 2, 1) := by decide +kernel
theorem dX10_lengthOf_24 : decode cX10_lengthOf 24 = .ok (.ireturn, 1) := by decide +kernel
theorem dX10_compares_0 : decode cX10_compares 0 = .ok (.iconst 0, 1) := by decide +kernel
theorem dX10_compares_1 : decode cX10_compares 1 = .ok (.istore_n 3, 1) := by decide +kernel
theorem dX10_compares_2 : decode cX10_compares 2 = .ok (.iload_n 3, 1) := by decide +kernel
theorem dX10_compares_3 : decode cX10_compares 3 = .ok (.bipush 7, 2) := by decide +kernel
theorem dX10_compares_5 : decode cX10_compares 5 = .ok (.if_icmp .ge 38, 3) := by decide +kernel
theorem dX10_compares_8 : decode cX10_compares 8 = .ok (.aload_n 0, 1) := by decide +kernel
theorem dX10_compares_9 : decode cX10_compares 9 = .ok (.iload_n 1, 1) := by decide +kernel
theorem dX10_compares_10 : decode cX10_compares 10 = .ok (.iload_n 3, 1) := by decide +kernel
theorem dX10_compares_11 : decode cX10_compares 11 = .ok (.invokevirtual 219, 3) := by decide +kernel
theorem dX10_compares_14 : decode cX10_compares 14 = .ok (.aload_n 0, 1) := by decide +kernel
theorem dX10_compares_15 : decode cX10_compares 15 = .ok (.iload_n 2, 1) := by decide +kernel
theorem dX10_compares_16 : decode cX10_compares 16 = .ok (.iload_n 3, 1) := by decide +kernel
theorem dX10_compares_17 : decode cX10_compares 17 = .ok (.invokevirtual 219, 3) := by decide +kernel
theorem dX10_compares_20 : decode cX10_compares 20 = .ok (.if_icmp .eq 17, 3) := by decide +kernel
theorem dX10_compares_23 : decode cX10_compares 23 = .ok (.aload_n 0, 1) := by decide +kernel
theorem dX10_compares_24 : decode cX10_compares 24 = .ok (.iload_n 1, 1) := by decide +kernel
theorem dX10_compares_25 : decode cX10_compares 25 = .ok (.iload_n 3, 1) := by decide +kernel
theorem dX10_compares_26 : decode cX10_compares 26 = .ok (.invokevirtual 219, 3) := by decide +kernel
theorem dX10_compares_29 : decode cX10_compares 29 = .ok (.aload_n 0, 1) := by decide +kernel
theorem dX10_compares_30 : decode cX10_compares 30 = .ok (.iload_n 2, 1) := by decide +kernel
theorem dX10_compares_31 : decode cX10_compares 31 = .ok (.iload_n 3, 1) := by decide +kernel
theorem dX10_compares_32 : decode cX10_compares 32 = .ok (.invokevirtual 219, 3) := by decide +kernel
theorem dX10_compares_35 : decode cX10_compares 35 = .ok (.isub, 1) := by decide +kernel
theorem dX10_compares_36 : decode cX10_compares 36 = .ok (.ireturn, 1) := by decide +kernel
theorem dX10_compares_37 : decode cX10_compares 37 = .ok (.iinc 3 1, 3) := by decide +kernel
theorem dX10_compares_40 : decode cX10_compares 40 = .ok (.goto (-38), 3) := by decide +kernel
theorem dX10_compares_43 : decode cX10_compares 43 = .ok (.iconst 0, 1) := by decide +kernel
theorem dX10_compares_44 : decode cX10_compares 44 = .ok (.ireturn, 1) := by decide +kernel
theorem dX10_name_0 : decode cX10_name 0 = .ok (.aload_n 0, 1) := by decide +kernel
theorem dX10_name_1 : decode cX10_name 1 = .ok (.iload_n 1, 1) := by decide +kernel
theorem dX10_name_2 : decode cX10_name 2 = .ok (.invokevirtual 170, 3) := by decide +kernel
theorem dX10_name_5 : decode cX10_name 5 = .ok (.ifCond .eq 17, 3) := by decide +kernel
theorem dX10_name_8 : decode cX10_name 8 = .ok (.iload_n 2, 1) := by decide +kernel
theorem dX10_name_9 : decode cX10_name 9 = .ok (.iconst (-1), 1) := by decide +kernel
theorem dX10_name_10 : decode cX10_name 10 = .ok (.if_icmp .lt 12, 3) := by decide +kernel
theorem dX10_name_13 : decode cX10_name 13 = .ok (.iload_n 2, 1) := by decide +kernel
theorem dX10_name_14 : decode cX10_name 14 = .ok (.aload_n 0, 1) := by decide +kernel
theorem dX10_name_15 : decode cX10_name 15 = .ok (.iload_n 1, 1) := by decide +kernel
theorem dX10_name_16 : decode cX10_name 16 = .ok (.invokevirtual 222, 3) := by decide +kernel
theorem dX10_name_19 : decode cX10_name 19 = .ok (.if_icmp .lt 5, 3) := by decide +kernel
theorem dX10_name_22 : decode cX10_name 22 = .ok (.iconst (-1), 1) := by decide +kernel
theorem dX10_name_23 : decode cX10_name 23 = .ok (.ireturn, 1) := by decide +kernel
theorem dX10_name_24 : decode cX10_name 24 = .ok (.iload_n 2, 1) := by decide +kernel
theorem dX10_name_25 : decode cX10_name 25 = .ok (.ifCond .ge 11, 3) := by decide +kernel
theorem dX10_name_28 : decode cX10_name 28 = .ok (.aload_n 0, 1) := by decide +kernel
theorem dX10_name_29 : decode cX10_name 29 = .ok (.iload_n 1, 1) := by decide +kernel
theorem dX10_name_30 : decode cX10_name 30 = .ok (.invokevirtual 222, 3) := by decide +kernel
theorem dX10_name_33 : decode cX10_name 33 = .ok (.goto 9, 3) := by decide +kernel
theorem dX10_name_36 : decode cX10_name 36 = .ok (.aload_n 0, 1) := by decide +kernel
theorem dX10_name_37 : decode cX10_name 37 = .ok (.iload_n 1, 1) := by decide +kernel
theorem dX10_name_38 : decode cX10_name 38 = .ok (.iload_n 2, 1) := by decide +kernel
theorem dX10_name_39 : decode cX10_name 39 = .ok (.invokevirtual 219, 3) := by decide +kernel
theorem dX10_name_42 : decode cX10_name 42 = .ok (.ireturn, 1) := by decide +kernel
theorem dX10_find_0 : decode cX10_find 0 = .ok (.aload_n 0, 1) := by decide +kernel
theorem dX10_find_1 : decode cX10_find 1 = .ok (.getfield 160, 3) := by decide +kernel
theorem dX10_find_4 : decode cX10_find 4 = .ok (.istore_n 2, 1) := by decide +kernel
theorem dX10_find_5 : decode cX10_find 5 = .ok (.aload_n 0, 1) := by decide +kernel
theorem dX10_find_6 : decode cX10_find 6 = .ok (.iconst 0, 1) := by decide +kernel
theorem dX10_find_7 : decode cX10_find 7 = .ok (.putfield 160, 3) := by decide +kernel
theorem dX10_find_10 : decode cX10_find 10 = .ok (.iconst 0, 1) := by decide +kernel
theorem dX10_find_11 : decode cX10_find 11 = .ok (.istore_n 3, 1) := by decide +kernel
theorem dX10_find_12 : decode cX10_find 12 = .ok (.iconst 0, 1) := by decide +kernel
theorem dX10_find_13 : decode cX10_find 13 = .ok (.istore 4, 2) := by decide +kernel
theorem dX10_find_15 : decode cX10_find 15 = .ok (.iload 4, 2) := by decide +kernel
theorem dX10_find_17 : decode cX10_find 17 = .ok (.aload_n 0, 1) := by decide +kernel
theorem dX10_find_18 : decode cX10_find 18 = .ok (.getfield 11, 3) := by decide +kernel
theorem dX10_find_21 : decode cX10_find 21 = .ok (.iconst 0, 1) := by decide +kernel
theorem dX10_find_22 : decode cX10_find 22 = .ok (.iaload, 1) := by decide +kernel
theorem dX10_find_23 : decode cX10_find 23 = .ok (.if_icmp .ge 97, 3) := by decide +kernel
theorem dX10_find_26 : decode cX10_find 26 = .ok (.aload_n 0, 1) := by decide +kernel
theorem dX10_find_27 : decode cX10_find 27 = .ok (.iload 4, 2) := by decide +kernel
theorem dX10_find_29 : decode cX10_find 29 = .ok (.invokevirtual 222, 3) := by decide +kernel
theorem dX10_find_32 : decode cX10_find 32 = .ok (.iload_n 2, 1) := by decide +kernel
theorem dX10_find_33 : decode cX10_find 33 = .ok (.if_icmp .ne 7, 3) := by decide +kernel
theorem dX10_find_36 : decode cX10_find 36 = .ok (.iconst 1, 1) := by decide +kernel
theorem dX10_find_37 : decode cX10_find 37 = .ok (.goto 4, 3) := by decide +kernel
theorem dX10_find_40 : decode cX10_find 40 = .ok (.iconst 0, 1) := by decide +kernel
theorem dX10_find_41 : decode cX10_find 41 = .ok (.istore 5, 2) := by decide +kernel
theorem dX10_find_43 : decode cX10_find 43 = .ok (.iconst 0, 1) := by decide +kernel
theorem dX10_find_44 : decode cX10_find 44 = .ok (.istore 6, 2) := by decide +kernel
theorem dX10_find_46 : decode cX10_find 46 = .ok (.iload 6, 2) := by decide +kernel
theorem dX10_find_48 : decode cX10_find 48 = .ok (.iload_n 2, 1) := by decide +kernel
theorem dX10_find_49 : decode cX10_find 49 = .ok (.if_icmp .ge 39, 3) := by decide +kernel
theorem dX10_find_52 : decode cX10_find 52 = .ok (.iload 5, 2) := by decide +kernel
theorem dX10_find_54 : decode cX10_find 54 = .ok (.ifCond .eq 34, 3) := by decide +kernel
theorem dX10_find_57 : decode cX10_find 57 = .ok (.aload_n 0, 1) := by decide +kernel
theorem dX10_find_58 : decode cX10_find 58 = .ok (.iload 4, 2) := by decide +kernel
theorem dX10_find_60 : decode cX10_find 60 = .ok (.iload 6, 2) := by decide +kernel
theorem dX10_find_62 : decode cX10_find 62 = .ok (.invokevirtual 219, 3) := by decide +kernel
theorem dX10_find_65 : decode cX10_find 65 = .ok (.aload_n 0, 1) := by decide +kernel
theorem dX10_find_66 : decode cX10_find 66 = .ok (.getfield 18, 3) := by decide +kernel
theorem dX10_find_69 : decode cX10_find 69 = .ok (.iload 6, 2) := by decide +kernel
theorem dX10_find_71 : decode cX10_find 71 = .ok (.iaload, 1) := by decide +kernel
theorem dX10_find_72 : decode cX10_find 72 = .ok (.if_icmp .ne 7, 3) := by decide +kernel
theorem dX10_find_75 : decode cX10_find 75 = .ok (.iconst 1, 1) := by decide +kernel
theorem dX10_find_76 : decode cX10_find 76 = .ok (.goto 4, 3) := by decide +kernel
theorem dX10_find_79 : decode cX10_find 79 = .ok (.iconst 0, 1) := by decide +kernel
theorem dX10_find_80 : decode cX10_find 80 = .ok (.istore 5, 2) := by decide +kernel
theorem dX10_find_82 : decode cX10_find 82 = .ok (.iinc 6 1, 3) := by decide +kernel
theorem dX10_find_85 : decode cX10_find 85 = .ok (.goto (-39), 3) := by decide +kernel
theorem dX10_find_88 : decode cX10_find 88 = .ok (.iload 5, 2) := by decide +kernel
theorem dX10_find_90 : decode cX10_find 90 = .ok (.ifCond .eq 11, 3) := by decide +kernel
theorem dX10_find_93 : decode cX10_find 93 = .ok (.iload_n 3, 1) := by decide +kernel
theorem dX10_find_94 : decode cX10_find 94 = .ok (.iload_n 1, 1) := by decide +kernel
theorem dX10_find_95 : decode cX10_find 95 = .ok (.if_icmp .ne 6, 3) := by decide +kernel
theorem dX10_find_98 : decode cX10_find 98 = .ok (.iload 4, 2) := by decide +kernel
theorem dX10_find_100 : decode cX10_find 100 = .ok (.ireturn, 1) := by decide +kernel
theorem dX10_find_101 : decode cX10_find 101 = .ok (.iload_n 3, 1) := by decide +kernel
theorem dX10_find_102 : decode cX10_find 102 = .ok (.iload 5, 2) := by decide +kernel
theorem dX10_find_104 : decode cX10_find 104 = .ok (.ifCond .eq 7, 3) := by decide +kernel
theorem dX10_find_107 : decode cX10_find 107 = .ok (.iconst 1, 1) := by decide +kernel
theorem dX10_find_108 : decode cX10_find 108 = .ok (.goto 4, 3) := by decide +kernel
theorem dX10_find_111 : decode cX10_find 111 = .ok (.iconst 0, 1) := by decide +kernel
theorem dX10_find_112 : decode cX10_find 112 = .ok (.iadd, 1) := by decide +kernel
theorem dX10_find_113 : decode cX10_find 113 = .ok (.istore_n 3, 1) := by decide +kernel
theorem dX10_find_114 : decode cX10_find 114 = .ok (.iinc 4 1, 3) := by decide +kernel
theorem dX10_find_117 : decode cX10_find 117 = .ok (.goto (-102), 3) := by decide +kernel
theorem dX10_find_120 : decode cX10_find 120 = .ok (.bipush (-5), 2) := by decide +kernel
theorem dX10_find_122 : decode cX10_find 122 = .ok (.ireturn, 1) := by decide +kernel
theorem dX10_byName_0 : decode cX10_byName 0 = .ok (.iconst 0, 1) := by decide +kernel
theorem dX10_byName_1 : decode cX10_byName 1 = .ok (.istore_n 2, 1) := by decide +kernel
theorem dX10_byName_2 : decode cX10_byName 2 = .ok (.iload_n 2, 1) := by decide +kernel
theorem dX10_byName_3 : decode cX10_byName 3 = .ok (.aload_n 0, 1) := by decide +kernel
theorem dX10_byName_4 : decode cX10_byName 4 = .ok (.getfield 11, 3) := by decide +kernel
theorem dX10_byName_7 : decode cX10_byName 7 = .ok (.iconst 0, 1) := by decide +kernel
theorem dX10_byName_8 : decode cX10_byName 8 = .ok (.iaload, 1) := by decide +kernel
theorem dX10_byName_9 : decode cX10_byName 9 = .ok (.if_icmp .ge 72, 3) := by decide +kernel
theorem dX10_byName_12 : decode cX10_byName 12 = .ok (.iconst 0, 1) := by decide +kernel
theorem dX10_byName_13 : decode cX10_byName 13 = .ok (.istore_n 3, 1) := by decide +kernel
theorem dX10_byName_14 : decode cX10_byName 14 = .ok (.iconst 0, 1) := by decide +kernel
theorem dX10_byName_15 : decode cX10_byName 15 = .ok (.istore 4, 2) := by decide +kernel
theorem dX10_byName_17 : decode cX10_byName 17 = .ok (.iload 4, 2) := by decide +kernel
theorem dX10_byName_19 : decode cX10_byName 19 = .ok (.aload_n 0, 1) := by decide +kernel
theorem dX10_byName_20 : decode cX10_byName 20 = .ok (.getfield 11, 3) := by decide +kernel
theorem dX10_byName_23 : decode cX10_byName 23 = .ok (.iconst 0, 1) := by decide +kernel
theorem dX10_byName_24 : decode cX10_byName 24 = .ok (.iaload, 1) := by decide +kernel
theorem dX10_byName_25 : decode cX10_byName 25 = .ok (.if_icmp .ge 43, 3) := by decide +kernel
theorem dX10_byName_28 : decode cX10_byName 28 = .ok (.iload_n 3, 1) := by decide +kernel
theorem dX10_byName_29 : decode cX10_byName 29 = .ok (.aload_n 0, 1) := by decide +kernel
theorem dX10_byName_30 : decode cX10_byName 30 = .ok (.iload 4, 2) := by decide +kernel
theorem dX10_byName_32 : decode cX10_byName 32 = .ok (.iload_n 2, 1) := by decide +kernel
theorem dX10_byName_33 : decode cX10_byName 33 = .ok (.invokevirtual 225, 3) := by decide +kernel
theorem dX10_byName_36 : decode cX10_byName 36 = .ok (.ifCond .lt 19, 3) := by decide +kernel
theorem dX10_byName_39 : decode cX10_byName 39 = .ok (.aload_n 0, 1) := by decide +kernel
theorem dX10_byName_40 : decode cX10_byName 40 = .ok (.iload 4, 2) := by decide +kernel
theorem dX10_byName_42 : decode cX10_byName 42 = .ok (.iload_n 2, 1) := by decide +kernel
theorem dX10_byName_43 : decode cX10_byName 43 = .ok (.invokevirtual 225, 3) := by decide +kernel
theorem dX10_byName_46 : decode cX10_byName 46 = .ok (.ifCond .ne 13, 3) := by decide +kernel
theorem dX10_byName_49 : decode cX10_byName 49 = .ok (.iload 4, 2) := by decide +kernel
theorem dX10_byName_51 : decode cX10_byName 51 = .ok (.iload_n 2, 1) := by decide +kernel
theorem dX10_byName_52 : decode cX10_byName 52 = .ok (.if_icmp .ge 7, 3) := by decide +kernel
theorem dX10_byName_55 : decode cX10_byName 55 = .ok (.iconst 1, 1) := by decide +kernel
theorem dX10_byName_56 : decode cX10_byName 56 = .ok (.goto 4, 3) := by decide +kernel
theorem dX10_byName_59 : decode cX10_byName 59 = .ok (.iconst 0, 1) := by decide +kernel
theorem dX10_byName_60 : decode cX10_byName 60 = .ok (.iadd, 1) := by decide +kernel
theorem dX10_byName_61 : decode cX10_byName 61 = .ok (.istore_n 3, 1) := by decide +kernel
theorem dX10_byName_62 : decode cX10_byName 62 = .ok (.iinc 4 1, 3) := by decide +kernel
theorem dX10_byName_65 : decode cX10_byName 65 = .ok (.goto (-48), 3) := by decide +kernel
theorem dX10_byName_68 : decode cX10_byName 68 = .ok (.iload_n 3, 1) := by decide +kernel
theorem dX10_byName_69 : decode cX10_byName 69 = .ok (.iload_n 1, 1) := by decide +kernel
theorem dX10_byName_70 : decode cX10_byName 70 = .ok (.if_icmp .ne 5, 3) := by decide +kernel
theorem dX10_byName_73 : decode cX10_byName 73 = .ok (.iload_n 2, 1) := by decide +kernel
theorem dX10_byName_74 : decode cX10_byName 74 = .ok (.ireturn, 1) := by decide +kernel
theorem dX10_byName_75 : decode cX10_byName 75 = .ok (.iinc 2 1, 3) := by decide +kernel
theorem dX10_byName_78 : decode cX10_byName 78 = .ok (.goto (-76), 3) := by decide +kernel
theorem dX10_byName_81 : decode cX10_byName 81 = .ok (.iconst (-1), 1) := by decide +kernel
theorem dX10_byName_82 : decode cX10_byName 82 = .ok (.ireturn, 1) := by decide +kernel
theorem dX10_least_0 : decode cX10_least 0 = .ok (.iconst 0, 1) := by decide +kernel
theorem dX10_least_1 : decode cX10_least 1 = .ok (.istore_n 1, 1) := by decide +kernel
theorem dX10_least_2 : decode cX10_least 2 = .ok (.iload_n 1, 1) := by decide +kernel
theorem dX10_least_3 : decode cX10_least 3 = .ok (.bipush 30, 2) := by decide +kernel
theorem dX10_least_5 : decode cX10_least 5 = .ok (.if_icmp .ge 19, 3) := by decide +kernel
theorem dX10_least_8 : decode cX10_least 8 = .ok (.iload_n 0, 1) := by decide +kernel
theorem dX10_least_9 : decode cX10_least 9 = .ok (.iload_n 1, 1) := by decide +kernel
theorem dX10_least_10 : decode cX10_least 10 = .ok (.invokestatic 89, 3) := by decide +kernel
theorem dX10_least_13 : decode cX10_least 13 = .ok (.ifCond .eq 5, 3) := by decide +kernel
theorem dX10_least_16 : decode cX10_least 16 = .ok (.iload_n 1, 1) := by decide +kernel
theorem dX10_least_17 : decode cX10_least 17 = .ok (.ireturn, 1) := by decide +kernel
theorem dX10_least_18 : decode cX10_least 18 = .ok (.iinc 1 1, 3) := by decide +kernel
theorem dX10_least_21 : decode cX10_least 21 = .ok (.goto (-19), 3) := by decide +kernel
theorem dX10_least_24 : decode cX10_least 24 = .ok (.bipush (-5), 2) := by decide +kernel
theorem dX10_least_26 : decode cX10_least 26 = .ok (.ireturn, 1) := by decide +kernel
theorem dX10_childrenOf_0 : decode cX10_childrenOf 0 = .ok (.iconst 0, 1) := by decide +kernel
theorem dX10_childrenOf_1 : decode cX10_childrenOf 1 = .ok (.istore_n 2, 1) := by decide +kernel
theorem dX10_childrenOf_2 : decode cX10_childrenOf 2 = .ok (.iconst 0, 1) := by decide +kernel
theorem dX10_childrenOf_3 : decode cX10_childrenOf 3 = .ok (.istore_n 3, 1) := by decide +kernel
theorem dX10_childrenOf_4 : decode cX10_childrenOf 4 = .ok (.iload_n 3, 1) := by decide +kernel
theorem dX10_childrenOf_5 : decode cX10_childrenOf 5 = .ok (.aload_n 0, 1) := by decide +kernel
theorem dX10_childrenOf_6 : decode cX10_childrenOf 6 = .ok (.getfield 11, 3) := by decide +kernel
theorem dX10_childrenOf_9 : decode cX10_childrenOf 9 = .ok (.iconst 0, 1) := by decide +kernel
theorem dX10_childrenOf_10 : decode cX10_childrenOf 10 = .ok (.iaload, 1) := by decide +kernel
theorem dX10_childrenOf_11 : decode cX10_childrenOf 11 = .ok (.if_icmp .ge 39, 3) := by decide +kernel
theorem dX10_childrenOf_14 : decode cX10_childrenOf 14 = .ok (.iload_n 2, 1) := by decide +kernel
theorem dX10_childrenOf_15 : decode cX10_childrenOf 15 = .ok (.aload_n 0, 1) := by decide +kernel
theorem dX10_childrenOf_16 : decode cX10_childrenOf 16 = .ok (.getfield 30, 3) := by decide +kernel
theorem dX10_childrenOf_19 : decode cX10_childrenOf 19 = .ok (.iload_n 3, 1) := by decide +kernel
theorem dX10_childrenOf_20 : decode cX10_childrenOf 20 = .ok (.iaload, 1) := by decide +kernel
theorem dX10_childrenOf_21 : decode cX10_childrenOf 21 = .ok (.aload_n 0, 1) := by decide +kernel
theorem dX10_childrenOf_22 : decode cX10_childrenOf 22 = .ok (.getfield 33, 3) := by decide +kernel
theorem dX10_childrenOf_25 : decode cX10_childrenOf 25 = .ok (.iload_n 3, 1) := by decide +kernel
theorem dX10_childrenOf_26 : decode cX10_childrenOf 26 = .ok (.iaload, 1) := by decide +kernel
theorem dX10_childrenOf_27 : decode cX10_childrenOf 27 = .ok (.ior, 1) := by decide +kernel
theorem dX10_childrenOf_28 : decode cX10_childrenOf 28 = .ok (.iload_n 1, 1) := by decide +kernel
theorem dX10_childrenOf_29 : decode cX10_childrenOf 29 = .ok (.invokestatic 89, 3) := by decide +kernel
theorem dX10_childrenOf_32 : decode cX10_childrenOf 32 = .ok (.ifCond .eq 9, 3) := by decide +kernel
theorem dX10_childrenOf_35 : decode cX10_childrenOf 35 = .ok (.iconst 1, 1) := by decide +kernel
theorem dX10_childrenOf_36 : decode cX10_childrenOf 36 = .ok (.iload_n 3, 1) := by decide +kernel
theorem dX10_childrenOf_37 : decode cX10_childrenOf 37 = .ok (.ishl, 1) := by decide +kernel
theorem dX10_childrenOf_38 : decode cX10_childrenOf 38 = .ok (.goto 4, 3) := by decide +kernel
theorem dX10_childrenOf_41 : decode cX10_childrenOf 41 = .ok (.iconst 0, 1) := by decide +kernel
theorem dX10_childrenOf_42 : decode cX10_childrenOf 42 = .ok (.ior, 1) := by decide +kernel
theorem dX10_childrenOf_43 : decode cX10_childrenOf 43 = .ok (.istore_n 2, 1) := by decide +kernel
theorem dX10_childrenOf_44 : decode cX10_childrenOf 44 = .ok (.iinc 3 1, 3) := by decide +kernel
theorem dX10_childrenOf_47 : decode cX10_childrenOf 47 = .ok (.goto (-43), 3) := by decide +kernel
theorem dX10_childrenOf_50 : decode cX10_childrenOf 50 = .ok (.iload_n 2, 1) := by decide +kernel
theorem dX10_childrenOf_51 : decode cX10_childrenOf 51 = .ok (.ireturn, 1) := by decide +kernel
theorem dX10_marriedTo_0 : decode cX10_marriedTo 0 = .ok (.iconst 0, 1) := by decide +kernel
theorem dX10_marriedTo_1 : decode cX10_marriedTo 1 = .ok (.istore_n 2, 1) := by decide +kernel
theorem dX10_marriedTo_2 : decode cX10_marriedTo 2 = .ok (.iconst 0, 1) := by decide +kernel
theorem dX10_marriedTo_3 : decode cX10_marriedTo 3 = .ok (.istore_n 3, 1) := by decide +kernel
theorem dX10_marriedTo_4 : decode cX10_marriedTo 4 = .ok (.iload_n 3, 1) := by decide +kernel
theorem dX10_marriedTo_5 : decode cX10_marriedTo 5 = .ok (.aload_n 0, 1) := by decide +kernel
theorem dX10_marriedTo_6 : decode cX10_marriedTo 6 = .ok (.getfield 11, 3) := by decide +kernel
theorem dX10_marriedTo_9 : decode cX10_marriedTo 9 = .ok (.iconst 1, 1) := by decide +kernel
theorem dX10_marriedTo_10 : decode cX10_marriedTo 10 = .ok (.iaload, 1) := by decide +kernel
theorem dX10_marriedTo_11 : decode cX10_marriedTo 11 = .ok (.if_icmp .ge 79, 3) := by decide +kernel
theorem dX10_marriedTo_14 : decode cX10_marriedTo 14 = .ok (.aload_n 0, 1) := by decide +kernel
theorem dX10_marriedTo_15 : decode cX10_marriedTo 15 = .ok (.iload_n 3, 1) := by decide +kernel
theorem dX10_marriedTo_16 : decode cX10_marriedTo 16 = .ok (.iconst 4, 1) := by decide +kernel
theorem dX10_marriedTo_17 : decode cX10_marriedTo 17 = .ok (.invokevirtual 80, 3) := by decide +kernel
theorem dX10_marriedTo_20 : decode cX10_marriedTo 20 = .ok (.ifCond .ne 6, 3) := by decide +kernel
theorem dX10_marriedTo_23 : decode cX10_marriedTo 23 = .ok (.goto 61, 3) := by decide +kernel
theorem dX10_marriedTo_26 : decode cX10_marriedTo 26 = .ok (.aload_n 0, 1) := by decide +kernel
theorem dX10_marriedTo_27 : decode cX10_marriedTo 27 = .ok (.getfield 27, 3) := by decide +kernel
theorem dX10_marriedTo_30 : decode cX10_marriedTo 30 = .ok (.aload_n 0, 1) := by decide +kernel
theorem dX10_marriedTo_31 : decode cX10_marriedTo 31 = .ok (.iload_n 3, 1) := by decide +kernel
theorem dX10_marriedTo_32 : decode cX10_marriedTo 32 = .ok (.iconst 1, 1) := by decide +kernel
theorem dX10_marriedTo_33 : decode cX10_marriedTo 33 = .ok (.invokevirtual 76, 3) := by decide +kernel
theorem dX10_marriedTo_36 : decode cX10_marriedTo 36 = .ok (.iaload, 1) := by decide +kernel
theorem dX10_marriedTo_37 : decode cX10_marriedTo 37 = .ok (.istore 4, 2) := by decide +kernel
theorem dX10_marriedTo_39 : decode cX10_marriedTo 39 = .ok (.aload_n 0, 1) := by decide +kernel
theorem dX10_marriedTo_40 : decode cX10_marriedTo 40 = .ok (.getfield 27, 3) := by decide +kernel
theorem dX10_marriedTo_43 : decode cX10_marriedTo 43 = .ok (.aload_n 0, 1) := by decide +kernel
theorem dX10_marriedTo_44 : decode cX10_marriedTo 44 = .ok (.iload_n 3, 1) := by decide +kernel
theorem dX10_marriedTo_45 : decode cX10_marriedTo 45 = .ok (.iconst 2, 1) := by decide +kernel
theorem dX10_marriedTo_46 : decode cX10_marriedTo 46 = .ok (.invokevirtual 76, 3) := by decide +kernel
theorem dX10_marriedTo_49 : decode cX10_marriedTo 49 = .ok (.iaload, 1) := by decide +kernel
theorem dX10_marriedTo_50 : decode cX10_marriedTo 50 = .ok (.istore 5, 2) := by decide +kernel
theorem dX10_marriedTo_52 : decode cX10_marriedTo 52 = .ok (.iload_n 2, 1) := by decide +kernel
theorem dX10_marriedTo_53 : decode cX10_marriedTo 53 = .ok (.iload 4, 2) := by decide +kernel
theorem dX10_marriedTo_55 : decode cX10_marriedTo 55 = .ok (.iload_n 1, 1) := by decide +kernel
theorem dX10_marriedTo_56 : decode cX10_marriedTo 56 = .ok (.if_icmp .ne 10, 3) := by decide +kernel
theorem dX10_marriedTo_59 : decode cX10_marriedTo 59 = .ok (.iconst 1, 1) := by decide +kernel
theorem dX10_marriedTo_60 : decode cX10_marriedTo 60 = .ok (.iload 5, 2) := by decide +kernel
theorem dX10_marriedTo_62 : decode cX10_marriedTo 62 = .ok (.ishl, 1) := by decide +kernel
theorem dX10_marriedTo_63 : decode cX10_marriedTo 63 = .ok (.goto 4, 3) := by decide +kernel
theorem dX10_marriedTo_66 : decode cX10_marriedTo 66 = .ok (.iconst 0, 1) := by decide +kernel
theorem dX10_marriedTo_67 : decode cX10_marriedTo 67 = .ok (.iload 5, 2) := by decide +kernel
theorem dX10_marriedTo_69 : decode cX10_marriedTo 69 = .ok (.iload_n 1, 1) := by decide +kernel
theorem dX10_marriedTo_70 : decode cX10_marriedTo 70 = .ok (.if_icmp .ne 10, 3) := by decide +kernel
theorem dX10_marriedTo_73 : decode cX10_marriedTo 73 = .ok (.iconst 1, 1) := by decide +kernel
theorem dX10_marriedTo_74 : decode cX10_marriedTo 74 = .ok (.iload 4, 2) := by decide +kernel
theorem dX10_marriedTo_76 : decode cX10_marriedTo 76 = .ok (.ishl, 1) := by decide +kernel
theorem dX10_marriedTo_77 : decode cX10_marriedTo 77 = .ok (.goto 4, 3) := by decide +kernel
theorem dX10_marriedTo_80 : decode cX10_marriedTo 80 = .ok (.iconst 0, 1) := by decide +kernel
theorem dX10_marriedTo_81 : decode cX10_marriedTo 81 = .ok (.ior, 1) := by decide +kernel
theorem dX10_marriedTo_82 : decode cX10_marriedTo 82 = .ok (.ior, 1) := by decide +kernel
theorem dX10_marriedTo_83 : decode cX10_marriedTo 83 = .ok (.istore_n 2, 1) := by decide +kernel
theorem dX10_marriedTo_84 : decode cX10_marriedTo 84 = .ok (.iinc 3 1, 3) := by decide +kernel
theorem dX10_marriedTo_87 : decode cX10_marriedTo 87 = .ok (.goto (-83), 3) := by decide +kernel
theorem dX10_marriedTo_90 : decode cX10_marriedTo 90 = .ok (.iload_n 2, 1) := by decide +kernel
theorem dX10_marriedTo_91 : decode cX10_marriedTo 91 = .ok (.ireturn, 1) := by decide +kernel
theorem dX10_marriages_0 : decode cX10_marriages 0 = .ok (.iconst 0, 1) := by decide +kernel
theorem dX10_marriages_1 : decode cX10_marriages 1 = .ok (.istore_n 2, 1) := by decide +kernel
theorem dX10_marriages_2 : decode cX10_marriages 2 = .ok (.iconst 0, 1) := by decide +kernel
theorem dX10_marriages_3 : decode cX10_marriages 3 = .ok (.istore_n 3, 1) := by decide +kernel
theorem dX10_marriages_4 : decode cX10_marriages 4 = .ok (.iload_n 3, 1) := by decide +kernel
theorem dX10_marriages_5 : decode cX10_marriages 5 = .ok (.aload_n 0, 1) := by decide +kernel
theorem dX10_marriages_6 : decode cX10_marriages 6 = .ok (.getfield 11, 3) := by decide +kernel
theorem dX10_marriages_9 : decode cX10_marriages 9 = .ok (.iconst 1, 1) := by decide +kernel
theorem dX10_marriages_10 : decode cX10_marriages 10 = .ok (.iaload, 1) := by decide +kernel
theorem dX10_marriages_11 : decode cX10_marriages 11 = .ok (.if_icmp .ge 56, 3) := by decide +kernel
theorem dX10_marriages_14 : decode cX10_marriages 14 = .ok (.iload_n 2, 1) := by decide +kernel
theorem dX10_marriages_15 : decode cX10_marriages 15 = .ok (.aload_n 0, 1) := by decide +kernel
theorem dX10_marriages_16 : decode cX10_marriages 16 = .ok (.iload_n 3, 1) := by decide +kernel
theorem dX10_marriages_17 : decode cX10_marriages 17 = .ok (.iconst 4, 1) := by decide +kernel
theorem dX10_marriages_18 : decode cX10_marriages 18 = .ok (.invokevirtual 80, 3) := by decide +kernel
theorem dX10_marriages_21 : decode cX10_marriages 21 = .ok (.ifCond .eq 37, 3) := by decide +kernel
theorem dX10_marriages_24 : decode cX10_marriages 24 = .ok (.aload_n 0, 1) := by decide +kernel
theorem dX10_marriages_25 : decode cX10_marriages 25 = .ok (.getfield 27, 3) := by decide +kernel
theorem dX10_marriages_28 : decode cX10_marriages 28 = .ok (.aload_n 0, 1) := by decide +kernel
theorem dX10_marriages_29 : decode cX10_marriages 29 = .ok (.iload_n 3, 1) := by decide +kernel
theorem dX10_marriages_30 : decode cX10_marriages 30 = .ok (.iconst 1, 1) := by decide +kernel
theorem dX10_marriages_31 : decode cX10_marriages 31 = .ok (.invokevirtual 76, 3) := by decide +kernel
theorem dX10_marriages_34 : decode cX10_marriages 34 = .ok (.iaload, 1) := by decide +kernel
theorem dX10_marriages_35 : decode cX10_marriages 35 = .ok (.iload_n 1, 1) := by decide +kernel
theorem dX10_marriages_36 : decode cX10_marriages 36 = .ok (.if_icmp .eq 18, 3) := by decide +kernel
theorem dX10_marriages_39 : decode cX10_marriages 39 = .ok (.aload_n 0, 1) := by decide +kernel
theorem dX10_marriages_40 : decode cX10_marriages 40 = .ok (.getfield 27, 3) := by decide +kernel
theorem dX10_marriages_43 : decode cX10_marriages 43 = .ok (.aload_n 0, 1) := by decide +kernel
theorem dX10_marriages_44 : decode cX10_marriages 44 = .ok (.iload_n 3, 1) := by decide +kernel
theorem dX10_marriages_45 : decode cX10_marriages 45 = .ok (.iconst 2, 1) := by decide +kernel
theorem dX10_marriages_46 : decode cX10_marriages 46 = .ok (.invokevirtual 76, 3) := by decide +kernel
theorem dX10_marriages_49 : decode cX10_marriages 49 = .ok (.iaload, 1) := by decide +kernel
theorem dX10_marriages_50 : decode cX10_marriages 50 = .ok (.iload_n 1, 1) := by decide +kernel
theorem dX10_marriages_51 : decode cX10_marriages 51 = .ok (.if_icmp .ne 7, 3) := by decide +kernel
theorem dX10_marriages_54 : decode cX10_marriages 54 = .ok (.iconst 1, 1) := by decide +kernel
theorem dX10_marriages_55 : decode cX10_marriages 55 = .ok (.goto 4, 3) := by decide +kernel
theorem dX10_marriages_58 : decode cX10_marriages 58 = .ok (.iconst 0, 1) := by decide +kernel
theorem dX10_marriages_59 : decode cX10_marriages 59 = .ok (.iadd, 1) := by decide +kernel
theorem dX10_marriages_60 : decode cX10_marriages 60 = .ok (.istore_n 2, 1) := by decide +kernel
theorem dX10_marriages_61 : decode cX10_marriages 61 = .ok (.iinc 3 1, 3) := by decide +kernel
theorem dX10_marriages_64 : decode cX10_marriages 64 = .ok (.goto (-60), 3) := by decide +kernel
theorem dX10_marriages_67 : decode cX10_marriages 67 = .ok (.iload_n 2, 1) := by decide +kernel
theorem dX10_marriages_68 : decode cX10_marriages 68 = .ok (.ireturn, 1) := by decide +kernel
theorem dX10_ages_0 : decode cX10_ages 0 = .ok (.iconst 0, 1) := by decide +kernel
theorem dX10_ages_1 : decode cX10_ages 1 = .ok (.istore_n 1, 1) := by decide +kernel
theorem dX10_ages_2 : decode cX10_ages 2 = .ok (.iload_n 1, 1) := by decide +kernel
theorem dX10_ages_3 : decode cX10_ages 3 = .ok (.aload_n 0, 1) := by decide +kernel
theorem dX10_ages_4 : decode cX10_ages 4 = .ok (.getfield 11, 3) := by decide +kernel
theorem dX10_ages_7 : decode cX10_ages 7 = .ok (.iconst 0, 1) := by decide +kernel
theorem dX10_ages_8 : decode cX10_ages 8 = .ok (.iaload, 1) := by decide +kernel
theorem dX10_ages_9 : decode cX10_ages 9 = .ok (.if_icmp .ge 31, 3) := by decide +kernel
theorem dX10_ages_12 : decode cX10_ages 12 = .ok (.aload_n 0, 1) := by decide +kernel
theorem dX10_ages_13 : decode cX10_ages 13 = .ok (.getfield 60, 3) := by decide +kernel
theorem dX10_ages_16 : decode cX10_ages 16 = .ok (.iload_n 1, 1) := by decide +kernel
theorem dX10_ages_17 : decode cX10_ages 17 = .ok (.iconst 0, 1) := by decide +kernel
theorem dX10_ages_18 : decode cX10_ages 18 = .ok (.iastore, 1) := by decide +kernel
theorem dX10_ages_19 : decode cX10_ages 19 = .ok (.aload_n 0, 1) := by decide +kernel
theorem dX10_ages_20 : decode cX10_ages 20 = .ok (.getfield 36, 3) := by decide +kernel
theorem dX10_ages_23 : decode cX10_ages 23 = .ok (.iload_n 1, 1) := by decide +kernel
theorem dX10_ages_24 : decode cX10_ages 24 = .ok (.iaload, 1) := by decide +kernel
theorem dX10_ages_25 : decode cX10_ages 25 = .ok (.iload_n 1, 1) := by decide +kernel
theorem dX10_ages_26 : decode cX10_ages 26 = .ok (.invokestatic 89, 3) := by decide +kernel
theorem dX10_ages_29 : decode cX10_ages 29 = .ok (.ifCond .eq 5, 3) := by decide +kernel
theorem dX10_ages_32 : decode cX10_ages 32 = .ok (.iconst 0, 1) := by decide +kernel
theorem dX10_ages_33 : decode cX10_ages 33 = .ok (.ireturn, 1) := by decide +kernel
theorem dX10_ages_34 : decode cX10_ages 34 = .ok (.iinc 1 1, 3) := by decide +kernel
theorem dX10_ages_37 : decode cX10_ages 37 = .ok (.goto (-35), 3) := by decide +kernel
theorem dX10_ages_40 : decode cX10_ages 40 = .ok (.iconst 0, 1) := by decide +kernel
theorem dX10_ages_41 : decode cX10_ages 41 = .ok (.istore_n 1, 1) := by decide +kernel
theorem dX10_ages_42 : decode cX10_ages 42 = .ok (.iload_n 1, 1) := by decide +kernel
theorem dX10_ages_43 : decode cX10_ages 43 = .ok (.aload_n 0, 1) := by decide +kernel
theorem dX10_ages_44 : decode cX10_ages 44 = .ok (.getfield 11, 3) := by decide +kernel
theorem dX10_ages_47 : decode cX10_ages 47 = .ok (.iconst 0, 1) := by decide +kernel
theorem dX10_ages_48 : decode cX10_ages 48 = .ok (.iaload, 1) := by decide +kernel
theorem dX10_ages_49 : decode cX10_ages 49 = .ok (.if_icmp .ge 97, 3) := by decide +kernel
theorem dX10_ages_52 : decode cX10_ages 52 = .ok (.iconst 0, 1) := by decide +kernel
theorem dX10_ages_53 : decode cX10_ages 53 = .ok (.istore_n 2, 1) := by decide +kernel
theorem dX10_ages_54 : decode cX10_ages 54 = .ok (.iload_n 2, 1) := by decide +kernel
theorem dX10_ages_55 : decode cX10_ages 55 = .ok (.aload_n 0, 1) := by decide +kernel
theorem dX10_ages_56 : decode cX10_ages 56 = .ok (.getfield 11, 3) := by decide +kernel
theorem dX10_ages_59 : decode cX10_ages 59 = .ok (.iconst 0, 1) := by decide +kernel
theorem dX10_ages_60 : decode cX10_ages 60 = .ok (.iaload, 1) := by decide +kernel
theorem dX10_ages_61 : decode cX10_ages 61 = .ok (.if_icmp .ge 79, 3) := by decide +kernel
theorem dX10_ages_64 : decode cX10_ages 64 = .ok (.iconst 0, 1) := by decide +kernel
theorem dX10_ages_65 : decode cX10_ages 65 = .ok (.istore_n 3, 1) := by decide +kernel
theorem dX10_ages_66 : decode cX10_ages 66 = .ok (.iload_n 3, 1) := by decide +kernel
theorem dX10_ages_67 : decode cX10_ages 67 = .ok (.aload_n 0, 1) := by decide +kernel
theorem dX10_ages_68 : decode cX10_ages 68 = .ok (.getfield 11, 3) := by decide +kernel
theorem dX10_ages_71 : decode cX10_ages 71 = .ok (.iconst 0, 1) := by decide +kernel
theorem dX10_ages_72 : decode cX10_ages 72 = .ok (.iaload, 1) := by decide +kernel
theorem dX10_ages_73 : decode cX10_ages 73 = .ok (.if_icmp .ge 61, 3) := by decide +kernel
theorem dX10_ages_76 : decode cX10_ages 76 = .ok (.aload_n 0, 1) := by decide +kernel
theorem dX10_ages_77 : decode cX10_ages 77 = .ok (.getfield 60, 3) := by decide +kernel
theorem dX10_ages_80 : decode cX10_ages 80 = .ok (.iload_n 2, 1) := by decide +kernel
theorem dX10_ages_81 : decode cX10_ages 81 = .ok (.aload_n 0, 1) := by decide +kernel
theorem dX10_ages_82 : decode cX10_ages 82 = .ok (.getfield 30, 3) := by decide +kernel
theorem dX10_ages_85 : decode cX10_ages 85 = .ok (.iload_n 2, 1) := by decide +kernel
theorem dX10_ages_86 : decode cX10_ages 86 = .ok (.iaload, 1) := by decide +kernel
theorem dX10_ages_87 : decode cX10_ages 87 = .ok (.aload_n 0, 1) := by decide +kernel
theorem dX10_ages_88 : decode cX10_ages 88 = .ok (.getfield 33, 3) := by decide +kernel
theorem dX10_ages_91 : decode cX10_ages 91 = .ok (.iload_n 2, 1) := by decide +kernel
theorem dX10_ages_92 : decode cX10_ages 92 = .ok (.iaload, 1) := by decide +kernel
theorem dX10_ages_93 : decode cX10_ages 93 = .ok (.ior, 1) := by decide +kernel
theorem dX10_ages_94 : decode cX10_ages 94 = .ok (.iload_n 3, 1) := by decide +kernel
theorem dX10_ages_95 : decode cX10_ages 95 = .ok (.invokestatic 89, 3) := by decide +kernel
theorem dX10_ages_98 : decode cX10_ages 98 = .ok (.ifCond .eq 23, 3) := by decide +kernel
theorem dX10_ages_101 : decode cX10_ages 101 = .ok (.aload_n 0, 1) := by decide +kernel
theorem dX10_ages_102 : decode cX10_ages 102 = .ok (.getfield 60, 3) := by decide +kernel
theorem dX10_ages_105 : decode cX10_ages 105 = .ok (.iload_n 2, 1) := by decide +kernel
theorem dX10_ages_106 : decode cX10_ages 106 = .ok (.iaload, 1) := by decide +kernel
theorem dX10_ages_107 : decode cX10_ages 107 = .ok (.aload_n 0, 1) := by decide +kernel
theorem dX10_ages_108 : decode cX10_ages 108 = .ok (.getfield 60, 3) := by decide +kernel
theorem dX10_ages_111 : decode cX10_ages 111 = .ok (.iload_n 3, 1) := by decide +kernel
theorem dX10_ages_112 : decode cX10_ages 112 = .ok (.iaload, 1) := by decide +kernel
theorem dX10_ages_113 : decode cX10_ages 113 = .ok (.iconst 1, 1) := by decide +kernel
theorem dX10_ages_114 : decode cX10_ages 114 = .ok (.iadd, 1) := by decide +kernel
theorem dX10_ages_115 : decode cX10_ages 115 = .ok (.invokestatic 228, 3) := by decide +kernel
theorem dX10_ages_118 : decode cX10_ages 118 = .ok (.goto 9, 3) := by decide +kernel
theorem dX10_ages_121 : decode cX10_ages 121 = .ok (.aload_n 0, 1) := by decide +kernel
theorem dX10_ages_122 : decode cX10_ages 122 = .ok (.getfield 60, 3) := by decide +kernel
theorem dX10_ages_125 : decode cX10_ages 125 = .ok (.iload_n 2, 1) := by decide +kernel
theorem dX10_ages_126 : decode cX10_ages 126 = .ok (.iaload, 1) := by decide +kernel
theorem dX10_ages_127 : decode cX10_ages 127 = .ok (.iastore, 1) := by decide +kernel
theorem dX10_ages_128 : decode cX10_ages 128 = .ok (.iinc 3 1, 3) := by decide +kernel
theorem dX10_ages_131 : decode cX10_ages 131 = .ok (.goto (-65), 3) := by decide +kernel
theorem dX10_ages_134 : decode cX10_ages 134 = .ok (.iinc 2 1, 3) := by decide +kernel
theorem dX10_ages_137 : decode cX10_ages 137 = .ok (.goto (-83), 3) := by decide +kernel
theorem dX10_ages_140 : decode cX10_ages 140 = .ok (.iinc 1 1, 3) := by decide +kernel
theorem dX10_ages_143 : decode cX10_ages 143 = .ok (.goto (-101), 3) := by decide +kernel
theorem dX10_ages_146 : decode cX10_ages 146 = .ok (.iconst 1, 1) := by decide +kernel
theorem dX10_ages_147 : decode cX10_ages 147 = .ok (.ireturn, 1) := by decide +kernel
theorem dX10_people_0 : decode cX10_people 0 = .ok (.aload_n 0, 1) := by decide +kernel
theorem dX10_people_1 : decode cX10_people 1 = .ok (.iload_n 1, 1) := by decide +kernel
theorem dX10_people_2 : decode cX10_people 2 = .ok (.invokevirtual 170, 3) := by decide +kernel
theorem dX10_people_5 : decode cX10_people 5 = .ok (.ifCond .ne 5, 3) := by decide +kernel
theorem dX10_people_8 : decode cX10_people 8 = .ok (.iconst (-1), 1) := by decide +kernel
theorem dX10_people_9 : decode cX10_people 9 = .ok (.ireturn, 1) := by decide +kernel
theorem dX10_people_10 : decode cX10_people 10 = .ok (.aload_n 0, 1) := by decide +kernel
theorem dX10_people_11 : decode cX10_people 11 = .ok (.getfield 27, 3) := by decide +kernel
theorem dX10_people_14 : decode cX10_people 14 = .ok (.iload_n 1, 1) := by decide +kernel
theorem dX10_people_15 : decode cX10_people 15 = .ok (.iaload, 1) := by decide +kernel
theorem dX10_people_16 : decode cX10_people 16 = .ok (.istore_n 3, 1) := by decide +kernel
theorem dX10_people_17 : decode cX10_people 17 = .ok (.iconst 0, 1) := by decide +kernel
theorem dX10_people_18 : decode cX10_people 18 = .ok (.istore 4, 2) := by decide +kernel
theorem dX10_people_20 : decode cX10_people 20 = .ok (.iload_n 2, 1) := by decide +kernel
theorem dX10_people_21 : decode cX10_people 21 = .ok (.tableswitch 153 0 7 #[47, 49, 93, 99, 109, 119, 128, 134], 47) := by decide +kernel
theorem dX10_people_68 : decode cX10_people 68 = .ok (.iload_n 3, 1) := by decide +kernel
theorem dX10_people_69 : decode cX10_people 69 = .ok (.ireturn, 1) := by decide +kernel
theorem dX10_people_70 : decode cX10_people 70 = .ok (.iconst 0, 1) := by decide +kernel
theorem dX10_people_71 : decode cX10_people 71 = .ok (.istore 5, 2) := by decide +kernel
theorem dX10_people_73 : decode cX10_people 73 = .ok (.iload 5, 2) := by decide +kernel
theorem dX10_people_75 : decode cX10_people 75 = .ok (.aload_n 0, 1) := by decide +kernel
theorem dX10_people_76 : decode cX10_people 76 = .ok (.getfield 11, 3) := by decide +kernel
theorem dX10_people_79 : decode cX10_people 79 = .ok (.iconst 0, 1) := by decide +kernel
theorem dX10_people_80 : decode cX10_people 80 = .ok (.iaload, 1) := by decide +kernel
theorem dX10_people_81 : decode cX10_people 81 = .ok (.if_icmp .ge 30, 3) := by decide +kernel
theorem dX10_people_84 : decode cX10_people 84 = .ok (.iload 4, 2) := by decide +kernel
theorem dX10_people_86 : decode cX10_people 86 = .ok (.aload_n 0, 1) := by decide +kernel
theorem dX10_people_87 : decode cX10_people 87 = .ok (.getfield 27, 3) := by decide +kernel
theorem dX10_people_90 : decode cX10_people 90 = .ok (.iload 5, 2) := by decide +kernel
theorem dX10_people_92 : decode cX10_people 92 = .ok (.iaload, 1) := by decide +kernel
theorem dX10_people_93 : decode cX10_people 93 = .ok (.iload_n 3, 1) := by decide +kernel
theorem dX10_people_94 : decode cX10_people 94 = .ok (.if_icmp .ne 7, 3) := by decide +kernel
theorem dX10_people_97 : decode cX10_people 97 = .ok (.iconst 1, 1) := by decide +kernel
theorem dX10_people_98 : decode cX10_people 98 = .ok (.goto 4, 3) := by decide +kernel
theorem dX10_people_101 : decode cX10_people 101 = .ok (.iconst 0, 1) := by decide +kernel
theorem dX10_people_102 : decode cX10_people 102 = .ok (.iadd, 1) := by decide +kernel
theorem dX10_people_103 : decode cX10_people 103 = .ok (.istore 4, 2) := by decide +kernel
theorem dX10_people_105 : decode cX10_people 105 = .ok (.iinc 5 1, 3) := by decide +kernel
theorem dX10_people_108 : decode cX10_people 108 = .ok (.goto (-35), 3) := by decide +kernel
theorem dX10_people_111 : decode cX10_people 111 = .ok (.iload 4, 2) := by decide +kernel
theorem dX10_people_113 : decode cX10_people 113 = .ok (.ireturn, 1) := by decide +kernel
theorem dX10_people_114 : decode cX10_people 114 = .ok (.aload_n 0, 1) := by decide +kernel
theorem dX10_people_115 : decode cX10_people 115 = .ok (.iload_n 3, 1) := by decide +kernel
theorem dX10_people_116 : decode cX10_people 116 = .ok (.invokevirtual 107, 3) := by decide +kernel
theorem dX10_people_119 : decode cX10_people 119 = .ok (.ireturn, 1) := by decide +kernel
theorem dX10_people_120 : decode cX10_people 120 = .ok (.aload_n 0, 1) := by decide +kernel
theorem dX10_people_121 : decode cX10_people 121 = .ok (.getfield 30, 3) := by decide +kernel
theorem dX10_people_124 : decode cX10_people 124 = .ok (.iload_n 3, 1) := by decide +kernel
theorem dX10_people_125 : decode cX10_people 125 = .ok (.iaload, 1) := by decide +kernel
theorem dX10_people_126 : decode cX10_people 126 = .ok (.invokestatic 231, 3) := by decide +kernel
theorem dX10_people_129 : decode cX10_people 129 = .ok (.ireturn, 1) := by decide +kernel
theorem dX10_people_130 : decode cX10_people 130 = .ok (.aload_n 0, 1) := by decide +kernel
theorem dX10_people_131 : decode cX10_people 131 = .ok (.getfield 33, 3) := by decide +kernel
theorem dX10_people_134 : decode cX10_people 134 = .ok (.iload_n 3, 1) := by decide +kernel
theorem dX10_people_135 : decode cX10_people 135 = .ok (.iaload, 1) := by decide +kernel
theorem dX10_people_136 : decode cX10_people 136 = .ok (.invokestatic 231, 3) := by decide +kernel
theorem dX10_people_139 : decode cX10_people 139 = .ok (.ireturn, 1) := by decide +kernel
theorem dX10_people_140 : decode cX10_people 140 = .ok (.aload_n 0, 1) := by decide +kernel
theorem dX10_people_141 : decode cX10_people 141 = .ok (.iload_n 3, 1) := by decide +kernel
theorem dX10_people_142 : decode cX10_people 142 = .ok (.invokevirtual 234, 3) := by decide +kernel
theorem dX10_people_145 : decode cX10_people 145 = .ok (.invokestatic 114, 3) := by decide +kernel
theorem dX10_people_148 : decode cX10_people 148 = .ok (.ireturn, 1) := by decide +kernel
theorem dX10_people_149 : decode cX10_people 149 = .ok (.aload_n 0, 1) := by decide +kernel
theorem dX10_people_150 : decode cX10_people 150 = .ok (.iload_n 3, 1) := by decide +kernel
theorem dX10_people_151 : decode cX10_people 151 = .ok (.invokevirtual 237, 3) := by decide +kernel
theorem dX10_people_154 : decode cX10_people 154 = .ok (.ireturn, 1) := by decide +kernel
theorem dX10_people_155 : decode cX10_people 155 = .ok (.aload_n 0, 1) := by decide +kernel
theorem dX10_people_156 : decode cX10_people 156 = .ok (.invokevirtual 240, 3) := by decide +kernel
theorem dX10_people_159 : decode cX10_people 159 = .ok (.ifCond .eq 12, 3) := by decide +kernel
theorem dX10_people_162 : decode cX10_people 162 = .ok (.aload_n 0, 1) := by decide +kernel
theorem dX10_people_163 : decode cX10_people 163 = .ok (.getfield 60, 3) := by decide +kernel
theorem dX10_people_166 : decode cX10_people 166 = .ok (.iload_n 3, 1) := by decide +kernel
theorem dX10_people_167 : decode cX10_people 167 = .ok (.iaload, 1) := by decide +kernel
theorem dX10_people_168 : decode cX10_people 168 = .ok (.goto 5, 3) := by decide +kernel
theorem dX10_people_171 : decode cX10_people 171 = .ok (.bipush (-5), 2) := by decide +kernel
theorem dX10_people_173 : decode cX10_people 173 = .ok (.ireturn, 1) := by decide +kernel
theorem dX10_people_174 : decode cX10_people 174 = .ok (.iconst (-1), 1) := by decide +kernel
theorem dX10_people_175 : decode cX10_people 175 = .ok (.ireturn, 1) := by decide +kernel
theorem dX10_isEnd_0 : decode cX10_isEnd 0 = .ok (.aload_n 0, 1) := by decide +kernel
theorem dX10_isEnd_1 : decode cX10_isEnd 1 = .ok (.iload_n 1, 1) := by decide +kernel
theorem dX10_isEnd_2 : decode cX10_isEnd 2 = .ok (.invokevirtual 170, 3) := by decide +kernel
theorem dX10_isEnd_5 : decode cX10_isEnd 5 = .ok (.ifCond .eq 25, 3) := by decide +kernel
theorem dX10_isEnd_8 : decode cX10_isEnd 8 = .ok (.iload_n 2, 1) := by decide +kernel
theorem dX10_isEnd_9 : decode cX10_isEnd 9 = .ok (.iconst 0, 1) := by decide +kernel
theorem dX10_isEnd_10 : decode cX10_isEnd 10 = .ok (.iconst 1, 1) := by decide +kernel
theorem dX10_isEnd_11 : decode cX10_isEnd 11 = .ok (.invokestatic 72, 3) := by decide +kernel
theorem dX10_isEnd_14 : decode cX10_isEnd 14 = .ok (.ifCond .eq 16, 3) := by decide +kernel
theorem dX10_isEnd_17 : decode cX10_isEnd 17 = .ok (.iload_n 3, 1) := by decide +kernel
theorem dX10_isEnd_18 : decode cX10_isEnd 18 = .ok (.iconst 0, 1) := by decide +kernel
theorem dX10_isEnd_19 : decode cX10_isEnd 19 = .ok (.iconst 1, 1) := by decide +kernel
theorem dX10_isEnd_20 : decode cX10_isEnd 20 = .ok (.invokestatic 72, 3) := by decide +kernel
theorem dX10_isEnd_23 : decode cX10_isEnd 23 = .ok (.ifCond .eq 7, 3) := by decide +kernel
theorem dX10_isEnd_26 : decode cX10_isEnd 26 = .ok (.iconst 1, 1) := by decide +kernel
theorem dX10_isEnd_27 : decode cX10_isEnd 27 = .ok (.goto 4, 3) := by decide +kernel
theorem dX10_isEnd_30 : decode cX10_isEnd 30 = .ok (.iconst 0, 1) := by decide +kernel
theorem dX10_isEnd_31 : decode cX10_isEnd 31 = .ok (.ireturn, 1) := by decide +kernel
theorem dX10_endOf_0 : decode cX10_endOf 0 = .ok (.iconst 2, 1) := by decide +kernel
theorem dX10_endOf_1 : decode cX10_endOf 1 = .ok (.aload_n 0, 1) := by decide +kernel
theorem dX10_endOf_2 : decode cX10_endOf 2 = .ok (.getfield 27, 3) := by decide +kernel
theorem dX10_endOf_5 : decode cX10_endOf 5 = .ok (.iload_n 1, 1) := by decide +kernel
theorem dX10_endOf_6 : decode cX10_endOf 6 = .ok (.iaload, 1) := by decide +kernel
theorem dX10_endOf_7 : decode cX10_endOf 7 = .ok (.invokestatic 128, 3) := by decide +kernel
theorem dX10_endOf_10 : decode cX10_endOf 10 = .ok (.iload_n 2, 1) := by decide +kernel
theorem dX10_endOf_11 : decode cX10_endOf 11 = .ok (.iadd, 1) := by decide +kernel
theorem dX10_endOf_12 : decode cX10_endOf 12 = .ok (.imul, 1) := by decide +kernel
theorem dX10_endOf_13 : decode cX10_endOf 13 = .ok (.iload_n 3, 1) := by decide +kernel
theorem dX10_endOf_14 : decode cX10_endOf 14 = .ok (.iadd, 1) := by decide +kernel
theorem dX10_endOf_15 : decode cX10_endOf 15 = .ok (.ireturn, 1) := by decide +kernel
theorem dX10_end_0 : decode cX10_end 0 = .ok (.aload_n 0, 1) := by decide +kernel
theorem dX10_end_1 : decode cX10_end 1 = .ok (.iload_n 1, 1) := by decide +kernel
theorem dX10_end_2 : decode cX10_end 2 = .ok (.iload_n 2, 1) := by decide +kernel
theorem dX10_end_3 : decode cX10_end 3 = .ok (.iload_n 3, 1) := by decide +kernel
theorem dX10_end_4 : decode cX10_end 4 = .ok (.invokevirtual 243, 3) := by decide +kernel
theorem dX10_end_7 : decode cX10_end 7 = .ok (.ifCond .eq 18, 3) := by decide +kernel
theorem dX10_end_10 : decode cX10_end 10 = .ok (.aload_n 0, 1) := by decide +kernel
theorem dX10_end_11 : decode cX10_end 11 = .ok (.getfield 39, 3) := by decide +kernel
theorem dX10_end_14 : decode cX10_end 14 = .ok (.aload_n 0, 1) := by decide +kernel
theorem dX10_end_15 : decode cX10_end 15 = .ok (.iload_n 1, 1) := by decide +kernel
theorem dX10_end_16 : decode cX10_end 16 = .ok (.iload_n 2, 1) := by decide +kernel
theorem dX10_end_17 : decode cX10_end 17 = .ok (.iload_n 3, 1) := by decide +kernel
theorem dX10_end_18 : decode cX10_end 18 = .ok (.invokevirtual 246, 3) := by decide +kernel
theorem dX10_end_21 : decode cX10_end 21 = .ok (.iaload, 1) := by decide +kernel
theorem dX10_end_22 : decode cX10_end 22 = .ok (.goto 4, 3) := by decide +kernel
theorem dX10_end_25 : decode cX10_end 25 = .ok (.iconst (-1), 1) := by decide +kernel
theorem dX10_end_26 : decode cX10_end 26 = .ok (.ireturn, 1) := by decide +kernel
theorem dX10_year_0 : decode cX10_year 0 = .ok (.aload_n 0, 1) := by decide +kernel
theorem dX10_year_1 : decode cX10_year 1 = .ok (.iload_n 1, 1) := by decide +kernel
theorem dX10_year_2 : decode cX10_year 2 = .ok (.invokevirtual 202, 3) := by decide +kernel
theorem dX10_year_5 : decode cX10_year 5 = .ok (.ifCond .eq 12, 3) := by decide +kernel
theorem dX10_year_8 : decode cX10_year 8 = .ok (.iload_n 2, 1) := by decide +kernel
theorem dX10_year_9 : decode cX10_year 9 = .ok (.iconst 0, 1) := by decide +kernel
theorem dX10_year_10 : decode cX10_year 10 = .ok (.iconst 1, 1) := by decide +kernel
theorem dX10_year_11 : decode cX10_year 11 = .ok (.invokestatic 72, 3) := by decide +kernel
theorem dX10_year_14 : decode cX10_year 14 = .ok (.ifCond .ne 5, 3) := by decide +kernel
theorem dX10_year_17 : decode cX10_year 17 = .ok (.iconst (-1), 1) := by decide +kernel
theorem dX10_year_18 : decode cX10_year 18 = .ok (.ireturn, 1) := by decide +kernel
theorem dX10_year_19 : decode cX10_year 19 = .ok (.aload_n 0, 1) := by decide +kernel
theorem dX10_year_20 : decode cX10_year 20 = .ok (.iload_n 1, 1) := by decide +kernel
theorem dX10_year_21 : decode cX10_year 21 = .ok (.iconst 4, 1) := by decide +kernel
theorem dX10_year_22 : decode cX10_year 22 = .ok (.invokevirtual 80, 3) := by decide +kernel
theorem dX10_year_25 : decode cX10_year 25 = .ok (.ifCond .eq 19, 3) := by decide +kernel
theorem dX10_year_28 : decode cX10_year 28 = .ok (.aload_n 0, 1) := by decide +kernel
theorem dX10_year_29 : decode cX10_year 29 = .ok (.getfield 39, 3) := by decide +kernel
theorem dX10_year_32 : decode cX10_year 32 = .ok (.iconst 2, 1) := by decide +kernel
theorem dX10_year_33 : decode cX10_year 33 = .ok (.iload_n 1, 1) := by decide +kernel
theorem dX10_year_34 : decode cX10_year 34 = .ok (.invokestatic 138, 3) := by decide +kernel
theorem dX10_year_37 : decode cX10_year 37 = .ok (.imul, 1) := by decide +kernel
theorem dX10_year_38 : decode cX10_year 38 = .ok (.iload_n 2, 1) := by decide +kernel
theorem dX10_year_39 : decode cX10_year 39 = .ok (.iadd, 1) := by decide +kernel
theorem dX10_year_40 : decode cX10_year 40 = .ok (.iaload, 1) := by decide +kernel
theorem dX10_year_41 : decode cX10_year 41 = .ok (.goto 5, 3) := by decide +kernel
theorem dX10_year_44 : decode cX10_year 44 = .ok (.bipush (-3), 2) := by decide +kernel
theorem dX10_year_46 : decode cX10_year 46 = .ok (.ireturn, 1) := by decide +kernel
theorem dX10_toldRange_0 : decode cX10_toldRange 0 = .ok (.iload_n 0, 1) := by decide +kernel
theorem dX10_toldRange_1 : decode cX10_toldRange 1 = .ok (.bipush 60, 2) := by decide +kernel
theorem dX10_toldRange_3 : decode cX10_toldRange 3 = .ok (.if_icmp .ge 7, 3) := by decide +kernel
theorem dX10_toldRange_6 : decode cX10_toldRange 6 = .ok (.iload_n 0, 1) := by decide +kernel
theorem dX10_toldRange_7 : decode cX10_toldRange 7 = .ok (.goto 11, 3) := by decide +kernel
theorem dX10_toldRange_10 : decode cX10_toldRange 10 = .ok (.sipush 200, 3) := by decide +kernel
theorem dX10_toldRange_13 : decode cX10_toldRange 13 = .ok (.iload_n 0, 1) := by decide +kernel
theorem dX10_toldRange_14 : decode cX10_toldRange 14 = .ok (.iadd, 1) := by decide +kernel
theorem dX10_toldRange_15 : decode cX10_toldRange 15 = .ok (.bipush 60, 2) := by decide +kernel
theorem dX10_toldRange_17 : decode cX10_toldRange 17 = .ok (.isub, 1) := by decide +kernel
theorem dX10_toldRange_18 : decode cX10_toldRange 18 = .ok (.ireturn, 1) := by decide +kernel
theorem dX10_rests_0 : decode cX10_rests 0 = .ok (.iload_n 1, 1) := by decide +kernel
theorem dX10_rests_1 : decode cX10_rests 1 = .ok (.istore 4, 2) := by decide +kernel
theorem dX10_rests_3 : decode cX10_rests 3 = .ok (.iconst 0, 1) := by decide +kernel
theorem dX10_rests_4 : decode cX10_rests 4 = .ok (.istore 5, 2) := by decide +kernel
theorem dX10_rests_6 : decode cX10_rests 6 = .ok (.iload 5, 2) := by decide +kernel
theorem dX10_rests_8 : decode cX10_rests 8 = .ok (.iload_n 2, 1) := by decide +kernel
theorem dX10_rests_9 : decode cX10_rests 9 = .ok (.if_icmp .ge 38, 3) := by decide +kernel
theorem dX10_rests_12 : decode cX10_rests 12 = .ok (.iload 4, 2) := by decide +kernel
theorem dX10_rests_14 : decode cX10_rests 14 = .ok (.ifCond .lt 33, 3) := by decide +kernel
theorem dX10_rests_17 : decode cX10_rests 17 = .ok (.aload_n 0, 1) := by decide +kernel
theorem dX10_rests_18 : decode cX10_rests 18 = .ok (.getfield 42, 3) := by decide +kernel
theorem dX10_rests_21 : decode cX10_rests 21 = .ok (.iload 4, 2) := by decide +kernel
theorem dX10_rests_23 : decode cX10_rests 23 = .ok (.iaload, 1) := by decide +kernel
theorem dX10_rests_24 : decode cX10_rests 24 = .ok (.ifCond .ge 8, 3) := by decide +kernel
theorem dX10_rests_27 : decode cX10_rests 27 = .ok (.bipush (-5), 2) := by decide +kernel
theorem dX10_rests_29 : decode cX10_rests 29 = .ok (.goto 10, 3) := by decide +kernel
theorem dX10_rests_32 : decode cX10_rests 32 = .ok (.aload_n 0, 1) := by decide +kernel
theorem dX10_rests_33 : decode cX10_rests 33 = .ok (.getfield 45, 3) := by decide +kernel
theorem dX10_rests_36 : decode cX10_rests 36 = .ok (.iload 4, 2) := by decide +kernel
theorem dX10_rests_38 : decode cX10_rests 38 = .ok (.iaload, 1) := by decide +kernel
theorem dX10_rests_39 : decode cX10_rests 39 = .ok (.istore 4, 2) := by decide +kernel
theorem dX10_rests_41 : decode cX10_rests 41 = .ok (.iinc 5 1, 3) := by decide +kernel
theorem dX10_rests_44 : decode cX10_rests 44 = .ok (.goto (-38), 3) := by decide +kernel
theorem dX10_rests_47 : decode cX10_rests 47 = .ok (.iload 4, 2) := by decide +kernel
theorem dX10_rests_49 : decode cX10_rests 49 = .ok (.ifCond .lt 13, 3) := by decide +kernel
theorem dX10_rests_52 : decode cX10_rests 52 = .ok (.aload_n 0, 1) := by decide +kernel
theorem dX10_rests_53 : decode cX10_rests 53 = .ok (.getfield 42, 3) := by decide +kernel
theorem dX10_rests_56 : decode cX10_rests 56 = .ok (.iload 4, 2) := by decide +kernel
theorem dX10_rests_58 : decode cX10_rests 58 = .ok (.iaload, 1) := by decide +kernel
theorem dX10_rests_59 : decode cX10_rests 59 = .ok (.ifCond .ge 6, 3) := by decide +kernel
theorem dX10_rests_62 : decode cX10_rests 62 = .ok (.bipush (-3), 2) := by decide +kernel
theorem dX10_rests_64 : decode cX10_rests 64 = .ok (.ireturn, 1) := by decide +kernel
theorem dX10_rests_65 : decode cX10_rests 65 = .ok (.iload_n 3, 1) := by decide +kernel
theorem dX10_rests_66 : decode cX10_rests 66 = .ok (.ifCond .ne 11, 3) := by decide +kernel
theorem dX10_rests_69 : decode cX10_rests 69 = .ok (.aload_n 0, 1) := by decide +kernel
theorem dX10_rests_70 : decode cX10_rests 70 = .ok (.getfield 42, 3) := by decide +kernel
theorem dX10_rests_73 : decode cX10_rests 73 = .ok (.iload 4, 2) := by decide +kernel
theorem dX10_rests_75 : decode cX10_rests 75 = .ok (.iaload, 1) := by decide +kernel
theorem dX10_rests_76 : decode cX10_rests 76 = .ok (.ireturn, 1) := by decide +kernel
theorem dX10_rests_77 : decode cX10_rests 77 = .ok (.aload_n 0, 1) := by decide +kernel
theorem dX10_rests_78 : decode cX10_rests 78 = .ok (.getfield 45, 3) := by decide +kernel
theorem dX10_rests_81 : decode cX10_rests 81 = .ok (.iload 4, 2) := by decide +kernel
theorem dX10_rests_83 : decode cX10_rests 83 = .ok (.iaload, 1) := by decide +kernel
theorem dX10_rests_84 : decode cX10_rests 84 = .ok (.ifCond .ge 6, 3) := by decide +kernel
theorem dX10_rests_87 : decode cX10_rests 87 = .ok (.bipush (-5), 2) := by decide +kernel
theorem dX10_rests_89 : decode cX10_rests 89 = .ok (.ireturn, 1) := by decide +kernel
theorem dX10_rests_90 : decode cX10_rests 90 = .ok (.iload_n 3, 1) := by decide +kernel
theorem dX10_rests_91 : decode cX10_rests 91 = .ok (.iconst 1, 1) := by decide +kernel
theorem dX10_rests_92 : decode cX10_rests 92 = .ok (.if_icmp .ne 18, 3) := by decide +kernel
theorem dX10_rests_95 : decode cX10_rests 95 = .ok (.aload_n 0, 1) := by decide +kernel
theorem dX10_rests_96 : decode cX10_rests 96 = .ok (.getfield 45, 3) := by decide +kernel
theorem dX10_rests_99 : decode cX10_rests 99 = .ok (.iload 4, 2) := by decide +kernel
theorem dX10_rests_101 : decode cX10_rests 101 = .ok (.iaload, 1) := by decide +kernel
theorem dX10_rests_102 : decode cX10_rests 102 = .ok (.iconst 2, 1) := by decide +kernel
theorem dX10_rests_103 : decode cX10_rests 103 = .ok (.idiv, 1) := by decide +kernel
theorem dX10_rests_104 : decode cX10_rests 104 = .ok (.invokestatic 249, 3) := by decide +kernel
theorem dX10_rests_107 : decode cX10_rests 107 = .ok (.goto 12, 3) := by decide +kernel
theorem dX10_rests_110 : decode cX10_rests 110 = .ok (.aload_n 0, 1) := by decide +kernel
theorem dX10_rests_111 : decode cX10_rests 111 = .ok (.getfield 45, 3) := by decide +kernel
theorem dX10_rests_114 : decode cX10_rests 114 = .ok (.iload 4, 2) := by decide +kernel
theorem dX10_rests_116 : decode cX10_rests 116 = .ok (.iaload, 1) := by decide +kernel
theorem dX10_rests_117 : decode cX10_rests 117 = .ok (.iconst 2, 1) := by decide +kernel
theorem dX10_rests_118 : decode cX10_rests 118 = .ok (.irem, 1) := by decide +kernel
theorem dX10_rests_119 : decode cX10_rests 119 = .ok (.ireturn, 1) := by decide +kernel
theorem dX10_isLink_0 : decode cX10_isLink 0 = .ok (.iload_n 0, 1) := by decide +kernel
theorem dX10_isLink_1 : decode cX10_isLink 1 = .ok (.iconst 0, 1) := by decide +kernel
theorem dX10_isLink_2 : decode cX10_isLink 2 = .ok (.bipush 99, 2) := by decide +kernel
theorem dX10_isLink_4 : decode cX10_isLink 4 = .ok (.invokestatic 72, 3) := by decide +kernel
theorem dX10_isLink_7 : decode cX10_isLink 7 = .ok (.ifCond .eq 16, 3) := by decide +kernel
theorem dX10_isLink_10 : decode cX10_isLink 10 = .ok (.iload_n 1, 1) := by decide +kernel
theorem dX10_isLink_11 : decode cX10_isLink 11 = .ok (.iconst 0, 1) := by decide +kernel
theorem dX10_isLink_12 : decode cX10_isLink 12 = .ok (.iconst 2, 1) := by decide +kernel
theorem dX10_isLink_13 : decode cX10_isLink 13 = .ok (.invokestatic 72, 3) := by decide +kernel
theorem dX10_isLink_16 : decode cX10_isLink 16 = .ok (.ifCond .eq 7, 3) := by decide +kernel
theorem dX10_isLink_19 : decode cX10_isLink 19 = .ok (.iconst 1, 1) := by decide +kernel
theorem dX10_isLink_20 : decode cX10_isLink 20 = .ok (.goto 4, 3) := by decide +kernel
theorem dX10_isLink_23 : decode cX10_isLink 23 = .ok (.iconst 0, 1) := by decide +kernel
theorem dX10_isLink_24 : decode cX10_isLink 24 = .ok (.ireturn, 1) := by decide +kernel
theorem dX10_proof_0 : decode cX10_proof 0 = .ok (.aload_n 0, 1) := by decide +kernel
theorem dX10_proof_1 : decode cX10_proof 1 = .ok (.iload_n 1, 1) := by decide +kernel
theorem dX10_proof_2 : decode cX10_proof 2 = .ok (.iload_n 2, 1) := by decide +kernel
theorem dX10_proof_3 : decode cX10_proof 3 = .ok (.iload_n 3, 1) := by decide +kernel
theorem dX10_proof_4 : decode cX10_proof 4 = .ok (.invokevirtual 243, 3) := by decide +kernel
theorem dX10_proof_7 : decode cX10_proof 7 = .ok (.ifCond .eq 31, 3) := by decide +kernel
theorem dX10_proof_10 : decode cX10_proof 10 = .ok (.iload 4, 2) := by decide +kernel
theorem dX10_proof_12 : decode cX10_proof 12 = .ok (.iload 5, 2) := by decide +kernel
theorem dX10_proof_14 : decode cX10_proof 14 = .ok (.invokestatic 252, 3) := by decide +kernel
theorem dX10_proof_17 : decode cX10_proof 17 = .ok (.ifCond .eq 21, 3) := by decide +kernel
theorem dX10_proof_20 : decode cX10_proof 20 = .ok (.aload_n 0, 1) := by decide +kernel
theorem dX10_proof_21 : decode cX10_proof 21 = .ok (.aload_n 0, 1) := by decide +kernel
theorem dX10_proof_22 : decode cX10_proof 22 = .ok (.iload_n 1, 1) := by decide +kernel
theorem dX10_proof_23 : decode cX10_proof 23 = .ok (.iload_n 2, 1) := by decide +kernel
theorem dX10_proof_24 : decode cX10_proof 24 = .ok (.iload_n 3, 1) := by decide +kernel
theorem dX10_proof_25 : decode cX10_proof 25 = .ok (.invokevirtual 246, 3) := by decide +kernel
theorem dX10_proof_28 : decode cX10_proof 28 = .ok (.iload 4, 2) := by decide +kernel
theorem dX10_proof_30 : decode cX10_proof 30 = .ok (.iload 5, 2) := by decide +kernel
theorem dX10_proof_32 : decode cX10_proof 32 = .ok (.invokevirtual 255, 3) := by decide +kernel
theorem dX10_proof_35 : decode cX10_proof 35 = .ok (.goto 4, 3) := by decide +kernel
theorem dX10_proof_38 : decode cX10_proof 38 = .ok (.iconst (-1), 1) := by decide +kernel
theorem dX10_proof_39 : decode cX10_proof 39 = .ok (.ireturn, 1) := by decide +kernel
theorem dX10_prove_0 : decode cX10_prove 0 = .ok (.aload_n 0, 1) := by decide +kernel
theorem dX10_prove_1 : decode cX10_prove 1 = .ok (.iload_n 1, 1) := by decide +kernel
theorem dX10_prove_2 : decode cX10_prove 2 = .ok (.iload_n 2, 1) := by decide +kernel
theorem dX10_prove_3 : decode cX10_prove 3 = .ok (.iload_n 3, 1) := by decide +kernel
theorem dX10_prove_4 : decode cX10_prove 4 = .ok (.invokevirtual 243, 3) := by decide +kernel
theorem dX10_prove_7 : decode cX10_prove 7 = .ok (.ifCond .ne 5, 3) := by decide +kernel
theorem dX10_prove_10 : decode cX10_prove 10 = .ok (.iconst (-1), 1) := by decide +kernel
theorem dX10_prove_11 : decode cX10_prove 11 = .ok (.ireturn, 1) := by decide +kernel
theorem dX10_prove_12 : decode cX10_prove 12 = .ok (.aload_n 0, 1) := by decide +kernel
theorem dX10_prove_13 : decode cX10_prove 13 = .ok (.iconst 0, 1) := by decide +kernel
theorem dX10_prove_14 : decode cX10_prove 14 = .ok (.putfield 163, 3) := by decide +kernel
theorem dX10_prove_17 : decode cX10_prove 17 = .ok (.aload_n 0, 1) := by decide +kernel
theorem dX10_prove_18 : decode cX10_prove 18 = .ok (.iload_n 1, 1) := by decide +kernel
theorem dX10_prove_19 : decode cX10_prove 19 = .ok (.iload_n 2, 1) := by decide +kernel
theorem dX10_prove_20 : decode cX10_prove 20 = .ok (.iload_n 3, 1) := by decide +kernel
theorem dX10_prove_21 : decode cX10_prove 21 = .ok (.invokevirtual 246, 3) := by decide +kernel
theorem dX10_prove_24 : decode cX10_prove 24 = .ok (.istore 4, 2) := by decide +kernel
theorem dX10_prove_26 : decode cX10_prove 26 = .ok (.iconst 0, 1) := by decide +kernel
theorem dX10_prove_27 : decode cX10_prove 27 = .ok (.istore 5, 2) := by decide +kernel
theorem dX10_prove_29 : decode cX10_prove 29 = .ok (.iload 5, 2) := by decide +kernel
theorem dX10_prove_31 : decode cX10_prove 31 = .ok (.bipush 100, 2) := by decide +kernel
theorem dX10_prove_33 : decode cX10_prove 33 = .ok (.if_icmp .ge 76, 3) := by decide +kernel
theorem dX10_prove_36 : decode cX10_prove 36 = .ok (.iload 4, 2) := by decide +kernel
theorem dX10_prove_38 : decode cX10_prove 38 = .ok (.ifCond .lt 71, 3) := by decide +kernel
theorem dX10_prove_41 : decode cX10_prove 41 = .ok (.aload_n 0, 1) := by decide +kernel
theorem dX10_prove_42 : decode cX10_prove 42 = .ok (.getfield 42, 3) := by decide +kernel
theorem dX10_prove_45 : decode cX10_prove 45 = .ok (.iload 4, 2) := by decide +kernel
theorem dX10_prove_47 : decode cX10_prove 47 = .ok (.iaload, 1) := by decide +kernel
theorem dX10_prove_48 : decode cX10_prove 48 = .ok (.ifCond .lt 61, 3) := by decide +kernel
theorem dX10_prove_51 : decode cX10_prove 51 = .ok (.iload 5, 2) := by decide +kernel
theorem dX10_prove_53 : decode cX10_prove 53 = .ok (.ifCond .le 9, 3) := by decide +kernel
theorem dX10_prove_56 : decode cX10_prove 56 = .ok (.aload_n 0, 1) := by decide +kernel
theorem dX10_prove_57 : decode cX10_prove 57 = .ok (.bipush 60, 2) := by decide +kernel
theorem dX10_prove_59 : decode cX10_prove 59 = .ok (.invokevirtual 208, 3) := by decide +kernel
theorem dX10_prove_62 : decode cX10_prove 62 = .ok (.aload_n 0, 1) := by decide +kernel
theorem dX10_prove_63 : decode cX10_prove 63 = .ok (.getfield 42, 3) := by decide +kernel
theorem dX10_prove_66 : decode cX10_prove 66 = .ok (.iload 4, 2) := by decide +kernel
theorem dX10_prove_68 : decode cX10_prove 68 = .ok (.iaload, 1) := by decide +kernel
theorem dX10_prove_69 : decode cX10_prove 69 = .ok (.bipush 100, 2) := by decide +kernel
theorem dX10_prove_71 : decode cX10_prove 71 = .ok (.if_icmp .lt 9, 3) := by decide +kernel
theorem dX10_prove_74 : decode cX10_prove 74 = .ok (.aload_n 0, 1) := by decide +kernel
theorem dX10_prove_75 : decode cX10_prove 75 = .ok (.bipush 76, 2) := by decide +kernel
theorem dX10_prove_77 : decode cX10_prove 77 = .ok (.invokevirtual 208, 3) := by decide +kernel
theorem dX10_prove_80 : decode cX10_prove 80 = .ok (.aload_n 0, 1) := by decide +kernel
theorem dX10_prove_81 : decode cX10_prove 81 = .ok (.aload_n 0, 1) := by decide +kernel
theorem dX10_prove_82 : decode cX10_prove 82 = .ok (.getfield 42, 3) := by decide +kernel
theorem dX10_prove_85 : decode cX10_prove 85 = .ok (.iload 4, 2) := by decide +kernel
theorem dX10_prove_87 : decode cX10_prove 87 = .ok (.iaload, 1) := by decide +kernel
theorem dX10_prove_88 : decode cX10_prove 88 = .ok (.bipush 100, 2) := by decide +kernel
theorem dX10_prove_90 : decode cX10_prove 90 = .ok (.irem, 1) := by decide +kernel
theorem dX10_prove_91 : decode cX10_prove 91 = .ok (.invokevirtual 205, 3) := by decide +kernel
theorem dX10_prove_94 : decode cX10_prove 94 = .ok (.aload_n 0, 1) := by decide +kernel
theorem dX10_prove_95 : decode cX10_prove 95 = .ok (.getfield 45, 3) := by decide +kernel
theorem dX10_prove_98 : decode cX10_prove 98 = .ok (.iload 4, 2) := by decide +kernel
theorem dX10_prove_100 : decode cX10_prove 100 = .ok (.iaload, 1) := by decide +kernel
theorem dX10_prove_101 : decode cX10_prove 101 = .ok (.istore 4, 2) := by decide +kernel
theorem dX10_prove_103 : decode cX10_prove 103 = .ok (.iinc 5 1, 3) := by decide +kernel
theorem dX10_prove_106 : decode cX10_prove 106 = .ok (.goto (-77), 3) := by decide +kernel
theorem dX10_prove_109 : decode cX10_prove 109 = .ok (.aload_n 0, 1) := by decide +kernel
theorem dX10_prove_110 : decode cX10_prove 110 = .ok (.getfield 163, 3) := by decide +kernel
theorem dX10_prove_113 : decode cX10_prove 113 = .ok (.ireturn, 1) := by decide +kernel
theorem dX10_clash_0 : decode cX10_clash 0 = .ok (.iload_n 1, 1) := by decide +kernel
theorem dX10_clash_1 : decode cX10_clash 1 = .ok (.iconst 0, 1) := by decide +kernel
theorem dX10_clash_2 : decode cX10_clash 2 = .ok (.iconst 1, 1) := by decide +kernel
theorem dX10_clash_3 : decode cX10_clash 3 = .ok (.invokestatic 72, 3) := by decide +kernel
theorem dX10_clash_6 : decode cX10_clash 6 = .ok (.ifCond .ne 5, 3) := by decide +kernel
theorem dX10_clash_9 : decode cX10_clash 9 = .ok (.iconst (-1), 1) := by decide +kernel
theorem dX10_clash_10 : decode cX10_clash 10 = .ok (.ireturn, 1) := by decide +kernel
theorem dX10_clash_11 : decode cX10_clash 11 = .ok (.iload_n 1, 1) := by decide +kernel
theorem dX10_clash_12 : decode cX10_clash 12 = .ok (.ifCond .ne 10, 3) := by decide +kernel
theorem dX10_clash_15 : decode cX10_clash 15 = .ok (.aload_n 0, 1) := by decide +kernel
theorem dX10_clash_16 : decode cX10_clash 16 = .ok (.getfield 96, 3) := by decide +kernel
theorem dX10_clash_19 : decode cX10_clash 19 = .ok (.goto 25, 3) := by decide +kernel
theorem dX10_clash_22 : decode cX10_clash 22 = .ok (.aload_n 0, 1) := by decide +kernel
theorem dX10_clash_23 : decode cX10_clash 23 = .ok (.getfield 96, 3) := by decide +kernel
theorem dX10_clash_26 : decode cX10_clash 26 = .ok (.iconst 4, 1) := by decide +kernel
theorem dX10_clash_27 : decode cX10_clash 27 = .ok (.if_icmp .ne 13, 3) := by decide +kernel
theorem dX10_clash_30 : decode cX10_clash 30 = .ok (.aload_n 0, 1) := by decide +kernel
theorem dX10_clash_31 : decode cX10_clash 31 = .ok (.getfield 100, 3) := by decide +kernel
theorem dX10_clash_34 : decode cX10_clash 34 = .ok (.invokestatic 249, 3) := by decide +kernel
theorem dX10_clash_37 : decode cX10_clash 37 = .ok (.goto 7, 3) := by decide +kernel
theorem dX10_clash_40 : decode cX10_clash 40 = .ok (.aload_n 0, 1) := by decide +kernel
theorem dX10_clash_41 : decode cX10_clash 41 = .ok (.getfield 100, 3) := by decide +kernel
theorem dX10_clash_44 : decode cX10_clash 44 = .ok (.ireturn, 1) := by decide +kernel
theorem dX10_why_0 : decode cX10_why 0 = .ok (.iload_n 1, 1) := by decide +kernel
theorem dX10_why_1 : decode cX10_why 1 = .ok (.iconst 0, 1) := by decide +kernel
theorem dX10_why_2 : decode cX10_why 2 = .ok (.iconst 1, 1) := by decide +kernel
theorem dX10_why_3 : decode cX10_why 3 = .ok (.invokestatic 72, 3) := by decide +kernel
theorem dX10_why_6 : decode cX10_why 6 = .ok (.ifCond .eq 11, 3) := by decide +kernel
theorem dX10_why_9 : decode cX10_why 9 = .ok (.iload_n 2, 1) := by decide +kernel
theorem dX10_why_10 : decode cX10_why 10 = .ok (.iload_n 3, 1) := by decide +kernel
theorem dX10_why_11 : decode cX10_why 11 = .ok (.invokestatic 252, 3) := by decide +kernel
theorem dX10_why_14 : decode cX10_why 14 = .ok (.ifCond .ne 5, 3) := by decide +kernel
theorem dX10_why_17 : decode cX10_why 17 = .ok (.iconst (-1), 1) := by decide +kernel
theorem dX10_why_18 : decode cX10_why 18 = .ok (.ireturn, 1) := by decide +kernel
theorem dX10_why_19 : decode cX10_why 19 = .ok (.aload_n 0, 1) := by decide +kernel
theorem dX10_why_20 : decode cX10_why 20 = .ok (.getfield 96, 3) := by decide +kernel
theorem dX10_why_23 : decode cX10_why 23 = .ok (.iconst 4, 1) := by decide +kernel
theorem dX10_why_24 : decode cX10_why 24 = .ok (.if_icmp .ne 20, 3) := by decide +kernel
theorem dX10_why_27 : decode cX10_why 27 = .ok (.aload_n 0, 1) := by decide +kernel
theorem dX10_why_28 : decode cX10_why 28 = .ok (.iconst 2, 1) := by decide +kernel
theorem dX10_why_29 : decode cX10_why 29 = .ok (.aload_n 0, 1) := by decide +kernel
theorem dX10_why_30 : decode cX10_why 30 = .ok (.getfield 100, 3) := by decide +kernel
theorem dX10_why_33 : decode cX10_why 33 = .ok (.imul, 1) := by decide +kernel
theorem dX10_why_34 : decode cX10_why 34 = .ok (.iload_n 1, 1) := by decide +kernel
theorem dX10_why_35 : decode cX10_why 35 = .ok (.iadd, 1) := by decide +kernel
theorem dX10_why_36 : decode cX10_why 36 = .ok (.iload_n 2, 1) := by decide +kernel
theorem dX10_why_37 : decode cX10_why 37 = .ok (.iload_n 3, 1) := by decide +kernel
theorem dX10_why_38 : decode cX10_why 38 = .ok (.invokevirtual 255, 3) := by decide +kernel
theorem dX10_why_41 : decode cX10_why 41 = .ok (.goto 5, 3) := by decide +kernel
theorem dX10_why_44 : decode cX10_why 44 = .ok (.bipush (-3), 2) := by decide +kernel
theorem dX10_why_46 : decode cX10_why 46 = .ok (.ireturn, 1) := by decide +kernel
theorem dX10_culprit_0 : decode cX10_culprit 0 = .ok (.iload_n 1, 1) := by decide +kernel
theorem dX10_culprit_1 : decode cX10_culprit 1 = .ok (.iconst (-1), 1) := by decide +kernel
theorem dX10_culprit_2 : decode cX10_culprit 2 = .ok (.if_icmp .ge 5, 3) := by decide +kernel
theorem dX10_culprit_5 : decode cX10_culprit 5 = .ok (.iconst (-1), 1) := by decide +kernel
theorem dX10_culprit_6 : decode cX10_culprit 6 = .ok (.ireturn, 1) := by decide +kernel
theorem dX10_culprit_7 : decode cX10_culprit 7 = .ok (.aload_n 0, 1) := by decide +kernel
theorem dX10_culprit_8 : decode cX10_culprit 8 = .ok (.getfield 96, 3) := by decide +kernel
theorem dX10_culprit_11 : decode cX10_culprit 11 = .ok (.ifCond .ne 6, 3) := by decide +kernel
theorem dX10_culprit_14 : decode cX10_culprit 14 = .ok (.bipush (-3), 2) := by decide +kernel
theorem dX10_culprit_16 : decode cX10_culprit 16 = .ok (.ireturn, 1) := by decide +kernel
theorem dX10_culprit_17 : decode cX10_culprit 17 = .ok (.iconst 0, 1) := by decide +kernel
theorem dX10_culprit_18 : decode cX10_culprit 18 = .ok (.istore_n 2, 1) := by decide +kernel
theorem dX10_culprit_19 : decode cX10_culprit 19 = .ok (.iconst (-1), 1) := by decide +kernel
theorem dX10_culprit_20 : decode cX10_culprit 20 = .ok (.istore_n 3, 1) := by decide +kernel
theorem dX10_culprit_21 : decode cX10_culprit 21 = .ok (.iconst 0, 1) := by decide +kernel
theorem dX10_culprit_22 : decode cX10_culprit 22 = .ok (.istore 4, 2) := by decide +kernel
theorem dX10_culprit_24 : decode cX10_culprit 24 = .ok (.iload 4, 2) := by decide +kernel
theorem dX10_culprit_26 : decode cX10_culprit 26 = .ok (.aload_n 0, 1) := by decide +kernel
theorem dX10_culprit_27 : decode cX10_culprit 27 = .ok (.getfield 11, 3) := by decide +kernel
theorem dX10_culprit_30 : decode cX10_culprit 30 = .ok (.iconst 1, 1) := by decide +kernel
theorem dX10_culprit_31 : decode cX10_culprit 31 = .ok (.iaload, 1) := by decide +kernel
theorem dX10_culprit_32 : decode cX10_culprit 32 = .ok (.if_icmp .ge 85, 3) := by decide +kernel
theorem dX10_culprit_35 : decode cX10_culprit 35 = .ok (.aload_n 0, 1) := by decide +kernel
theorem dX10_culprit_36 : decode cX10_culprit 36 = .ok (.iload 4, 2) := by decide +kernel
theorem dX10_culprit_38 : decode cX10_culprit 38 = .ok (.iconst 5, 1) := by decide +kernel
theorem dX10_culprit_39 : decode cX10_culprit 39 = .ok (.invokevirtual 76, 3) := by decide +kernel
theorem dX10_culprit_42 : decode cX10_culprit 42 = .ok (.ifCond .ne 6, 3) := by decide +kernel
theorem dX10_culprit_45 : decode cX10_culprit 45 = .ok (.goto 66, 3) := by decide +kernel
theorem dX10_culprit_48 : decode cX10_culprit 48 = .ok (.aload_n 0, 1) := by decide +kernel
theorem dX10_culprit_49 : decode cX10_culprit 49 = .ok (.getfield 11, 3) := by decide +kernel
theorem dX10_culprit_52 : decode cX10_culprit 52 = .ok (.sipush 242, 3) := by decide +kernel
theorem dX10_culprit_55 : decode cX10_culprit 55 = .ok (.bipush 6, 2) := by decide +kernel
theorem dX10_culprit_57 : decode cX10_culprit 57 = .ok (.iload 4, 2) := by decide +kernel
theorem dX10_culprit_59 : decode cX10_culprit 59 = .ok (.imul, 1) := by decide +kernel
theorem dX10_culprit_60 : decode cX10_culprit 60 = .ok (.iadd, 1) := by decide +kernel
theorem dX10_culprit_61 : decode cX10_culprit 61 = .ok (.iconst 5, 1) := by decide +kernel
theorem dX10_culprit_62 : decode cX10_culprit 62 = .ok (.iadd, 1) := by decide +kernel
theorem dX10_culprit_63 : decode cX10_culprit 63 = .ok (.iconst 0, 1) := by decide +kernel
theorem dX10_culprit_64 : decode cX10_culprit 64 = .ok (.iastore, 1) := by decide +kernel
theorem dX10_culprit_65 : decode cX10_culprit 65 = .ok (.aload_n 0, 1) := by decide +kernel
theorem dX10_culprit_66 : decode cX10_culprit 66 = .ok (.invokevirtual 69, 3) := by decide +kernel
theorem dX10_culprit_69 : decode cX10_culprit 69 = .ok (.aload_n 0, 1) := by decide +kernel
theorem dX10_culprit_70 : decode cX10_culprit 70 = .ok (.getfield 11, 3) := by decide +kernel
theorem dX10_culprit_73 : decode cX10_culprit 73 = .ok (.sipush 242, 3) := by decide +kernel
theorem dX10_culprit_76 : decode cX10_culprit 76 = .ok (.bipush 6, 2) := by decide +kernel
theorem dX10_culprit_78 : decode cX10_culprit 78 = .ok (.iload 4, 2) := by decide +kernel
theorem dX10_culprit_80 : decode cX10_culprit 80 = .ok (.imul, 1) := by decide +kernel
theorem dX10_culprit_81 : decode cX10_culprit 81 = .ok (.iadd, 1) := by decide +kernel
theorem dX10_culprit_82 : decode cX10_culprit 82 = .ok (.iconst 5, 1) := by decide +kernel
theorem dX10_culprit_83 : decode cX10_culprit 83 = .ok (.iadd, 1) := by decide +kernel
theorem dX10_culprit_84 : decode cX10_culprit 84 = .ok (.iconst 1, 1) := by decide +kernel
theorem dX10_culprit_85 : decode cX10_culprit 85 = .ok (.iastore, 1) := by decide +kernel
theorem dX10_culprit_86 : decode cX10_culprit 86 = .ok (.aload_n 0, 1) := by decide +kernel
theorem dX10_culprit_87 : decode cX10_culprit 87 = .ok (.getfield 96, 3) := by decide +kernel
theorem dX10_culprit_90 : decode cX10_culprit 90 = .ok (.ifCond .eq 6, 3) := by decide +kernel
theorem dX10_culprit_93 : decode cX10_culprit 93 = .ok (.goto 18, 3) := by decide +kernel
theorem dX10_culprit_96 : decode cX10_culprit 96 = .ok (.iload_n 2, 1) := by decide +kernel
theorem dX10_culprit_97 : decode cX10_culprit 97 = .ok (.iload_n 1, 1) := by decide +kernel
theorem dX10_culprit_98 : decode cX10_culprit 98 = .ok (.if_icmp .ne 8, 3) := by decide +kernel
theorem dX10_culprit_101 : decode cX10_culprit 101 = .ok (.iload 4, 2) := by decide +kernel
theorem dX10_culprit_103 : decode cX10_culprit 103 = .ok (.goto 4, 3) := by decide +kernel
theorem dX10_culprit_106 : decode cX10_culprit 106 = .ok (.iload_n 3, 1) := by decide +kernel
theorem dX10_culprit_107 : decode cX10_culprit 107 = .ok (.istore_n 3, 1) := by decide +kernel
theorem dX10_culprit_108 : decode cX10_culprit 108 = .ok (.iinc 2 1, 3) := by decide +kernel
theorem dX10_culprit_111 : decode cX10_culprit 111 = .ok (.iinc 4 1, 3) := by decide +kernel
theorem dX10_culprit_114 : decode cX10_culprit 114 = .ok (.goto (-90), 3) := by decide +kernel
theorem dX10_culprit_117 : decode cX10_culprit 117 = .ok (.aload_n 0, 1) := by decide +kernel
theorem dX10_culprit_118 : decode cX10_culprit 118 = .ok (.invokevirtual 69, 3) := by decide +kernel
theorem dX10_culprit_121 : decode cX10_culprit 121 = .ok (.iload_n 1, 1) := by decide +kernel
theorem dX10_culprit_122 : decode cX10_culprit 122 = .ok (.ifCond .ge 7, 3) := by decide +kernel
theorem dX10_culprit_125 : decode cX10_culprit 125 = .ok (.iload_n 2, 1) := by decide +kernel
theorem dX10_culprit_126 : decode cX10_culprit 126 = .ok (.goto 4, 3) := by decide +kernel
theorem dX10_culprit_129 : decode cX10_culprit 129 = .ok (.iload_n 3, 1) := by decide +kernel
theorem dX10_culprit_130 : decode cX10_culprit 130 = .ok (.ireturn, 1) := by decide +kernel
theorem dX10_same_0 : decode cX10_same 0 = .ok (.aload_n 0, 1) := by decide +kernel
theorem dX10_same_1 : decode cX10_same 1 = .ok (.iload_n 1, 1) := by decide +kernel
theorem dX10_same_2 : decode cX10_same 2 = .ok (.invokevirtual 170, 3) := by decide +kernel
theorem dX10_same_5 : decode cX10_same 5 = .ok (.ifCond .eq 16, 3) := by decide +kernel
theorem dX10_same_8 : decode cX10_same 8 = .ok (.aload_n 0, 1) := by decide +kernel
theorem dX10_same_9 : decode cX10_same 9 = .ok (.iload_n 2, 1) := by decide +kernel
theorem dX10_same_10 : decode cX10_same 10 = .ok (.invokevirtual 170, 3) := by decide +kernel
theorem dX10_same_13 : decode cX10_same 13 = .ok (.ifCond .eq 8, 3) := by decide +kernel
theorem dX10_same_16 : decode cX10_same 16 = .ok (.iload_n 1, 1) := by decide +kernel
theorem dX10_same_17 : decode cX10_same 17 = .ok (.iload_n 2, 1) := by decide +kernel
theorem dX10_same_18 : decode cX10_same 18 = .ok (.if_icmp .ne 5, 3) := by decide +kernel
theorem dX10_same_21 : decode cX10_same 21 = .ok (.iconst (-1), 1) := by decide +kernel
theorem dX10_same_22 : decode cX10_same 22 = .ok (.ireturn, 1) := by decide +kernel
theorem dX10_same_23 : decode cX10_same 23 = .ok (.aload_n 0, 1) := by decide +kernel
theorem dX10_same_24 : decode cX10_same 24 = .ok (.getfield 24, 3) := by decide +kernel
theorem dX10_same_27 : decode cX10_same 27 = .ok (.iconst 0, 1) := by decide +kernel
theorem dX10_same_28 : decode cX10_same 28 = .ok (.iconst 5, 1) := by decide +kernel
theorem dX10_same_29 : decode cX10_same 29 = .ok (.iastore, 1) := by decide +kernel
theorem dX10_same_30 : decode cX10_same 30 = .ok (.aload_n 0, 1) := by decide +kernel
theorem dX10_same_31 : decode cX10_same 31 = .ok (.getfield 24, 3) := by decide +kernel
theorem dX10_same_34 : decode cX10_same 34 = .ok (.iconst 1, 1) := by decide +kernel
theorem dX10_same_35 : decode cX10_same 35 = .ok (.iload_n 1, 1) := by decide +kernel
theorem dX10_same_36 : decode cX10_same 36 = .ok (.iastore, 1) := by decide +kernel
theorem dX10_same_37 : decode cX10_same 37 = .ok (.aload_n 0, 1) := by decide +kernel
theorem dX10_same_38 : decode cX10_same 38 = .ok (.getfield 24, 3) := by decide +kernel
theorem dX10_same_41 : decode cX10_same 41 = .ok (.iconst 2, 1) := by decide +kernel
theorem dX10_same_42 : decode cX10_same 42 = .ok (.iload_n 2, 1) := by decide +kernel
theorem dX10_same_43 : decode cX10_same 43 = .ok (.iastore, 1) := by decide +kernel
theorem dX10_same_44 : decode cX10_same 44 = .ok (.aload_n 0, 1) := by decide +kernel
theorem dX10_same_45 : decode cX10_same 45 = .ok (.getfield 24, 3) := by decide +kernel
theorem dX10_same_48 : decode cX10_same 48 = .ok (.iconst 3, 1) := by decide +kernel
theorem dX10_same_49 : decode cX10_same 49 = .ok (.bipush (-5), 2) := by decide +kernel
theorem dX10_same_51 : decode cX10_same 51 = .ok (.iastore, 1) := by decide +kernel
theorem dX10_same_52 : decode cX10_same 52 = .ok (.aload_n 0, 1) := by decide +kernel
theorem dX10_same_53 : decode cX10_same 53 = .ok (.getfield 24, 3) := by decide +kernel
theorem dX10_same_56 : decode cX10_same 56 = .ok (.iconst 4, 1) := by decide +kernel
theorem dX10_same_57 : decode cX10_same 57 = .ok (.bipush (-5), 2) := by decide +kernel
theorem dX10_same_59 : decode cX10_same 59 = .ok (.iastore, 1) := by decide +kernel
theorem dX10_same_60 : decode cX10_same 60 = .ok (.aload_n 0, 1) := by decide +kernel
theorem dX10_same_61 : decode cX10_same 61 = .ok (.iconst 1, 1) := by decide +kernel
theorem dX10_same_62 : decode cX10_same 62 = .ok (.invokevirtual 199, 3) := by decide +kernel
theorem dX10_same_65 : decode cX10_same 65 = .ok (.aload_n 0, 1) := by decide +kernel
theorem dX10_same_66 : decode cX10_same 66 = .ok (.getfield 96, 3) := by decide +kernel
theorem dX10_same_69 : decode cX10_same 69 = .ok (.istore_n 3, 1) := by decide +kernel
theorem dX10_same_70 : decode cX10_same 70 = .ok (.aload_n 0, 1) := by decide +kernel
theorem dX10_same_71 : decode cX10_same 71 = .ok (.getfield 11, 3) := by decide +kernel
theorem dX10_same_74 : decode cX10_same 74 = .ok (.iconst 1, 1) := by decide +kernel
theorem dX10_same_75 : decode cX10_same 75 = .ok (.dup2, 1) := by decide +kernel
theorem dX10_same_76 : decode cX10_same 76 = .ok (.iaload, 1) := by decide +kernel
theorem dX10_same_77 : decode cX10_same 77 = .ok (.iconst 1, 1) := by decide +kernel
theorem dX10_same_78 : decode cX10_same 78 = .ok (.isub, 1) := by decide +kernel
theorem dX10_same_79 : decode cX10_same 79 = .ok (.iastore, 1) := by decide +kernel
theorem dX10_same_80 : decode cX10_same 80 = .ok (.aload_n 0, 1) := by decide +kernel
theorem dX10_same_81 : decode cX10_same 81 = .ok (.invokevirtual 69, 3) := by decide +kernel
theorem dX10_same_84 : decode cX10_same 84 = .ok (.iload_n 3, 1) := by decide +kernel
theorem dX10_same_85 : decode cX10_same 85 = .ok (.ireturn, 1) := by decide +kernel
theorem dX10_widthOf_0 : decode cX10_widthOf 0 = .ok (.aload_n 0, 1) := by decide +kernel
theorem dX10_widthOf_1 : decode cX10_widthOf 1 = .ok (.iload_n 1, 1) := by decide +kernel
theorem dX10_widthOf_2 : decode cX10_widthOf 2 = .ok (.iload_n 2, 1) := by decide +kernel
theorem dX10_widthOf_3 : decode cX10_widthOf 3 = .ok (.iconst 0, 1) := by decide +kernel
theorem dX10_widthOf_4 : decode cX10_widthOf 4 = .ok (.invokevirtual 246, 3) := by decide +kernel
theorem dX10_widthOf_7 : decode cX10_widthOf 7 = .ok (.istore_n 3, 1) := by decide +kernel
theorem dX10_widthOf_8 : decode cX10_widthOf 8 = .ok (.aload_n 0, 1) := by decide +kernel
theorem dX10_widthOf_9 : decode cX10_widthOf 9 = .ok (.getfield 39, 3) := by decide +kernel
theorem dX10_widthOf_12 : decode cX10_widthOf 12 = .ok (.iload_n 3, 1) := by decide +kernel
theorem dX10_widthOf_13 : decode cX10_widthOf 13 = .ok (.iconst 1, 1) := by decide +kernel
theorem dX10_widthOf_14 : decode cX10_widthOf 14 = .ok (.iadd, 1) := by decide +kernel
theorem dX10_widthOf_15 : decode cX10_widthOf 15 = .ok (.iaload, 1) := by decide +kernel
theorem dX10_widthOf_16 : decode cX10_widthOf 16 = .ok (.aload_n 0, 1) := by decide +kernel
theorem dX10_widthOf_17 : decode cX10_widthOf 17 = .ok (.getfield 39, 3) := by decide +kernel
theorem dX10_widthOf_20 : decode cX10_widthOf 20 = .ok (.iload_n 3, 1) := by decide +kernel
theorem dX10_widthOf_21 : decode cX10_widthOf 21 = .ok (.iaload, 1) := by decide +kernel
theorem dX10_widthOf_22 : decode cX10_widthOf 22 = .ok (.isub, 1) := by decide +kernel
theorem dX10_widthOf_23 : decode cX10_widthOf 23 = .ok (.ireturn, 1) := by decide +kernel
theorem dX10_narrows__0 : decode cX10_narrows_ 0 = .ok (.aload_n 0, 1) := by decide +kernel
theorem dX10_narrows__1 : decode cX10_narrows_ 1 = .ok (.iload_n 1, 1) := by decide +kernel
theorem dX10_narrows__2 : decode cX10_narrows_ 2 = .ok (.invokevirtual 170, 3) := by decide +kernel
theorem dX10_narrows__5 : decode cX10_narrows_ 5 = .ok (.ifCond .eq 12, 3) := by decide +kernel
theorem dX10_narrows__8 : decode cX10_narrows_ 8 = .ok (.iload_n 2, 1) := by decide +kernel
theorem dX10_narrows__9 : decode cX10_narrows_ 9 = .ok (.iconst 0, 1) := by decide +kernel
theorem dX10_narrows__10 : decode cX10_narrows_ 10 = .ok (.iconst 1, 1) := by decide +kernel
theorem dX10_narrows__11 : decode cX10_narrows_ 11 = .ok (.invokestatic 72, 3) := by decide +kernel
theorem dX10_narrows__14 : decode cX10_narrows_ 14 = .ok (.ifCond .ne 5, 3) := by decide +kernel
theorem dX10_narrows__17 : decode cX10_narrows_ 17 = .ok (.iconst (-1), 1) := by decide +kernel
theorem dX10_narrows__18 : decode cX10_narrows_ 18 = .ok (.ireturn, 1) := by decide +kernel
theorem dX10_narrows__19 : decode cX10_narrows_ 19 = .ok (.aload_n 0, 1) := by decide +kernel
theorem dX10_narrows__20 : decode cX10_narrows_ 20 = .ok (.getfield 11, 3) := by decide +kernel
theorem dX10_narrows__23 : decode cX10_narrows_ 23 = .ok (.iconst 1, 1) := by decide +kernel
theorem dX10_narrows__24 : decode cX10_narrows_ 24 = .ok (.iaload, 1) := by decide +kernel
theorem dX10_narrows__25 : decode cX10_narrows_ 25 = .ok (.bipush 60, 2) := by decide +kernel
theorem dX10_narrows__27 : decode cX10_narrows_ 27 = .ok (.if_icmp .ne 6, 3) := by decide +kernel
theorem dX10_narrows__30 : decode cX10_narrows_ 30 = .ok (.bipush (-4), 2) := by decide +kernel
theorem dX10_narrows__32 : decode cX10_narrows_ 32 = .ok (.ireturn, 1) := by decide +kernel
theorem dX10_narrows__33 : decode cX10_narrows_ 33 = .ok (.aload_n 0, 1) := by decide +kernel
theorem dX10_narrows__34 : decode cX10_narrows_ 34 = .ok (.getfield 96, 3) := by decide +kernel
theorem dX10_narrows__37 : decode cX10_narrows_ 37 = .ok (.ifCond .eq 6, 3) := by decide +kernel
theorem dX10_narrows__40 : decode cX10_narrows_ 40 = .ok (.bipush (-3), 2) := by decide +kernel
theorem dX10_narrows__42 : decode cX10_narrows_ 42 = .ok (.ireturn, 1) := by decide +kernel
theorem dX10_narrows__43 : decode cX10_narrows_ 43 = .ok (.aload_n 0, 1) := by decide +kernel
theorem dX10_narrows__44 : decode cX10_narrows_ 44 = .ok (.invokevirtual 195, 3) := by decide +kernel
theorem dX10_narrows__47 : decode cX10_narrows_ 47 = .ok (.ifCond .ne 11, 3) := by decide +kernel
theorem dX10_narrows__50 : decode cX10_narrows_ 50 = .ok (.bipush (-100), 2) := by decide +kernel
theorem dX10_narrows__52 : decode cX10_narrows_ 52 = .ok (.aload_n 0, 1) := by decide +kernel
theorem dX10_narrows__53 : decode cX10_narrows_ 53 = .ok (.getfield 173, 3) := by decide +kernel
theorem dX10_narrows__56 : decode cX10_narrows_ 56 = .ok (.isub, 1) := by decide +kernel
theorem dX10_narrows__57 : decode cX10_narrows_ 57 = .ok (.ireturn, 1) := by decide +kernel
theorem dX10_narrows__58 : decode cX10_narrows_ 58 = .ok (.aload_n 0, 1) := by decide +kernel
theorem dX10_narrows__59 : decode cX10_narrows_ 59 = .ok (.iload_n 1, 1) := by decide +kernel
theorem dX10_narrows__60 : decode cX10_narrows_ 60 = .ok (.iload_n 2, 1) := by decide +kernel
theorem dX10_narrows__61 : decode cX10_narrows_ 61 = .ok (.invokevirtual 258, 3) := by decide +kernel
theorem dX10_narrows__64 : decode cX10_narrows_ 64 = .ok (.istore_n 3, 1) := by decide +kernel
theorem dX10_narrows__65 : decode cX10_narrows_ 65 = .ok (.aload_n 0, 1) := by decide +kernel
theorem dX10_narrows__66 : decode cX10_narrows_ 66 = .ok (.iconst 1, 1) := by decide +kernel
theorem dX10_narrows__67 : decode cX10_narrows_ 67 = .ok (.invokevirtual 199, 3) := by decide +kernel
theorem dX10_narrows__70 : decode cX10_narrows_ 70 = .ok (.aload_n 0, 1) := by decide +kernel
theorem dX10_narrows__71 : decode cX10_narrows_ 71 = .ok (.getfield 96, 3) := by decide +kernel
theorem dX10_narrows__74 : decode cX10_narrows_ 74 = .ok (.ifCond .eq 14, 3) := by decide +kernel
theorem dX10_narrows__77 : decode cX10_narrows_ 77 = .ok (.sipush (-1000), 3) := by decide +kernel
theorem dX10_narrows__80 : decode cX10_narrows_ 80 = .ok (.aload_n 0, 1) := by decide +kernel
theorem dX10_narrows__81 : decode cX10_narrows_ 81 = .ok (.getfield 96, 3) := by decide +kernel
theorem dX10_narrows__84 : decode cX10_narrows_ 84 = .ok (.isub, 1) := by decide +kernel
theorem dX10_narrows__85 : decode cX10_narrows_ 85 = .ok (.goto 11, 3) := by decide +kernel
theorem dX10_narrows__88 : decode cX10_narrows_ 88 = .ok (.iload_n 3, 1) := by decide +kernel
theorem dX10_narrows__89 : decode cX10_narrows_ 89 = .ok (.aload_n 0, 1) := by decide +kernel
theorem dX10_narrows__90 : decode cX10_narrows_ 90 = .ok (.iload_n 1, 1) := by decide +kernel
theorem dX10_narrows__91 : decode cX10_narrows_ 91 = .ok (.iload_n 2, 1) := by decide +kernel
theorem dX10_narrows__92 : decode cX10_narrows_ 92 = .ok (.invokevirtual 258, 3) := by decide +kernel
theorem dX10_narrows__95 : decode cX10_narrows_ 95 = .ok (.isub, 1) := by decide +kernel
theorem dX10_narrows__96 : decode cX10_narrows_ 96 = .ok (.istore 4, 2) := by decide +kernel
theorem dX10_narrows__98 : decode cX10_narrows_ 98 = .ok (.aload_n 0, 1) := by decide +kernel
theorem dX10_narrows__99 : decode cX10_narrows_ 99 = .ok (.getfield 11, 3) := by decide +kernel
theorem dX10_narrows__102 : decode cX10_narrows_ 102 = .ok (.iconst 1, 1) := by decide +kernel
theorem dX10_narrows__103 : decode cX10_narrows_ 103 = .ok (.dup2, 1) := by decide +kernel
theorem dX10_narrows__104 : decode cX10_narrows_ 104 = .ok (.iaload, 1) := by decide +kernel
theorem dX10_narrows__105 : decode cX10_narrows_ 105 = .ok (.iconst 1, 1) := by decide +kernel
theorem dX10_narrows__106 : decode cX10_narrows_ 106 = .ok (.isub, 1) := by decide +kernel
theorem dX10_narrows__107 : decode cX10_narrows_ 107 = .ok (.iastore, 1) := by decide +kernel
theorem dX10_narrows__108 : decode cX10_narrows_ 108 = .ok (.aload_n 0, 1) := by decide +kernel
theorem dX10_narrows__109 : decode cX10_narrows_ 109 = .ok (.invokevirtual 69, 3) := by decide +kernel
theorem dX10_narrows__112 : decode cX10_narrows_ 112 = .ok (.iload 4, 2) := by decide +kernel
theorem dX10_narrows__114 : decode cX10_narrows_ 114 = .ok (.ireturn, 1) := by decide +kernel
theorem dX10_rounds_0 : decode cX10_rounds 0 = .ok (.aload_n 0, 1) := by decide +kernel
theorem dX10_rounds_1 : decode cX10_rounds 1 = .ok (.getfield 150, 3) := by decide +kernel
theorem dX10_rounds_4 : decode cX10_rounds 4 = .ok (.ireturn, 1) := by decide +kernel
theorem dX10_steps_0 : decode cX10_steps 0 = .ok (.iconst 0, 1) := by decide +kernel
theorem dX10_steps_1 : decode cX10_steps 1 = .ok (.istore_n 3, 1) := by decide +kernel
theorem dX10_steps_2 : decode cX10_steps 2 = .ok (.iload_n 3, 1) := by decide +kernel
theorem dX10_steps_3 : decode cX10_steps 3 = .ok (.bipush 30, 2) := by decide +kernel
theorem dX10_steps_5 : decode cX10_steps 5 = .ok (.if_icmp .ge 23, 3) := by decide +kernel
theorem dX10_steps_8 : decode cX10_steps 8 = .ok (.aload_n 2, 1) := by decide +kernel
theorem dX10_steps_9 : decode cX10_steps 9 = .ok (.iload_n 3, 1) := by decide +kernel
theorem dX10_steps_10 : decode cX10_steps 10 = .ok (.iload_n 3, 1) := by decide +kernel
theorem dX10_steps_11 : decode cX10_steps 11 = .ok (.iload_n 1, 1) := by decide +kernel
theorem dX10_steps_12 : decode cX10_steps 12 = .ok (.if_icmp .ne 7, 3) := by decide +kernel
theorem dX10_steps_15 : decode cX10_steps 15 = .ok (.iconst 0, 1) := by decide +kernel
theorem dX10_steps_16 : decode cX10_steps 16 = .ok (.goto 5, 3) := by decide +kernel
theorem dX10_steps_19 : decode cX10_steps 19 = .ok (.bipush 99, 2) := by decide +kernel
theorem dX10_steps_21 : decode cX10_steps 21 = .ok (.iastore, 1) := by decide +kernel
theorem dX10_steps_22 : decode cX10_steps 22 = .ok (.iinc 3 1, 3) := by decide +kernel
theorem dX10_steps_25 : decode cX10_steps 25 = .ok (.goto (-23), 3) := by decide +kernel
theorem dX10_steps_28 : decode cX10_steps 28 = .ok (.iconst 1, 1) := by decide +kernel
theorem dX10_steps_29 : decode cX10_steps 29 = .ok (.istore_n 3, 1) := by decide +kernel
theorem dX10_steps_30 : decode cX10_steps 30 = .ok (.iload_n 3, 1) := by decide +kernel
theorem dX10_steps_31 : decode cX10_steps 31 = .ok (.bipush 30, 2) := by decide +kernel
theorem dX10_steps_33 : decode cX10_steps 33 = .ok (.if_icmp .ge 101, 3) := by decide +kernel
theorem dX10_steps_36 : decode cX10_steps 36 = .ok (.iconst 0, 1) := by decide +kernel
theorem dX10_steps_37 : decode cX10_steps 37 = .ok (.istore 4, 2) := by decide +kernel
theorem dX10_steps_39 : decode cX10_steps 39 = .ok (.iload 4, 2) := by decide +kernel
theorem dX10_steps_41 : decode cX10_steps 41 = .ok (.aload_n 0, 1) := by decide +kernel
theorem dX10_steps_42 : decode cX10_steps 42 = .ok (.getfield 11, 3) := by decide +kernel
theorem dX10_steps_45 : decode cX10_steps 45 = .ok (.iconst 0, 1) := by decide +kernel
theorem dX10_steps_46 : decode cX10_steps 46 = .ok (.iaload, 1) := by decide +kernel
theorem dX10_steps_47 : decode cX10_steps 47 = .ok (.if_icmp .ge 81, 3) := by decide +kernel
theorem dX10_steps_50 : decode cX10_steps 50 = .ok (.iconst 0, 1) := by decide +kernel
theorem dX10_steps_51 : decode cX10_steps 51 = .ok (.istore 5, 2) := by decide +kernel
theorem dX10_steps_53 : decode cX10_steps 53 = .ok (.iload 5, 2) := by decide +kernel
theorem dX10_steps_55 : decode cX10_steps 55 = .ok (.aload_n 0, 1) := by decide +kernel
theorem dX10_steps_56 : decode cX10_steps 56 = .ok (.getfield 11, 3) := by decide +kernel
theorem dX10_steps_59 : decode cX10_steps 59 = .ok (.iconst 0, 1) := by decide +kernel
theorem dX10_steps_60 : decode cX10_steps 60 = .ok (.iaload, 1) := by decide +kernel
theorem dX10_steps_61 : decode cX10_steps 61 = .ok (.if_icmp .ge 61, 3) := by decide +kernel
theorem dX10_steps_64 : decode cX10_steps 64 = .ok (.aload_n 2, 1) := by decide +kernel
theorem dX10_steps_65 : decode cX10_steps 65 = .ok (.iload 5, 2) := by decide +kernel
theorem dX10_steps_67 : decode cX10_steps 67 = .ok (.aload_n 2, 1) := by decide +kernel
theorem dX10_steps_68 : decode cX10_steps 68 = .ok (.iload 4, 2) := by decide +kernel
theorem dX10_steps_70 : decode cX10_steps 70 = .ok (.iaload, 1) := by decide +kernel
theorem dX10_steps_71 : decode cX10_steps 71 = .ok (.iload_n 3, 1) := by decide +kernel
theorem dX10_steps_72 : decode cX10_steps 72 = .ok (.iconst 1, 1) := by decide +kernel
theorem dX10_steps_73 : decode cX10_steps 73 = .ok (.isub, 1) := by decide +kernel
theorem dX10_steps_74 : decode cX10_steps 74 = .ok (.if_icmp .ne 37, 3) := by decide +kernel
theorem dX10_steps_77 : decode cX10_steps 77 = .ok (.aload_n 0, 1) := by decide +kernel
theorem dX10_steps_78 : decode cX10_steps 78 = .ok (.getfield 30, 3) := by decide +kernel
theorem dX10_steps_81 : decode cX10_steps 81 = .ok (.iload 4, 2) := by decide +kernel
theorem dX10_steps_83 : decode cX10_steps 83 = .ok (.iaload, 1) := by decide +kernel
theorem dX10_steps_84 : decode cX10_steps 84 = .ok (.aload_n 0, 1) := by decide +kernel
theorem dX10_steps_85 : decode cX10_steps 85 = .ok (.getfield 33, 3) := by decide +kernel
theorem dX10_steps_88 : decode cX10_steps 88 = .ok (.iload 4, 2) := by decide +kernel
theorem dX10_steps_90 : decode cX10_steps 90 = .ok (.iaload, 1) := by decide +kernel
theorem dX10_steps_91 : decode cX10_steps 91 = .ok (.ior, 1) := by decide +kernel
theorem dX10_steps_92 : decode cX10_steps 92 = .ok (.iload 5, 2) := by decide +kernel
theorem dX10_steps_94 : decode cX10_steps 94 = .ok (.invokestatic 89, 3) := by decide +kernel
theorem dX10_steps_97 : decode cX10_steps 97 = .ok (.ifCond .eq 14, 3) := by decide +kernel
theorem dX10_steps_100 : decode cX10_steps 100 = .ok (.aload_n 2, 1) := by decide +kernel
theorem dX10_steps_101 : decode cX10_steps 101 = .ok (.iload 5, 2) := by decide +kernel
theorem dX10_steps_103 : decode cX10_steps 103 = .ok (.iaload, 1) := by decide +kernel
theorem dX10_steps_104 : decode cX10_steps 104 = .ok (.iload_n 3, 1) := by decide +kernel
theorem dX10_steps_105 : decode cX10_steps 105 = .ok (.invokestatic 84, 3) := by decide +kernel
theorem dX10_steps_108 : decode cX10_steps 108 = .ok (.goto 7, 3) := by decide +kernel
theorem dX10_steps_111 : decode cX10_steps 111 = .ok (.aload_n 2, 1) := by decide +kernel
theorem dX10_steps_112 : decode cX10_steps 112 = .ok (.iload 5, 2) := by decide +kernel
theorem dX10_steps_114 : decode cX10_steps 114 = .ok (.iaload, 1) := by decide +kernel
theorem dX10_steps_115 : decode cX10_steps 115 = .ok (.iastore, 1) := by decide +kernel
theorem dX10_steps_116 : decode cX10_steps 116 = .ok (.iinc 5 1, 3) := by decide +kernel
theorem dX10_steps_119 : decode cX10_steps 119 = .ok (.goto (-66), 3) := by decide +kernel
theorem dX10_steps_122 : decode cX10_steps 122 = .ok (.iinc 4 1, 3) := by decide +kernel
theorem dX10_steps_125 : decode cX10_steps 125 = .ok (.goto (-86), 3) := by decide +kernel
theorem dX10_steps_128 : decode cX10_steps 128 = .ok (.iinc 3 1, 3) := by decide +kernel
theorem dX10_steps_131 : decode cX10_steps 131 = .ok (.goto (-101), 3) := by decide +kernel
theorem dX10_steps_134 : decode cX10_steps 134 = .ok (.return_, 1) := by decide +kernel
theorem dX10_meets_0 : decode cX10_meets 0 = .ok (.aload_n 0, 1) := by decide +kernel
theorem dX10_meets_1 : decode cX10_meets 1 = .ok (.aload_n 0, 1) := by decide +kernel
theorem dX10_meets_2 : decode cX10_meets 2 = .ok (.getfield 27, 3) := by decide +kernel
theorem dX10_meets_5 : decode cX10_meets 5 = .ok (.iload_n 1, 1) := by decide +kernel
theorem dX10_meets_6 : decode cX10_meets 6 = .ok (.iaload, 1) := by decide +kernel
theorem dX10_meets_7 : decode cX10_meets 7 = .ok (.aload_n 0, 1) := by decide +kernel
theorem dX10_meets_8 : decode cX10_meets 8 = .ok (.getfield 48, 3) := by decide +kernel
theorem dX10_meets_11 : decode cX10_meets 11 = .ok (.invokevirtual 261, 3) := by decide +kernel
theorem dX10_meets_14 : decode cX10_meets 14 = .ok (.aload_n 0, 1) := by decide +kernel
theorem dX10_meets_15 : decode cX10_meets 15 = .ok (.aload_n 0, 1) := by decide +kernel
theorem dX10_meets_16 : decode cX10_meets 16 = .ok (.getfield 27, 3) := by decide +kernel
theorem dX10_meets_19 : decode cX10_meets 19 = .ok (.iload_n 2, 1) := by decide +kernel
theorem dX10_meets_20 : decode cX10_meets 20 = .ok (.iaload, 1) := by decide +kernel
theorem dX10_meets_21 : decode cX10_meets 21 = .ok (.aload_n 0, 1) := by decide +kernel
theorem dX10_meets_22 : decode cX10_meets 22 = .ok (.getfield 51, 3) := by decide +kernel
theorem dX10_meets_25 : decode cX10_meets 25 = .ok (.invokevirtual 261, 3) := by decide +kernel
theorem dX10_meets_28 : decode cX10_meets 28 = .ok (.aload_n 0, 1) := by decide +kernel
theorem dX10_meets_29 : decode cX10_meets 29 = .ok (.bipush (-5), 2) := by decide +kernel
theorem dX10_meets_31 : decode cX10_meets 31 = .ok (.putfield 265, 3) := by decide +kernel
theorem dX10_meets_34 : decode cX10_meets 34 = .ok (.iconst 0, 1) := by decide +kernel
theorem dX10_meets_35 : decode cX10_meets 35 = .ok (.istore_n 3, 1) := by decide +kernel
theorem dX10_meets_36 : decode cX10_meets 36 = .ok (.iload_n 3, 1) := by decide +kernel
theorem dX10_meets_37 : decode cX10_meets 37 = .ok (.aload_n 0, 1) := by decide +kernel
theorem dX10_meets_38 : decode cX10_meets 38 = .ok (.getfield 11, 3) := by decide +kernel
theorem dX10_meets_41 : decode cX10_meets 41 = .ok (.iconst 0, 1) := by decide +kernel
theorem dX10_meets_42 : decode cX10_meets 42 = .ok (.iaload, 1) := by decide +kernel
theorem dX10_meets_43 : decode cX10_meets 43 = .ok (.if_icmp .ge 145, 3) := by decide +kernel
theorem dX10_meets_46 : decode cX10_meets 46 = .ok (.aload_n 0, 1) := by decide +kernel
theorem dX10_meets_47 : decode cX10_meets 47 = .ok (.getfield 48, 3) := by decide +kernel
theorem dX10_meets_50 : decode cX10_meets 50 = .ok (.iload_n 3, 1) := by decide +kernel
theorem dX10_meets_51 : decode cX10_meets 51 = .ok (.iaload, 1) := by decide +kernel
theorem dX10_meets_52 : decode cX10_meets 52 = .ok (.bipush 99, 2) := by decide +kernel
theorem dX10_meets_54 : decode cX10_meets 54 = .ok (.if_icmp .eq 128, 3) := by decide +kernel
theorem dX10_meets_57 : decode cX10_meets 57 = .ok (.aload_n 0, 1) := by decide +kernel
theorem dX10_meets_58 : decode cX10_meets 58 = .ok (.getfield 51, 3) := by decide +kernel
theorem dX10_meets_61 : decode cX10_meets 61 = .ok (.iload_n 3, 1) := by decide +kernel
theorem dX10_meets_62 : decode cX10_meets 62 = .ok (.iaload, 1) := by decide +kernel
theorem dX10_meets_63 : decode cX10_meets 63 = .ok (.bipush 99, 2) := by decide +kernel
theorem dX10_meets_65 : decode cX10_meets 65 = .ok (.if_icmp .ne 6, 3) := by decide +kernel
theorem dX10_meets_68 : decode cX10_meets 68 = .ok (.goto 114, 3) := by decide +kernel
theorem dX10_meets_71 : decode cX10_meets 71 = .ok (.aload_n 0, 1) := by decide +kernel
theorem dX10_meets_72 : decode cX10_meets 72 = .ok (.getfield 265, 3) := by decide +kernel
theorem dX10_meets_75 : decode cX10_meets 75 = .ok (.istore 4, 2) := by decide +kernel
theorem dX10_meets_77 : decode cX10_meets 77 = .ok (.iload 4, 2) := by decide +kernel
theorem dX10_meets_79 : decode cX10_meets 79 = .ok (.ifCond .lt 81, 3) := by decide +kernel
theorem dX10_meets_82 : decode cX10_meets 82 = .ok (.aload_n 0, 1) := by decide +kernel
theorem dX10_meets_83 : decode cX10_meets 83 = .ok (.getfield 48, 3) := by decide +kernel
theorem dX10_meets_86 : decode cX10_meets 86 = .ok (.iload_n 3, 1) := by decide +kernel
theorem dX10_meets_87 : decode cX10_meets 87 = .ok (.iaload, 1) := by decide +kernel
theorem dX10_meets_88 : decode cX10_meets 88 = .ok (.aload_n 0, 1) := by decide +kernel
theorem dX10_meets_89 : decode cX10_meets 89 = .ok (.getfield 51, 3) := by decide +kernel
theorem dX10_meets_92 : decode cX10_meets 92 = .ok (.iload_n 3, 1) := by decide +kernel
theorem dX10_meets_93 : decode cX10_meets 93 = .ok (.iaload, 1) := by decide +kernel
theorem dX10_meets_94 : decode cX10_meets 94 = .ok (.iadd, 1) := by decide +kernel
theorem dX10_meets_95 : decode cX10_meets 95 = .ok (.aload_n 0, 1) := by decide +kernel
theorem dX10_meets_96 : decode cX10_meets 96 = .ok (.getfield 48, 3) := by decide +kernel
theorem dX10_meets_99 : decode cX10_meets 99 = .ok (.iload 4, 2) := by decide +kernel
theorem dX10_meets_101 : decode cX10_meets 101 = .ok (.iaload, 1) := by decide +kernel
theorem dX10_meets_102 : decode cX10_meets 102 = .ok (.aload_n 0, 1) := by decide +kernel
theorem dX10_meets_103 : decode cX10_meets 103 = .ok (.getfield 51, 3) := by decide +kernel
theorem dX10_meets_106 : decode cX10_meets 106 = .ok (.iload 4, 2) := by decide +kernel
theorem dX10_meets_108 : decode cX10_meets 108 = .ok (.iaload, 1) := by decide +kernel
theorem dX10_meets_109 : decode cX10_meets 109 = .ok (.iadd, 1) := by decide +kernel
theorem dX10_meets_110 : decode cX10_meets 110 = .ok (.if_icmp .lt 50, 3) := by decide +kernel
theorem dX10_meets_113 : decode cX10_meets 113 = .ok (.aload_n 0, 1) := by decide +kernel
theorem dX10_meets_114 : decode cX10_meets 114 = .ok (.getfield 48, 3) := by decide +kernel
theorem dX10_meets_117 : decode cX10_meets 117 = .ok (.iload_n 3, 1) := by decide +kernel
theorem dX10_meets_118 : decode cX10_meets 118 = .ok (.iaload, 1) := by decide +kernel
theorem dX10_meets_119 : decode cX10_meets 119 = .ok (.aload_n 0, 1) := by decide +kernel
theorem dX10_meets_120 : decode cX10_meets 120 = .ok (.getfield 51, 3) := by decide +kernel
theorem dX10_meets_123 : decode cX10_meets 123 = .ok (.iload_n 3, 1) := by decide +kernel
theorem dX10_meets_124 : decode cX10_meets 124 = .ok (.iaload, 1) := by decide +kernel
theorem dX10_meets_125 : decode cX10_meets 125 = .ok (.iadd, 1) := by decide +kernel
theorem dX10_meets_126 : decode cX10_meets 126 = .ok (.aload_n 0, 1) := by decide +kernel
theorem dX10_meets_127 : decode cX10_meets 127 = .ok (.getfield 48, 3) := by decide +kernel
theorem dX10_meets_130 : decode cX10_meets 130 = .ok (.iload 4, 2) := by decide +kernel
theorem dX10_meets_132 : decode cX10_meets 132 = .ok (.iaload, 1) := by decide +kernel
theorem dX10_meets_133 : decode cX10_meets 133 = .ok (.aload_n 0, 1) := by decide +kernel
theorem dX10_meets_134 : decode cX10_meets 134 = .ok (.getfield 51, 3) := by decide +kernel
theorem dX10_meets_137 : decode cX10_meets 137 = .ok (.iload 4, 2) := by decide +kernel
theorem dX10_meets_139 : decode cX10_meets 139 = .ok (.iaload, 1) := by decide +kernel
theorem dX10_meets_140 : decode cX10_meets 140 = .ok (.iadd, 1) := by decide +kernel
theorem dX10_meets_141 : decode cX10_meets 141 = .ok (.if_icmp .ne 23, 3) := by decide +kernel
theorem dX10_meets_144 : decode cX10_meets 144 = .ok (.aload_n 0, 1) := by decide +kernel
theorem dX10_meets_145 : decode cX10_meets 145 = .ok (.getfield 48, 3) := by decide +kernel
theorem dX10_meets_148 : decode cX10_meets 148 = .ok (.iload_n 3, 1) := by decide +kernel
theorem dX10_meets_149 : decode cX10_meets 149 = .ok (.iaload, 1) := by decide +kernel
theorem dX10_meets_150 : decode cX10_meets 150 = .ok (.aload_n 0, 1) := by decide +kernel
theorem dX10_meets_151 : decode cX10_meets 151 = .ok (.getfield 48, 3) := by decide +kernel
theorem dX10_meets_154 : decode cX10_meets 154 = .ok (.iload 4, 2) := by decide +kernel
theorem dX10_meets_156 : decode cX10_meets 156 = .ok (.iaload, 1) := by decide +kernel
theorem dX10_meets_157 : decode cX10_meets 157 = .ok (.if_icmp .ge 7, 3) := by decide +kernel
theorem dX10_meets_160 : decode cX10_meets 160 = .ok (.iconst 1, 1) := by decide +kernel
theorem dX10_meets_161 : decode cX10_meets 161 = .ok (.goto 4, 3) := by decide +kernel
