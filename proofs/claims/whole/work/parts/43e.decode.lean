/-! the code, instruction by instruction: printed by a program of mine (wip/whole/gen_blocks.py, emit.py) -/
theorem qd_161_0 : decode qm161.2.2.1 0 = .ok (.aload_n 0, 1) := by decide +kernel
theorem qd_161_1 : decode qm161.2.2.1 1 = .ok (.invokevirtual 88, 3) := by decide +kernel
theorem qd_161_4 : decode qm161.2.2.1 4 = .ok (.istore_n 2, 1) := by decide +kernel
theorem qd_161_5 : decode qm161.2.2.1 5 = .ok (.iload_n 1, 1) := by decide +kernel
theorem qd_161_6 : decode qm161.2.2.1 6 = .ok (.ifCond .eq 8, 3) := by decide +kernel
theorem qd_161_9 : decode qm161.2.2.1 9 = .ok (.bipush 80, 2) := by decide +kernel
theorem qd_161_11 : decode qm161.2.2.1 11 = .ok (.goto 4, 3) := by decide +kernel
theorem qd_161_14 : decode qm161.2.2.1 14 = .ok (.iconst 0, 1) := by decide +kernel
theorem qd_161_15 : decode qm161.2.2.1 15 = .ok (.istore_n 3, 1) := by decide +kernel
theorem qd_161_16 : decode qm161.2.2.1 16 = .ok (.iconst 0, 1) := by decide +kernel
theorem qd_161_17 : decode qm161.2.2.1 17 = .ok (.istore 4, 2) := by decide +kernel
theorem qd_161_19 : decode qm161.2.2.1 19 = .ok (.iload 4, 2) := by decide +kernel
theorem qd_161_21 : decode qm161.2.2.1 21 = .ok (.iload_n 2, 1) := by decide +kernel
theorem qd_161_22 : decode qm161.2.2.1 22 = .ok (.if_icmp .ge 26, 3) := by decide +kernel
theorem qd_161_25 : decode qm161.2.2.1 25 = .ok (.aload_n 0, 1) := by decide +kernel
theorem qd_161_26 : decode qm161.2.2.1 26 = .ok (.invokevirtual 80, 3) := by decide +kernel
theorem qd_161_29 : decode qm161.2.2.1 29 = .ok (.ifCond .eq 19, 3) := by decide +kernel
theorem qd_161_32 : decode qm161.2.2.1 32 = .ok (.aload_n 0, 1) := by decide +kernel
theorem qd_161_33 : decode qm161.2.2.1 33 = .ok (.iload_n 1, 1) := by decide +kernel
theorem qd_161_34 : decode qm161.2.2.1 34 = .ok (.iload_n 3, 1) := by decide +kernel
theorem qd_161_35 : decode qm161.2.2.1 35 = .ok (.iload_n 3, 1) := by decide +kernel
theorem qd_161_36 : decode qm161.2.2.1 36 = .ok (.iload 4, 2) := by decide +kernel
theorem qd_161_38 : decode qm161.2.2.1 38 = .ok (.iadd, 1) := by decide +kernel
theorem qd_161_39 : decode qm161.2.2.1 39 = .ok (.invokevirtual 193, 3) := by decide +kernel
theorem qd_161_42 : decode qm161.2.2.1 42 = .ok (.iinc 4 1, 3) := by decide +kernel
theorem qd_161_45 : decode qm161.2.2.1 45 = .ok (.goto (-26), 3) := by decide +kernel
theorem qd_161_48 : decode qm161.2.2.1 48 = .ok (.aload_n 0, 1) := by decide +kernel
theorem qd_161_49 : decode qm161.2.2.1 49 = .ok (.getfield 41, 3) := by decide +kernel
theorem qd_161_52 : decode qm161.2.2.1 52 = .ok (.iload_n 1, 1) := by decide +kernel
theorem qd_161_53 : decode qm161.2.2.1 53 = .ok (.ifCond .eq 7, 3) := by decide +kernel
theorem qd_161_56 : decode qm161.2.2.1 56 = .ok (.iconst 1, 1) := by decide +kernel
theorem qd_161_57 : decode qm161.2.2.1 57 = .ok (.goto 4, 3) := by decide +kernel
theorem qd_161_60 : decode qm161.2.2.1 60 = .ok (.iconst 0, 1) := by decide +kernel
theorem qd_161_61 : decode qm161.2.2.1 61 = .ok (.aload_n 0, 1) := by decide +kernel
theorem qd_161_62 : decode qm161.2.2.1 62 = .ok (.invokevirtual 80, 3) := by decide +kernel
theorem qd_161_65 : decode qm161.2.2.1 65 = .ok (.ifCond .eq 7, 3) := by decide +kernel
theorem qd_161_68 : decode qm161.2.2.1 68 = .ok (.iload_n 2, 1) := by decide +kernel
theorem qd_161_69 : decode qm161.2.2.1 69 = .ok (.goto 4, 3) := by decide +kernel
theorem qd_161_72 : decode qm161.2.2.1 72 = .ok (.iconst 0, 1) := by decide +kernel
theorem qd_161_73 : decode qm161.2.2.1 73 = .ok (.iastore, 1) := by decide +kernel
theorem qd_161_74 : decode qm161.2.2.1 74 = .ok (.return_, 1) := by decide +kernel
theorem qd_162_0 : decode qm162.2.2.1 0 = .ok (.aload_n 0, 1) := by decide +kernel
theorem qd_162_1 : decode qm162.2.2.1 1 = .ok (.getfield 70, 3) := by decide +kernel
theorem qd_162_4 : decode qm162.2.2.1 4 = .ok (.istore 4, 2) := by decide +kernel
theorem qd_162_6 : decode qm162.2.2.1 6 = .ok (.aload_n 0, 1) := by decide +kernel
theorem qd_162_7 : decode qm162.2.2.1 7 = .ok (.invokevirtual 88, 3) := by decide +kernel
theorem qd_162_10 : decode qm162.2.2.1 10 = .ok (.istore 5, 2) := by decide +kernel
theorem qd_162_12 : decode qm162.2.2.1 12 = .ok (.iconst 0, 1) := by decide +kernel
theorem qd_162_13 : decode qm162.2.2.1 13 = .ok (.istore 6, 2) := by decide +kernel
theorem qd_162_15 : decode qm162.2.2.1 15 = .ok (.iconst 0, 1) := by decide +kernel
theorem qd_162_16 : decode qm162.2.2.1 16 = .ok (.istore 7, 2) := by decide +kernel
theorem qd_162_18 : decode qm162.2.2.1 18 = .ok (.iload 5, 2) := by decide +kernel
theorem qd_162_20 : decode qm162.2.2.1 20 = .ok (.sipush 1024, 3) := by decide +kernel
theorem qd_162_23 : decode qm162.2.2.1 23 = .ok (.iand, 1) := by decide +kernel
theorem qd_162_24 : decode qm162.2.2.1 24 = .ok (.ifCond .eq 7, 3) := by decide +kernel
theorem qd_162_27 : decode qm162.2.2.1 27 = .ok (.iconst 1, 1) := by decide +kernel
theorem qd_162_28 : decode qm162.2.2.1 28 = .ok (.goto 4, 3) := by decide +kernel
theorem qd_162_31 : decode qm162.2.2.1 31 = .ok (.iconst 0, 1) := by decide +kernel
theorem qd_162_32 : decode qm162.2.2.1 32 = .ok (.istore 8, 2) := by decide +kernel
theorem qd_162_34 : decode qm162.2.2.1 34 = .ok (.aload_n 0, 1) := by decide +kernel
theorem qd_162_35 : decode qm162.2.2.1 35 = .ok (.invokevirtual 80, 3) := by decide +kernel
theorem qd_162_38 : decode qm162.2.2.1 38 = .ok (.ifCond .eq 50, 3) := by decide +kernel
theorem qd_162_41 : decode qm162.2.2.1 41 = .ok (.iload 5, 2) := by decide +kernel
theorem qd_162_43 : decode qm162.2.2.1 43 = .ok (.invokestatic 197, 3) := by decide +kernel
theorem qd_162_46 : decode qm162.2.2.1 46 = .ok (.iconst 1, 1) := by decide +kernel
theorem qd_162_47 : decode qm162.2.2.1 47 = .ok (.if_icmp .gt 34, 3) := by decide +kernel
theorem qd_162_50 : decode qm162.2.2.1 50 = .ok (.iload_n 1, 1) := by decide +kernel
theorem qd_162_51 : decode qm162.2.2.1 51 = .ok (.ifCond .eq 20, 3) := by decide +kernel
theorem qd_162_54 : decode qm162.2.2.1 54 = .ok (.iload 8, 2) := by decide +kernel
theorem qd_162_56 : decode qm162.2.2.1 56 = .ok (.ifCond .eq 32, 3) := by decide +kernel
theorem qd_162_59 : decode qm162.2.2.1 59 = .ok (.iload 5, 2) := by decide +kernel
theorem qd_162_61 : decode qm162.2.2.1 61 = .ok (.sipush 314, 3) := by decide +kernel
theorem qd_162_64 : decode qm162.2.2.1 64 = .ok (.iand, 1) := by decide +kernel
theorem qd_162_65 : decode qm162.2.2.1 65 = .ok (.ifCond .eq 23, 3) := by decide +kernel
theorem qd_162_68 : decode qm162.2.2.1 68 = .ok (.goto 13, 3) := by decide +kernel
theorem qd_162_71 : decode qm162.2.2.1 71 = .ok (.iload 5, 2) := by decide +kernel
theorem qd_162_73 : decode qm162.2.2.1 73 = .ok (.bipush 80, 2) := by decide +kernel
theorem qd_162_75 : decode qm162.2.2.1 75 = .ok (.iand, 1) := by decide +kernel
theorem qd_162_76 : decode qm162.2.2.1 76 = .ok (.bipush 80, 2) := by decide +kernel
theorem qd_162_78 : decode qm162.2.2.1 78 = .ok (.if_icmp .ne 10, 3) := by decide +kernel
theorem qd_162_81 : decode qm162.2.2.1 81 = .ok (.aload_n 0, 1) := by decide +kernel
theorem qd_162_82 : decode qm162.2.2.1 82 = .ok (.iload 4, 2) := by decide +kernel
theorem qd_162_84 : decode qm162.2.2.1 84 = .ok (.invokevirtual 76, 3) := by decide +kernel
theorem qd_162_87 : decode qm162.2.2.1 87 = .ok (.pop, 1) := by decide +kernel
theorem qd_162_88 : decode qm162.2.2.1 88 = .ok (.aload_n 0, 1) := by decide +kernel
theorem qd_162_89 : decode qm162.2.2.1 89 = .ok (.invokevirtual 88, 3) := by decide +kernel
theorem qd_162_92 : decode qm162.2.2.1 92 = .ok (.istore 6, 2) := by decide +kernel
theorem qd_162_94 : decode qm162.2.2.1 94 = .ok (.aload_n 0, 1) := by decide +kernel
theorem qd_162_95 : decode qm162.2.2.1 95 = .ok (.invokevirtual 80, 3) := by decide +kernel
theorem qd_162_98 : decode qm162.2.2.1 98 = .ok (.ifCond .eq 46, 3) := by decide +kernel
theorem qd_162_101 : decode qm162.2.2.1 101 = .ok (.aload_n 0, 1) := by decide +kernel
theorem qd_162_102 : decode qm162.2.2.1 102 = .ok (.iload 6, 2) := by decide +kernel
theorem qd_162_104 : decode qm162.2.2.1 104 = .ok (.invokevirtual 143, 3) := by decide +kernel
theorem qd_162_107 : decode qm162.2.2.1 107 = .ok (.ifCond .eq 28, 3) := by decide +kernel
theorem qd_162_110 : decode qm162.2.2.1 110 = .ok (.iload_n 1, 1) := by decide +kernel
theorem qd_162_111 : decode qm162.2.2.1 111 = .ok (.ifCond .eq 15, 3) := by decide +kernel
theorem qd_162_114 : decode qm162.2.2.1 114 = .ok (.aload_n 0, 1) := by decide +kernel
theorem qd_162_115 : decode qm162.2.2.1 115 = .ok (.iload 6, 2) := by decide +kernel
theorem qd_162_117 : decode qm162.2.2.1 117 = .ok (.invokevirtual 165, 3) := by decide +kernel
theorem qd_162_120 : decode qm162.2.2.1 120 = .ok (.ifCond .eq 15, 3) := by decide +kernel
theorem qd_162_123 : decode qm162.2.2.1 123 = .ok (.goto 21, 3) := by decide +kernel
theorem qd_162_126 : decode qm162.2.2.1 126 = .ok (.aload_n 0, 1) := by decide +kernel
theorem qd_162_127 : decode qm162.2.2.1 127 = .ok (.iload 6, 2) := by decide +kernel
theorem qd_162_129 : decode qm162.2.2.1 129 = .ok (.invokevirtual 115, 3) := by decide +kernel
theorem qd_162_132 : decode qm162.2.2.1 132 = .ok (.ifCond .ne 12, 3) := by decide +kernel
theorem qd_162_135 : decode qm162.2.2.1 135 = .ok (.aload_n 0, 1) := by decide +kernel
theorem qd_162_136 : decode qm162.2.2.1 136 = .ok (.iload 4, 2) := by decide +kernel
theorem qd_162_138 : decode qm162.2.2.1 138 = .ok (.iconst 2, 1) := by decide +kernel
theorem qd_162_139 : decode qm162.2.2.1 139 = .ok (.iadd, 1) := by decide +kernel
theorem qd_162_140 : decode qm162.2.2.1 140 = .ok (.invokevirtual 76, 3) := by decide +kernel
theorem qd_162_143 : decode qm162.2.2.1 143 = .ok (.pop, 1) := by decide +kernel
theorem qd_162_144 : decode qm162.2.2.1 144 = .ok (.aload_n 0, 1) := by decide +kernel
theorem qd_162_145 : decode qm162.2.2.1 145 = .ok (.invokevirtual 88, 3) := by decide +kernel
theorem qd_162_148 : decode qm162.2.2.1 148 = .ok (.istore 7, 2) := by decide +kernel
theorem qd_162_150 : decode qm162.2.2.1 150 = .ok (.aload_n 0, 1) := by decide +kernel
theorem qd_162_151 : decode qm162.2.2.1 151 = .ok (.invokevirtual 80, 3) := by decide +kernel
theorem qd_162_154 : decode qm162.2.2.1 154 = .ok (.ifCond .eq 33, 3) := by decide +kernel
theorem qd_162_157 : decode qm162.2.2.1 157 = .ok (.aload_n 0, 1) := by decide +kernel
theorem qd_162_158 : decode qm162.2.2.1 158 = .ok (.iload 7, 2) := by decide +kernel
theorem qd_162_160 : decode qm162.2.2.1 160 = .ok (.invokevirtual 143, 3) := by decide +kernel
theorem qd_162_163 : decode qm162.2.2.1 163 = .ok (.ifCond .eq 15, 3) := by decide +kernel
theorem qd_162_166 : decode qm162.2.2.1 166 = .ok (.aload_n 0, 1) := by decide +kernel
theorem qd_162_167 : decode qm162.2.2.1 167 = .ok (.iload_n 1, 1) := by decide +kernel
theorem qd_162_168 : decode qm162.2.2.1 168 = .ok (.iload 6, 2) := by decide +kernel
theorem qd_162_170 : decode qm162.2.2.1 170 = .ok (.iload 7, 2) := by decide +kernel
theorem qd_162_172 : decode qm162.2.2.1 172 = .ok (.invokevirtual 200, 3) := by decide +kernel
theorem qd_162_175 : decode qm162.2.2.1 175 = .ok (.ifCond .ne 12, 3) := by decide +kernel
theorem qd_162_178 : decode qm162.2.2.1 178 = .ok (.aload_n 0, 1) := by decide +kernel
theorem qd_162_179 : decode qm162.2.2.1 179 = .ok (.iload 4, 2) := by decide +kernel
theorem qd_162_181 : decode qm162.2.2.1 181 = .ok (.iconst 4, 1) := by decide +kernel
theorem qd_162_182 : decode qm162.2.2.1 182 = .ok (.iadd, 1) := by decide +kernel
theorem qd_162_183 : decode qm162.2.2.1 183 = .ok (.invokevirtual 76, 3) := by decide +kernel
theorem qd_162_186 : decode qm162.2.2.1 186 = .ok (.pop, 1) := by decide +kernel
theorem qd_162_187 : decode qm162.2.2.1 187 = .ok (.aload_n 0, 1) := by decide +kernel
theorem qd_162_188 : decode qm162.2.2.1 188 = .ok (.invokevirtual 80, 3) := by decide +kernel
theorem qd_162_191 : decode qm162.2.2.1 191 = .ok (.ifCond .ne 4, 3) := by decide +kernel
theorem qd_162_194 : decode qm162.2.2.1 194 = .ok (.return_, 1) := by decide +kernel
theorem qd_162_195 : decode qm162.2.2.1 195 = .ok (.iload_n 2, 1) := by decide +kernel
theorem qd_162_196 : decode qm162.2.2.1 196 = .ok (.istore 9, 2) := by decide +kernel
theorem qd_162_198 : decode qm162.2.2.1 198 = .ok (.iload 9, 2) := by decide +kernel
theorem qd_162_200 : decode qm162.2.2.1 200 = .ok (.iload_n 3, 1) := by decide +kernel
theorem qd_162_201 : decode qm162.2.2.1 201 = .ok (.if_icmp .ge 62, 3) := by decide +kernel
theorem qd_162_204 : decode qm162.2.2.1 204 = .ok (.aload_n 0, 1) := by decide +kernel
theorem qd_162_205 : decode qm162.2.2.1 205 = .ok (.aload_n 0, 1) := by decide +kernel
theorem qd_162_206 : decode qm162.2.2.1 206 = .ok (.aload_n 0, 1) := by decide +kernel
theorem qd_162_207 : decode qm162.2.2.1 207 = .ok (.getfield 26, 3) := by decide +kernel
theorem qd_162_210 : decode qm162.2.2.1 210 = .ok (.iload 9, 2) := by decide +kernel
theorem qd_162_212 : decode qm162.2.2.1 212 = .ok (.iaload, 1) := by decide +kernel
theorem qd_162_213 : decode qm162.2.2.1 213 = .ok (.iconst 2, 1) := by decide +kernel
theorem qd_162_214 : decode qm162.2.2.1 214 = .ok (.iadd, 1) := by decide +kernel
theorem qd_162_215 : decode qm162.2.2.1 215 = .ok (.invokevirtual 91, 3) := by decide +kernel
theorem qd_162_218 : decode qm162.2.2.1 218 = .ok (.iload 6, 2) := by decide +kernel
theorem qd_162_220 : decode qm162.2.2.1 220 = .ok (.invokevirtual 204, 3) := by decide +kernel
theorem qd_162_223 : decode qm162.2.2.1 223 = .ok (.ifCond .eq 34, 3) := by decide +kernel
theorem qd_162_226 : decode qm162.2.2.1 226 = .ok (.aload_n 0, 1) := by decide +kernel
theorem qd_162_227 : decode qm162.2.2.1 227 = .ok (.aload_n 0, 1) := by decide +kernel
theorem qd_162_228 : decode qm162.2.2.1 228 = .ok (.aload_n 0, 1) := by decide +kernel
theorem qd_162_229 : decode qm162.2.2.1 229 = .ok (.getfield 26, 3) := by decide +kernel
theorem qd_162_232 : decode qm162.2.2.1 232 = .ok (.iload 9, 2) := by decide +kernel
theorem qd_162_234 : decode qm162.2.2.1 234 = .ok (.iaload, 1) := by decide +kernel
theorem qd_162_235 : decode qm162.2.2.1 235 = .ok (.iconst 4, 1) := by decide +kernel
theorem qd_162_236 : decode qm162.2.2.1 236 = .ok (.iadd, 1) := by decide +kernel
theorem qd_162_237 : decode qm162.2.2.1 237 = .ok (.invokevirtual 91, 3) := by decide +kernel
theorem qd_162_240 : decode qm162.2.2.1 240 = .ok (.iload 7, 2) := by decide +kernel
theorem qd_162_242 : decode qm162.2.2.1 242 = .ok (.invokevirtual 204, 3) := by decide +kernel
theorem qd_162_245 : decode qm162.2.2.1 245 = .ok (.ifCond .eq 12, 3) := by decide +kernel
theorem qd_162_248 : decode qm162.2.2.1 248 = .ok (.aload_n 0, 1) := by decide +kernel
theorem qd_162_249 : decode qm162.2.2.1 249 = .ok (.iload 4, 2) := by decide +kernel
theorem qd_162_251 : decode qm162.2.2.1 251 = .ok (.iconst 2, 1) := by decide +kernel
theorem qd_162_252 : decode qm162.2.2.1 252 = .ok (.iadd, 1) := by decide +kernel
theorem qd_162_253 : decode qm162.2.2.1 253 = .ok (.invokevirtual 76, 3) := by decide +kernel
theorem qd_162_256 : decode qm162.2.2.1 256 = .ok (.pop, 1) := by decide +kernel
theorem qd_162_257 : decode qm162.2.2.1 257 = .ok (.iinc 9 1, 3) := by decide +kernel
theorem qd_162_260 : decode qm162.2.2.1 260 = .ok (.goto (-62), 3) := by decide +kernel
theorem qd_162_263 : decode qm162.2.2.1 263 = .ok (.aload_n 0, 1) := by decide +kernel
theorem qd_162_264 : decode qm162.2.2.1 264 = .ok (.getfield 26, 3) := by decide +kernel
theorem qd_162_267 : decode qm162.2.2.1 267 = .ok (.iload_n 3, 1) := by decide +kernel
theorem qd_162_268 : decode qm162.2.2.1 268 = .ok (.iload 4, 2) := by decide +kernel
theorem qd_162_270 : decode qm162.2.2.1 270 = .ok (.iastore, 1) := by decide +kernel
theorem qd_162_271 : decode qm162.2.2.1 271 = .ok (.aload_n 0, 1) := by decide +kernel
theorem qd_162_272 : decode qm162.2.2.1 272 = .ok (.getfield 32, 3) := by decide +kernel
theorem qd_162_275 : decode qm162.2.2.1 275 = .ok (.iload_n 3, 1) := by decide +kernel
theorem qd_162_276 : decode qm162.2.2.1 276 = .ok (.bipush (-2), 2) := by decide +kernel
theorem qd_162_278 : decode qm162.2.2.1 278 = .ok (.iastore, 1) := by decide +kernel
theorem qd_162_279 : decode qm162.2.2.1 279 = .ok (.aload_n 0, 1) := by decide +kernel
theorem qd_162_280 : decode qm162.2.2.1 280 = .ok (.getfield 35, 3) := by decide +kernel
theorem qd_162_283 : decode qm162.2.2.1 283 = .ok (.iload_n 3, 1) := by decide +kernel
theorem qd_162_284 : decode qm162.2.2.1 284 = .ok (.bipush (-2), 2) := by decide +kernel
theorem qd_162_286 : decode qm162.2.2.1 286 = .ok (.iastore, 1) := by decide +kernel
theorem qd_162_287 : decode qm162.2.2.1 287 = .ok (.aload_n 0, 1) := by decide +kernel
theorem qd_162_288 : decode qm162.2.2.1 288 = .ok (.getfield 38, 3) := by decide +kernel
theorem qd_162_291 : decode qm162.2.2.1 291 = .ok (.iload_n 3, 1) := by decide +kernel
theorem qd_162_292 : decode qm162.2.2.1 292 = .ok (.iconst 0, 1) := by decide +kernel
theorem qd_162_293 : decode qm162.2.2.1 293 = .ok (.iastore, 1) := by decide +kernel
theorem qd_162_294 : decode qm162.2.2.1 294 = .ok (.aload_n 0, 1) := by decide +kernel
theorem qd_162_295 : decode qm162.2.2.1 295 = .ok (.getfield 29, 3) := by decide +kernel
theorem qd_162_298 : decode qm162.2.2.1 298 = .ok (.iload_n 3, 1) := by decide +kernel
theorem qd_162_299 : decode qm162.2.2.1 299 = .ok (.aload_n 0, 1) := by decide +kernel
theorem qd_162_300 : decode qm162.2.2.1 300 = .ok (.iload_n 1, 1) := by decide +kernel
theorem qd_162_301 : decode qm162.2.2.1 301 = .ok (.ifCond .eq 7, 3) := by decide +kernel
theorem qd_162_304 : decode qm162.2.2.1 304 = .ok (.iconst 1, 1) := by decide +kernel
theorem qd_162_305 : decode qm162.2.2.1 305 = .ok (.goto 4, 3) := by decide +kernel
theorem qd_162_308 : decode qm162.2.2.1 308 = .ok (.iconst 0, 1) := by decide +kernel
theorem qd_162_309 : decode qm162.2.2.1 309 = .ok (.iload_n 3, 1) := by decide +kernel
theorem qd_162_310 : decode qm162.2.2.1 310 = .ok (.invokevirtual 207, 3) := by decide +kernel
theorem qd_162_313 : decode qm162.2.2.1 313 = .ok (.iastore, 1) := by decide +kernel
theorem qd_162_314 : decode qm162.2.2.1 314 = .ok (.aload_n 0, 1) := by decide +kernel
theorem qd_162_315 : decode qm162.2.2.1 315 = .ok (.invokevirtual 80, 3) := by decide +kernel
theorem qd_162_318 : decode qm162.2.2.1 318 = .ok (.ifCond .eq 37, 3) := by decide +kernel
theorem qd_162_321 : decode qm162.2.2.1 321 = .ok (.iload_n 1, 1) := by decide +kernel
theorem qd_162_322 : decode qm162.2.2.1 322 = .ok (.ifCond .eq 33, 3) := by decide +kernel
theorem qd_162_325 : decode qm162.2.2.1 325 = .ok (.aload_n 0, 1) := by decide +kernel
theorem qd_162_326 : decode qm162.2.2.1 326 = .ok (.getfield 53, 3) := by decide +kernel
theorem qd_162_329 : decode qm162.2.2.1 329 = .ok (.iconst 1, 1) := by decide +kernel
theorem qd_162_330 : decode qm162.2.2.1 330 = .ok (.baload, 1) := by decide +kernel
theorem qd_162_331 : decode qm162.2.2.1 331 = .ok (.iload 5, 2) := by decide +kernel
theorem qd_162_333 : decode qm162.2.2.1 333 = .ok (.sipush 1280, 3) := by decide +kernel
theorem qd_162_336 : decode qm162.2.2.1 336 = .ok (.iand, 1) := by decide +kernel
theorem qd_162_337 : decode qm162.2.2.1 337 = .ok (.ifCond .eq 7, 3) := by decide +kernel
theorem qd_162_340 : decode qm162.2.2.1 340 = .ok (.iconst 1, 1) := by decide +kernel
theorem qd_162_341 : decode qm162.2.2.1 341 = .ok (.goto 4, 3) := by decide +kernel
theorem qd_162_344 : decode qm162.2.2.1 344 = .ok (.iconst 0, 1) := by decide +kernel
theorem qd_162_345 : decode qm162.2.2.1 345 = .ok (.if_icmp .ne 10, 3) := by decide +kernel
theorem qd_162_348 : decode qm162.2.2.1 348 = .ok (.aload_n 0, 1) := by decide +kernel
theorem qd_162_349 : decode qm162.2.2.1 349 = .ok (.iload 4, 2) := by decide +kernel
theorem qd_162_351 : decode qm162.2.2.1 351 = .ok (.invokevirtual 76, 3) := by decide +kernel
theorem qd_162_354 : decode qm162.2.2.1 354 = .ok (.pop, 1) := by decide +kernel
theorem qd_162_355 : decode qm162.2.2.1 355 = .ok (.return_, 1) := by decide +kernel
theorem qd_163_0 : decode qm163.2.2.1 0 = .ok (.iload_n 0, 1) := by decide +kernel
theorem qd_163_1 : decode qm163.2.2.1 1 = .ok (.iconst 1, 1) := by decide +kernel
theorem qd_163_2 : decode qm163.2.2.1 2 = .ok (.iand, 1) := by decide +kernel
theorem qd_163_3 : decode qm163.2.2.1 3 = .ok (.iload_n 0, 1) := by decide +kernel
theorem qd_163_4 : decode qm163.2.2.1 4 = .ok (.iconst 1, 1) := by decide +kernel
theorem qd_163_5 : decode qm163.2.2.1 5 = .ok (.ishr, 1) := by decide +kernel
theorem qd_163_6 : decode qm163.2.2.1 6 = .ok (.iconst 1, 1) := by decide +kernel
theorem qd_163_7 : decode qm163.2.2.1 7 = .ok (.iand, 1) := by decide +kernel
theorem qd_163_8 : decode qm163.2.2.1 8 = .ok (.iadd, 1) := by decide +kernel
theorem qd_163_9 : decode qm163.2.2.1 9 = .ok (.iload_n 0, 1) := by decide +kernel
theorem qd_163_10 : decode qm163.2.2.1 10 = .ok (.iconst 2, 1) := by decide +kernel
theorem qd_163_11 : decode qm163.2.2.1 11 = .ok (.ishr, 1) := by decide +kernel
theorem qd_163_12 : decode qm163.2.2.1 12 = .ok (.iconst 1, 1) := by decide +kernel
theorem qd_163_13 : decode qm163.2.2.1 13 = .ok (.iand, 1) := by decide +kernel
theorem qd_163_14 : decode qm163.2.2.1 14 = .ok (.iadd, 1) := by decide +kernel
theorem qd_163_15 : decode qm163.2.2.1 15 = .ok (.ireturn, 1) := by decide +kernel
theorem qd_164_0 : decode qm164.2.2.1 0 = .ok (.iload_n 1, 1) := by decide +kernel
theorem qd_164_1 : decode qm164.2.2.1 1 = .ok (.ifCond .ne 9, 3) := by decide +kernel
theorem qd_164_4 : decode qm164.2.2.1 4 = .ok (.aload_n 0, 1) := by decide +kernel
theorem qd_164_5 : decode qm164.2.2.1 5 = .ok (.iload_n 3, 1) := by decide +kernel
theorem qd_164_6 : decode qm164.2.2.1 6 = .ok (.invokevirtual 134, 3) := by decide +kernel
theorem qd_164_9 : decode qm164.2.2.1 9 = .ok (.ireturn, 1) := by decide +kernel
theorem qd_164_10 : decode qm164.2.2.1 10 = .ok (.aload_n 0, 1) := by decide +kernel
theorem qd_164_11 : decode qm164.2.2.1 11 = .ok (.iload_n 3, 1) := by decide +kernel
theorem qd_164_12 : decode qm164.2.2.1 12 = .ok (.invokevirtual 146, 3) := by decide +kernel
theorem qd_164_15 : decode qm164.2.2.1 15 = .ok (.ifCond .ne 5, 3) := by decide +kernel
theorem qd_164_18 : decode qm164.2.2.1 18 = .ok (.iconst 0, 1) := by decide +kernel
theorem qd_164_19 : decode qm164.2.2.1 19 = .ok (.ireturn, 1) := by decide +kernel
theorem qd_164_20 : decode qm164.2.2.1 20 = .ok (.aload_n 0, 1) := by decide +kernel
theorem qd_164_21 : decode qm164.2.2.1 21 = .ok (.iload_n 3, 1) := by decide +kernel
theorem qd_164_22 : decode qm164.2.2.1 22 = .ok (.aload_n 0, 1) := by decide +kernel
theorem qd_164_23 : decode qm164.2.2.1 23 = .ok (.getfield 131, 3) := by decide +kernel
theorem qd_164_26 : decode qm164.2.2.1 26 = .ok (.iconst 1, 1) := by decide +kernel
theorem qd_164_27 : decode qm164.2.2.1 27 = .ok (.iadd, 1) := by decide +kernel
theorem qd_164_28 : decode qm164.2.2.1 28 = .ok (.invokevirtual 107, 3) := by decide +kernel
theorem qd_164_31 : decode qm164.2.2.1 31 = .ok (.bipush 86, 2) := by decide +kernel
theorem qd_164_33 : decode qm164.2.2.1 33 = .ok (.if_icmp .ne 7, 3) := by decide +kernel
theorem qd_164_36 : decode qm164.2.2.1 36 = .ok (.iconst 1, 1) := by decide +kernel
theorem qd_164_37 : decode qm164.2.2.1 37 = .ok (.goto 4, 3) := by decide +kernel
theorem qd_164_40 : decode qm164.2.2.1 40 = .ok (.iconst 0, 1) := by decide +kernel
theorem qd_164_41 : decode qm164.2.2.1 41 = .ok (.istore 4, 2) := by decide +kernel
theorem qd_164_43 : decode qm164.2.2.1 43 = .ok (.aload_n 0, 1) := by decide +kernel
theorem qd_164_44 : decode qm164.2.2.1 44 = .ok (.iload_n 2, 1) := by decide +kernel
theorem qd_164_45 : decode qm164.2.2.1 45 = .ok (.bipush 10, 2) := by decide +kernel
theorem qd_164_47 : decode qm164.2.2.1 47 = .ok (.invokevirtual 111, 3) := by decide +kernel
theorem qd_164_50 : decode qm164.2.2.1 50 = .ok (.ifCond .eq 24, 3) := by decide +kernel
theorem qd_164_53 : decode qm164.2.2.1 53 = .ok (.iload 4, 2) := by decide +kernel
theorem qd_164_55 : decode qm164.2.2.1 55 = .ok (.ifCond .eq 15, 3) := by decide +kernel
theorem qd_164_58 : decode qm164.2.2.1 58 = .ok (.aload_n 0, 1) := by decide +kernel
theorem qd_164_59 : decode qm164.2.2.1 59 = .ok (.getfield 131, 3) := by decide +kernel
theorem qd_164_62 : decode qm164.2.2.1 62 = .ok (.iconst 1, 1) := by decide +kernel
theorem qd_164_63 : decode qm164.2.2.1 63 = .ok (.if_icmp .ne 7, 3) := by decide +kernel
theorem qd_164_66 : decode qm164.2.2.1 66 = .ok (.iconst 1, 1) := by decide +kernel
theorem qd_164_67 : decode qm164.2.2.1 67 = .ok (.goto 27, 3) := by decide +kernel
theorem qd_164_70 : decode qm164.2.2.1 70 = .ok (.iconst 0, 1) := by decide +kernel
theorem qd_164_71 : decode qm164.2.2.1 71 = .ok (.goto 23, 3) := by decide +kernel
theorem qd_164_74 : decode qm164.2.2.1 74 = .ok (.iload 4, 2) := by decide +kernel
theorem qd_164_76 : decode qm164.2.2.1 76 = .ok (.ifCond .ne 13, 3) := by decide +kernel
theorem qd_164_79 : decode qm164.2.2.1 79 = .ok (.aload_n 0, 1) := by decide +kernel
theorem qd_164_80 : decode qm164.2.2.1 80 = .ok (.iload_n 2, 1) := by decide +kernel
theorem qd_164_81 : decode qm164.2.2.1 81 = .ok (.bipush 9, 2) := by decide +kernel
theorem qd_164_83 : decode qm164.2.2.1 83 = .ok (.invokevirtual 111, 3) := by decide +kernel
theorem qd_164_86 : decode qm164.2.2.1 86 = .ok (.ifCond .ne 7, 3) := by decide +kernel
theorem qd_164_89 : decode qm164.2.2.1 89 = .ok (.iconst 1, 1) := by decide +kernel
theorem qd_164_90 : decode qm164.2.2.1 90 = .ok (.goto 4, 3) := by decide +kernel
theorem qd_164_93 : decode qm164.2.2.1 93 = .ok (.iconst 0, 1) := by decide +kernel
theorem qd_164_94 : decode qm164.2.2.1 94 = .ok (.ireturn, 1) := by decide +kernel
theorem qd_165_0 : decode qm165.2.2.1 0 = .ok (.aload_n 0, 1) := by decide +kernel
theorem qd_165_1 : decode qm165.2.2.1 1 = .ok (.iload_n 1, 1) := by decide +kernel
theorem qd_165_2 : decode qm165.2.2.1 2 = .ok (.invokevirtual 104, 3) := by decide +kernel
theorem qd_165_5 : decode qm165.2.2.1 5 = .ok (.istore_n 3, 1) := by decide +kernel
theorem qd_165_6 : decode qm165.2.2.1 6 = .ok (.iload_n 3, 1) := by decide +kernel
theorem qd_165_7 : decode qm165.2.2.1 7 = .ok (.aload_n 0, 1) := by decide +kernel
theorem qd_165_8 : decode qm165.2.2.1 8 = .ok (.iload_n 2, 1) := by decide +kernel
theorem qd_165_9 : decode qm165.2.2.1 9 = .ok (.invokevirtual 104, 3) := by decide +kernel
theorem qd_165_12 : decode qm165.2.2.1 12 = .ok (.if_icmp .eq 5, 3) := by decide +kernel
theorem qd_165_15 : decode qm165.2.2.1 15 = .ok (.iconst 0, 1) := by decide +kernel
theorem qd_165_16 : decode qm165.2.2.1 16 = .ok (.ireturn, 1) := by decide +kernel
theorem qd_165_17 : decode qm165.2.2.1 17 = .ok (.iconst 0, 1) := by decide +kernel
theorem qd_165_18 : decode qm165.2.2.1 18 = .ok (.istore 4, 2) := by decide +kernel
theorem qd_165_20 : decode qm165.2.2.1 20 = .ok (.iload 4, 2) := by decide +kernel
theorem qd_165_22 : decode qm165.2.2.1 22 = .ok (.iload_n 3, 1) := by decide +kernel
theorem qd_165_23 : decode qm165.2.2.1 23 = .ok (.if_icmp .ge 28, 3) := by decide +kernel
theorem qd_165_26 : decode qm165.2.2.1 26 = .ok (.aload_n 0, 1) := by decide +kernel
theorem qd_165_27 : decode qm165.2.2.1 27 = .ok (.iload_n 1, 1) := by decide +kernel
theorem qd_165_28 : decode qm165.2.2.1 28 = .ok (.iload 4, 2) := by decide +kernel
theorem qd_165_30 : decode qm165.2.2.1 30 = .ok (.invokevirtual 107, 3) := by decide +kernel
theorem qd_165_33 : decode qm165.2.2.1 33 = .ok (.aload_n 0, 1) := by decide +kernel
theorem qd_165_34 : decode qm165.2.2.1 34 = .ok (.iload_n 2, 1) := by decide +kernel
theorem qd_165_35 : decode qm165.2.2.1 35 = .ok (.iload 4, 2) := by decide +kernel
theorem qd_165_37 : decode qm165.2.2.1 37 = .ok (.invokevirtual 107, 3) := by decide +kernel
theorem qd_165_40 : decode qm165.2.2.1 40 = .ok (.if_icmp .eq 5, 3) := by decide +kernel
theorem qd_165_43 : decode qm165.2.2.1 43 = .ok (.iconst 0, 1) := by decide +kernel
theorem qd_165_44 : decode qm165.2.2.1 44 = .ok (.ireturn, 1) := by decide +kernel
theorem qd_165_45 : decode qm165.2.2.1 45 = .ok (.iinc 4 1, 3) := by decide +kernel
theorem qd_165_48 : decode qm165.2.2.1 48 = .ok (.goto (-28), 3) := by decide +kernel
theorem qd_165_51 : decode qm165.2.2.1 51 = .ok (.iconst 1, 1) := by decide +kernel
theorem qd_165_52 : decode qm165.2.2.1 52 = .ok (.ireturn, 1) := by decide +kernel
theorem qd_166_0 : decode qm166.2.2.1 0 = .ok (.iconst 0, 1) := by decide +kernel
theorem qd_166_1 : decode qm166.2.2.1 1 = .ok (.istore_n 3, 1) := by decide +kernel
theorem qd_166_2 : decode qm166.2.2.1 2 = .ok (.iload_n 3, 1) := by decide +kernel
theorem qd_166_3 : decode qm166.2.2.1 3 = .ok (.bipush 9, 2) := by decide +kernel
theorem qd_166_5 : decode qm166.2.2.1 5 = .ok (.if_icmp .ge 16, 3) := by decide +kernel
theorem qd_166_8 : decode qm166.2.2.1 8 = .ok (.aload_n 0, 1) := by decide +kernel
theorem qd_166_9 : decode qm166.2.2.1 9 = .ok (.getfield 53, 3) := by decide +kernel
theorem qd_166_12 : decode qm166.2.2.1 12 = .ok (.iload_n 3, 1) := by decide +kernel
theorem qd_166_13 : decode qm166.2.2.1 13 = .ok (.iconst 0, 1) := by decide +kernel
theorem qd_166_14 : decode qm166.2.2.1 14 = .ok (.bastore, 1) := by decide +kernel
theorem qd_166_15 : decode qm166.2.2.1 15 = .ok (.iinc 3 1, 3) := by decide +kernel
theorem qd_166_18 : decode qm166.2.2.1 18 = .ok (.goto (-16), 3) := by decide +kernel
theorem qd_166_21 : decode qm166.2.2.1 21 = .ok (.aload_n 0, 1) := by decide +kernel
theorem qd_166_22 : decode qm166.2.2.1 22 = .ok (.invokevirtual 88, 3) := by decide +kernel
theorem qd_166_25 : decode qm166.2.2.1 25 = .ok (.istore_n 3, 1) := by decide +kernel
theorem qd_166_26 : decode qm166.2.2.1 26 = .ok (.iconst 0, 1) := by decide +kernel
theorem qd_166_27 : decode qm166.2.2.1 27 = .ok (.istore 4, 2) := by decide +kernel
theorem qd_166_29 : decode qm166.2.2.1 29 = .ok (.iload 4, 2) := by decide +kernel
theorem qd_166_31 : decode qm166.2.2.1 31 = .ok (.iload_n 3, 1) := by decide +kernel
theorem qd_166_32 : decode qm166.2.2.1 32 = .ok (.if_icmp .ge 247, 3) := by decide +kernel
theorem qd_166_35 : decode qm166.2.2.1 35 = .ok (.aload_n 0, 1) := by decide +kernel
theorem qd_166_36 : decode qm166.2.2.1 36 = .ok (.invokevirtual 80, 3) := by decide +kernel
theorem qd_166_39 : decode qm166.2.2.1 39 = .ok (.ifCond .eq 240, 3) := by decide +kernel
theorem qd_166_42 : decode qm166.2.2.1 42 = .ok (.aload_n 0, 1) := by decide +kernel
theorem qd_166_43 : decode qm166.2.2.1 43 = .ok (.getfield 70, 3) := by decide +kernel
theorem qd_166_46 : decode qm166.2.2.1 46 = .ok (.istore 5, 2) := by decide +kernel
theorem qd_166_48 : decode qm166.2.2.1 48 = .ok (.aload_n 0, 1) := by decide +kernel
theorem qd_166_49 : decode qm166.2.2.1 49 = .ok (.invokevirtual 88, 3) := by decide +kernel
theorem qd_166_52 : decode qm166.2.2.1 52 = .ok (.istore 6, 2) := by decide +kernel
theorem qd_166_54 : decode qm166.2.2.1 54 = .ok (.aload_n 0, 1) := by decide +kernel
theorem qd_166_55 : decode qm166.2.2.1 55 = .ok (.invokevirtual 80, 3) := by decide +kernel
theorem qd_166_58 : decode qm166.2.2.1 58 = .ok (.ifCond .eq 19, 3) := by decide +kernel
theorem qd_166_61 : decode qm166.2.2.1 61 = .ok (.aload_n 0, 1) := by decide +kernel
theorem qd_166_62 : decode qm166.2.2.1 62 = .ok (.iload 6, 2) := by decide +kernel
theorem qd_166_64 : decode qm166.2.2.1 64 = .ok (.invokevirtual 143, 3) := by decide +kernel
theorem qd_166_67 : decode qm166.2.2.1 67 = .ok (.ifCond .ne 10, 3) := by decide +kernel
theorem qd_166_70 : decode qm166.2.2.1 70 = .ok (.aload_n 0, 1) := by decide +kernel
theorem qd_166_71 : decode qm166.2.2.1 71 = .ok (.iload 5, 2) := by decide +kernel
theorem qd_166_73 : decode qm166.2.2.1 73 = .ok (.invokevirtual 76, 3) := by decide +kernel
theorem qd_166_76 : decode qm166.2.2.1 76 = .ok (.pop, 1) := by decide +kernel
theorem qd_166_77 : decode qm166.2.2.1 77 = .ok (.aload_n 0, 1) := by decide +kernel
theorem qd_166_78 : decode qm166.2.2.1 78 = .ok (.invokevirtual 80, 3) := by decide +kernel
theorem qd_166_81 : decode qm166.2.2.1 81 = .ok (.ifCond .eq 13, 3) := by decide +kernel
theorem qd_166_84 : decode qm166.2.2.1 84 = .ok (.aload_n 0, 1) := by decide +kernel
theorem qd_166_85 : decode qm166.2.2.1 85 = .ok (.iload_n 1, 1) := by decide +kernel
theorem qd_166_86 : decode qm166.2.2.1 86 = .ok (.iload 6, 2) := by decide +kernel
theorem qd_166_88 : decode qm166.2.2.1 88 = .ok (.invokevirtual 210, 3) := by decide +kernel
theorem qd_166_91 : decode qm166.2.2.1 91 = .ok (.goto 4, 3) := by decide +kernel
theorem qd_166_94 : decode qm166.2.2.1 94 = .ok (.iconst (-1), 1) := by decide +kernel
theorem qd_166_95 : decode qm166.2.2.1 95 = .ok (.istore 7, 2) := by decide +kernel
theorem qd_166_97 : decode qm166.2.2.1 97 = .ok (.iload 7, 2) := by decide +kernel
theorem qd_166_99 : decode qm166.2.2.1 99 = .ok (.ifCond .lt 60, 3) := by decide +kernel
theorem qd_166_102 : decode qm166.2.2.1 102 = .ok (.aload_n 0, 1) := by decide +kernel
theorem qd_166_103 : decode qm166.2.2.1 103 = .ok (.getfield 53, 3) := by decide +kernel
theorem qd_166_106 : decode qm166.2.2.1 106 = .ok (.iload 7, 2) := by decide +kernel
theorem qd_166_108 : decode qm166.2.2.1 108 = .ok (.baload, 1) := by decide +kernel
theorem qd_166_109 : decode qm166.2.2.1 109 = .ok (.ifCond .ne 35, 3) := by decide +kernel
theorem qd_166_112 : decode qm166.2.2.1 112 = .ok (.iload 7, 2) := by decide +kernel
theorem qd_166_114 : decode qm166.2.2.1 114 = .ok (.iconst 5, 1) := by decide +kernel
theorem qd_166_115 : decode qm166.2.2.1 115 = .ok (.if_icmp .ne 13, 3) := by decide +kernel
theorem qd_166_118 : decode qm166.2.2.1 118 = .ok (.aload_n 0, 1) := by decide +kernel
theorem qd_166_119 : decode qm166.2.2.1 119 = .ok (.getfield 53, 3) := by decide +kernel
theorem qd_166_122 : decode qm166.2.2.1 122 = .ok (.bipush 6, 2) := by decide +kernel
theorem qd_166_124 : decode qm166.2.2.1 124 = .ok (.baload, 1) := by decide +kernel
theorem qd_166_125 : decode qm166.2.2.1 125 = .ok (.ifCond .ne 19, 3) := by decide +kernel
theorem qd_166_128 : decode qm166.2.2.1 128 = .ok (.iload 7, 2) := by decide +kernel
theorem qd_166_130 : decode qm166.2.2.1 130 = .ok (.bipush 6, 2) := by decide +kernel
theorem qd_166_132 : decode qm166.2.2.1 132 = .ok (.if_icmp .ne 19, 3) := by decide +kernel
theorem qd_166_135 : decode qm166.2.2.1 135 = .ok (.aload_n 0, 1) := by decide +kernel
theorem qd_166_136 : decode qm166.2.2.1 136 = .ok (.getfield 53, 3) := by decide +kernel
theorem qd_166_139 : decode qm166.2.2.1 139 = .ok (.iconst 5, 1) := by decide +kernel
theorem qd_166_140 : decode qm166.2.2.1 140 = .ok (.baload, 1) := by decide +kernel
theorem qd_166_141 : decode qm166.2.2.1 141 = .ok (.ifCond .eq 10, 3) := by decide +kernel
theorem qd_166_144 : decode qm166.2.2.1 144 = .ok (.aload_n 0, 1) := by decide +kernel
theorem qd_166_145 : decode qm166.2.2.1 145 = .ok (.iload 5, 2) := by decide +kernel
theorem qd_166_147 : decode qm166.2.2.1 147 = .ok (.invokevirtual 76, 3) := by decide +kernel
theorem qd_166_150 : decode qm166.2.2.1 150 = .ok (.pop, 1) := by decide +kernel
theorem qd_166_151 : decode qm166.2.2.1 151 = .ok (.aload_n 0, 1) := by decide +kernel
theorem qd_166_152 : decode qm166.2.2.1 152 = .ok (.getfield 53, 3) := by decide +kernel
theorem qd_166_155 : decode qm166.2.2.1 155 = .ok (.iload 7, 2) := by decide +kernel
theorem qd_166_157 : decode qm166.2.2.1 157 = .ok (.iconst 1, 1) := by decide +kernel
theorem qd_166_158 : decode qm166.2.2.1 158 = .ok (.bastore, 1) := by decide +kernel
theorem qd_166_159 : decode qm166.2.2.1 159 = .ok (.aload_n 0, 1) := by decide +kernel
theorem qd_166_160 : decode qm166.2.2.1 160 = .ok (.getfield 70, 3) := by decide +kernel
theorem qd_166_163 : decode qm166.2.2.1 163 = .ok (.istore 8, 2) := by decide +kernel
theorem qd_166_165 : decode qm166.2.2.1 165 = .ok (.aload_n 0, 1) := by decide +kernel
theorem qd_166_166 : decode qm166.2.2.1 166 = .ok (.invokevirtual 155, 3) := by decide +kernel
theorem qd_166_169 : decode qm166.2.2.1 169 = .ok (.istore 9, 2) := by decide +kernel
theorem qd_166_171 : decode qm166.2.2.1 171 = .ok (.aload_n 0, 1) := by decide +kernel
theorem qd_166_172 : decode qm166.2.2.1 172 = .ok (.invokevirtual 80, 3) := by decide +kernel
theorem qd_166_175 : decode qm166.2.2.1 175 = .ok (.ifCond .eq 31, 3) := by decide +kernel
theorem qd_166_178 : decode qm166.2.2.1 178 = .ok (.iload 9, 2) := by decide +kernel
theorem qd_166_180 : decode qm166.2.2.1 180 = .ok (.ifCond .lt 17, 3) := by decide +kernel
theorem qd_166_183 : decode qm166.2.2.1 183 = .ok (.iload 9, 2) := by decide +kernel
theorem qd_166_185 : decode qm166.2.2.1 185 = .ok (.aload_n 0, 1) := by decide +kernel
theorem qd_166_186 : decode qm166.2.2.1 186 = .ok (.getfield 73, 3) := by decide +kernel
theorem qd_166_189 : decode qm166.2.2.1 189 = .ok (.aload_n 0, 1) := by decide +kernel
theorem qd_166_190 : decode qm166.2.2.1 190 = .ok (.getfield 70, 3) := by decide +kernel
theorem qd_166_193 : decode qm166.2.2.1 193 = .ok (.isub, 1) := by decide +kernel
theorem qd_166_194 : decode qm166.2.2.1 194 = .ok (.if_icmp .le 12, 3) := by decide +kernel
theorem qd_166_197 : decode qm166.2.2.1 197 = .ok (.aload_n 0, 1) := by decide +kernel
theorem qd_166_198 : decode qm166.2.2.1 198 = .ok (.aload_n 0, 1) := by decide +kernel
theorem qd_166_199 : decode qm166.2.2.1 199 = .ok (.getfield 73, 3) := by decide +kernel
theorem qd_166_202 : decode qm166.2.2.1 202 = .ok (.invokevirtual 76, 3) := by decide +kernel
theorem qd_166_205 : decode qm166.2.2.1 205 = .ok (.pop, 1) := by decide +kernel
theorem qd_166_206 : decode qm166.2.2.1 206 = .ok (.aload_n 0, 1) := by decide +kernel
theorem qd_166_207 : decode qm166.2.2.1 207 = .ok (.invokevirtual 80, 3) := by decide +kernel
theorem qd_166_210 : decode qm166.2.2.1 210 = .ok (.ifCond .ne 5, 3) := by decide +kernel
theorem qd_166_213 : decode qm166.2.2.1 213 = .ok (.iload_n 3, 1) := by decide +kernel
theorem qd_166_214 : decode qm166.2.2.1 214 = .ok (.ireturn, 1) := by decide +kernel
theorem qd_166_215 : decode qm166.2.2.1 215 = .ok (.aload_n 0, 1) := by decide +kernel
theorem qd_166_216 : decode qm166.2.2.1 216 = .ok (.getfield 70, 3) := by decide +kernel
theorem qd_166_219 : decode qm166.2.2.1 219 = .ok (.istore 10, 2) := by decide +kernel
theorem qd_166_221 : decode qm166.2.2.1 221 = .ok (.iload 7, 2) := by decide +kernel
theorem qd_166_223 : decode qm166.2.2.1 223 = .ok (.ifCond .ge 17, 3) := by decide +kernel
theorem qd_166_226 : decode qm166.2.2.1 226 = .ok (.aload_n 0, 1) := by decide +kernel
theorem qd_166_227 : decode qm166.2.2.1 227 = .ok (.dup, 1) := by decide +kernel
theorem qd_166_228 : decode qm166.2.2.1 228 = .ok (.getfield 70, 3) := by decide +kernel
theorem qd_166_231 : decode qm166.2.2.1 231 = .ok (.iload 9, 2) := by decide +kernel
theorem qd_166_233 : decode qm166.2.2.1 233 = .ok (.iadd, 1) := by decide +kernel
theorem qd_166_234 : decode qm166.2.2.1 234 = .ok (.putfield 70, 3) := by decide +kernel
theorem qd_166_237 : decode qm166.2.2.1 237 = .ok (.goto 10, 3) := by decide +kernel
theorem qd_166_240 : decode qm166.2.2.1 240 = .ok (.aload_n 0, 1) := by decide +kernel
theorem qd_166_241 : decode qm166.2.2.1 241 = .ok (.iload 7, 2) := by decide +kernel
theorem qd_166_243 : decode qm166.2.2.1 243 = .ok (.iload_n 2, 1) := by decide +kernel
theorem qd_166_244 : decode qm166.2.2.1 244 = .ok (.invokevirtual 213, 3) := by decide +kernel
theorem qd_166_247 : decode qm166.2.2.1 247 = .ok (.aload_n 0, 1) := by decide +kernel
theorem qd_166_248 : decode qm166.2.2.1 248 = .ok (.invokevirtual 80, 3) := by decide +kernel
theorem qd_166_251 : decode qm166.2.2.1 251 = .ok (.ifCond .eq 22, 3) := by decide +kernel
theorem qd_166_254 : decode qm166.2.2.1 254 = .ok (.aload_n 0, 1) := by decide +kernel
theorem qd_166_255 : decode qm166.2.2.1 255 = .ok (.getfield 70, 3) := by decide +kernel
theorem qd_166_258 : decode qm166.2.2.1 258 = .ok (.iload 10, 2) := by decide +kernel
theorem qd_166_260 : decode qm166.2.2.1 260 = .ok (.isub, 1) := by decide +kernel
theorem qd_166_261 : decode qm166.2.2.1 261 = .ok (.iload 9, 2) := by decide +kernel
theorem qd_166_263 : decode qm166.2.2.1 263 = .ok (.if_icmp .eq 10, 3) := by decide +kernel
theorem qd_166_266 : decode qm166.2.2.1 266 = .ok (.aload_n 0, 1) := by decide +kernel
theorem qd_166_267 : decode qm166.2.2.1 267 = .ok (.iload 8, 2) := by decide +kernel
theorem qd_166_269 : decode qm166.2.2.1 269 = .ok (.invokevirtual 76, 3) := by decide +kernel
theorem qd_166_272 : decode qm166.2.2.1 272 = .ok (.pop, 1) := by decide +kernel
theorem qd_166_273 : decode qm166.2.2.1 273 = .ok (.iinc 4 1, 3) := by decide +kernel
theorem qd_166_276 : decode qm166.2.2.1 276 = .ok (.goto (-247), 3) := by decide +kernel
theorem qd_166_279 : decode qm166.2.2.1 279 = .ok (.iload_n 3, 1) := by decide +kernel
theorem qd_166_280 : decode qm166.2.2.1 280 = .ok (.ireturn, 1) := by decide +kernel
theorem qd_167_0 : decode qm167.2.2.1 0 = .ok (.iload_n 1, 1) := by decide +kernel
theorem qd_167_1 : decode qm167.2.2.1 1 = .ok (.ifCond .ne 7, 3) := by decide +kernel
theorem qd_167_4 : decode qm167.2.2.1 4 = .ok (.iconst 0, 1) := by decide +kernel
theorem qd_167_5 : decode qm167.2.2.1 5 = .ok (.goto 13, 3) := by decide +kernel
theorem qd_167_8 : decode qm167.2.2.1 8 = .ok (.iload_n 1, 1) := by decide +kernel
theorem qd_167_9 : decode qm167.2.2.1 9 = .ok (.iconst 1, 1) := by decide +kernel
theorem qd_167_10 : decode qm167.2.2.1 10 = .ok (.if_icmp .ne 7, 3) := by decide +kernel
theorem qd_167_13 : decode qm167.2.2.1 13 = .ok (.iconst 1, 1) := by decide +kernel
theorem qd_167_14 : decode qm167.2.2.1 14 = .ok (.goto 4, 3) := by decide +kernel
theorem qd_167_17 : decode qm167.2.2.1 17 = .ok (.iconst 3, 1) := by decide +kernel
theorem qd_167_18 : decode qm167.2.2.1 18 = .ok (.istore_n 3, 1) := by decide +kernel
theorem qd_167_19 : decode qm167.2.2.1 19 = .ok (.iload_n 1, 1) := by decide +kernel
theorem qd_167_20 : decode qm167.2.2.1 20 = .ok (.ifCond .ne 7, 3) := by decide +kernel
theorem qd_167_23 : decode qm167.2.2.1 23 = .ok (.iconst 0, 1) := by decide +kernel
theorem qd_167_24 : decode qm167.2.2.1 24 = .ok (.goto 14, 3) := by decide +kernel
theorem qd_167_27 : decode qm167.2.2.1 27 = .ok (.iload_n 1, 1) := by decide +kernel
theorem qd_167_28 : decode qm167.2.2.1 28 = .ok (.iconst 1, 1) := by decide +kernel
theorem qd_167_29 : decode qm167.2.2.1 29 = .ok (.if_icmp .ne 7, 3) := by decide +kernel
theorem qd_167_32 : decode qm167.2.2.1 32 = .ok (.iconst 2, 1) := by decide +kernel
theorem qd_167_33 : decode qm167.2.2.1 33 = .ok (.goto 5, 3) := by decide +kernel
theorem qd_167_36 : decode qm167.2.2.1 36 = .ok (.bipush 8, 2) := by decide +kernel
theorem qd_167_38 : decode qm167.2.2.1 38 = .ok (.istore 4, 2) := by decide +kernel
theorem qd_167_40 : decode qm167.2.2.1 40 = .ok (.iload_n 3, 1) := by decide +kernel
theorem qd_167_41 : decode qm167.2.2.1 41 = .ok (.istore 5, 2) := by decide +kernel
theorem qd_167_43 : decode qm167.2.2.1 43 = .ok (.iload 5, 2) := by decide +kernel
theorem qd_167_45 : decode qm167.2.2.1 45 = .ok (.iload 4, 2) := by decide +kernel
theorem qd_167_47 : decode qm167.2.2.1 47 = .ok (.if_icmp .gt 22, 3) := by decide +kernel
theorem qd_167_50 : decode qm167.2.2.1 50 = .ok (.aload_n 0, 1) := by decide +kernel
theorem qd_167_51 : decode qm167.2.2.1 51 = .ok (.iload_n 2, 1) := by decide +kernel
theorem qd_167_52 : decode qm167.2.2.1 52 = .ok (.iload 5, 2) := by decide +kernel
theorem qd_167_54 : decode qm167.2.2.1 54 = .ok (.invokevirtual 111, 3) := by decide +kernel
theorem qd_167_57 : decode qm167.2.2.1 57 = .ok (.ifCond .eq 6, 3) := by decide +kernel
theorem qd_167_60 : decode qm167.2.2.1 60 = .ok (.iload 5, 2) := by decide +kernel
theorem qd_167_62 : decode qm167.2.2.1 62 = .ok (.ireturn, 1) := by decide +kernel
theorem qd_167_63 : decode qm167.2.2.1 63 = .ok (.iinc 5 1, 3) := by decide +kernel
theorem qd_167_66 : decode qm167.2.2.1 66 = .ok (.goto (-23), 3) := by decide +kernel
theorem qd_167_69 : decode qm167.2.2.1 69 = .ok (.iconst (-1), 1) := by decide +kernel
theorem qd_167_70 : decode qm167.2.2.1 70 = .ok (.ireturn, 1) := by decide +kernel
theorem qd_168_0 : decode qm168.2.2.1 0 = .ok (.iload_n 1, 1) := by decide +kernel
theorem qd_168_1 : decode qm168.2.2.1 1 = .ok (.tableswitch 88 0 2 #[27, 35, 43], 27) := by decide +kernel
theorem qd_168_28 : decode qm168.2.2.1 28 = .ok (.aload_n 0, 1) := by decide +kernel
theorem qd_168_29 : decode qm168.2.2.1 29 = .ok (.iload_n 2, 1) := by decide +kernel
theorem qd_168_30 : decode qm168.2.2.1 30 = .ok (.invokevirtual 217, 3) := by decide +kernel
theorem qd_168_33 : decode qm168.2.2.1 33 = .ok (.goto 61, 3) := by decide +kernel
theorem qd_168_36 : decode qm168.2.2.1 36 = .ok (.aload_n 0, 1) := by decide +kernel
theorem qd_168_37 : decode qm168.2.2.1 37 = .ok (.iload_n 2, 1) := by decide +kernel
theorem qd_168_38 : decode qm168.2.2.1 38 = .ok (.invokevirtual 221, 3) := by decide +kernel
theorem qd_168_41 : decode qm168.2.2.1 41 = .ok (.goto 53, 3) := by decide +kernel
theorem qd_168_44 : decode qm168.2.2.1 44 = .ok (.aload_n 0, 1) := by decide +kernel
theorem qd_168_45 : decode qm168.2.2.1 45 = .ok (.getfield 38, 3) := by decide +kernel
theorem qd_168_48 : decode qm168.2.2.1 48 = .ok (.iload_n 2, 1) := by decide +kernel
theorem qd_168_49 : decode qm168.2.2.1 49 = .ok (.aload_n 0, 1) := by decide +kernel
theorem qd_168_50 : decode qm168.2.2.1 50 = .ok (.invokevirtual 88, 3) := by decide +kernel
theorem qd_168_53 : decode qm168.2.2.1 53 = .ok (.iastore, 1) := by decide +kernel
theorem qd_168_54 : decode qm168.2.2.1 54 = .ok (.iconst 0, 1) := by decide +kernel
theorem qd_168_55 : decode qm168.2.2.1 55 = .ok (.istore_n 3, 1) := by decide +kernel
theorem qd_168_56 : decode qm168.2.2.1 56 = .ok (.iload_n 3, 1) := by decide +kernel
theorem qd_168_57 : decode qm168.2.2.1 57 = .ok (.aload_n 0, 1) := by decide +kernel
theorem qd_168_58 : decode qm168.2.2.1 58 = .ok (.getfield 38, 3) := by decide +kernel
theorem qd_168_61 : decode qm168.2.2.1 61 = .ok (.iload_n 2, 1) := by decide +kernel
theorem qd_168_62 : decode qm168.2.2.1 62 = .ok (.iaload, 1) := by decide +kernel
theorem qd_168_63 : decode qm168.2.2.1 63 = .ok (.if_icmp .ge 23, 3) := by decide +kernel
theorem qd_168_66 : decode qm168.2.2.1 66 = .ok (.aload_n 0, 1) := by decide +kernel
theorem qd_168_67 : decode qm168.2.2.1 67 = .ok (.invokevirtual 80, 3) := by decide +kernel
theorem qd_168_70 : decode qm168.2.2.1 70 = .ok (.ifCond .eq 16, 3) := by decide +kernel
theorem qd_168_73 : decode qm168.2.2.1 73 = .ok (.aload_n 0, 1) := by decide +kernel
theorem qd_168_74 : decode qm168.2.2.1 74 = .ok (.bipush 7, 2) := by decide +kernel
theorem qd_168_76 : decode qm168.2.2.1 76 = .ok (.iconst 0, 1) := by decide +kernel
theorem qd_168_77 : decode qm168.2.2.1 77 = .ok (.invokevirtual 224, 3) := by decide +kernel
theorem qd_168_80 : decode qm168.2.2.1 80 = .ok (.iinc 3 1, 3) := by decide +kernel
theorem qd_168_83 : decode qm168.2.2.1 83 = .ok (.goto (-27), 3) := by decide +kernel
theorem qd_168_86 : decode qm168.2.2.1 86 = .ok (.goto 8, 3) := by decide +kernel
theorem qd_168_89 : decode qm168.2.2.1 89 = .ok (.aload_n 0, 1) := by decide +kernel
theorem qd_168_90 : decode qm168.2.2.1 90 = .ok (.iload_n 1, 1) := by decide +kernel
theorem qd_168_91 : decode qm168.2.2.1 91 = .ok (.invokevirtual 228, 3) := by decide +kernel
theorem qd_168_94 : decode qm168.2.2.1 94 = .ok (.return_, 1) := by decide +kernel
theorem qd_169_0 : decode qm169.2.2.1 0 = .ok (.aload_n 0, 1) := by decide +kernel
theorem qd_169_1 : decode qm169.2.2.1 1 = .ok (.getfield 70, 3) := by decide +kernel
theorem qd_169_4 : decode qm169.2.2.1 4 = .ok (.istore_n 2, 1) := by decide +kernel
theorem qd_169_5 : decode qm169.2.2.1 5 = .ok (.aload_n 0, 1) := by decide +kernel
theorem qd_169_6 : decode qm169.2.2.1 6 = .ok (.invokevirtual 88, 3) := by decide +kernel
theorem qd_169_9 : decode qm169.2.2.1 9 = .ok (.istore_n 3, 1) := by decide +kernel
theorem qd_169_10 : decode qm169.2.2.1 10 = .ok (.aload_n 0, 1) := by decide +kernel
theorem qd_169_11 : decode qm169.2.2.1 11 = .ok (.aload_n 0, 1) := by decide +kernel
theorem qd_169_12 : decode qm169.2.2.1 12 = .ok (.getfield 26, 3) := by decide +kernel
theorem qd_169_15 : decode qm169.2.2.1 15 = .ok (.iload_n 1, 1) := by decide +kernel
theorem qd_169_16 : decode qm169.2.2.1 16 = .ok (.iaload, 1) := by decide +kernel
theorem qd_169_17 : decode qm169.2.2.1 17 = .ok (.iconst 4, 1) := by decide +kernel
theorem qd_169_18 : decode qm169.2.2.1 18 = .ok (.iadd, 1) := by decide +kernel
theorem qd_169_19 : decode qm169.2.2.1 19 = .ok (.invokevirtual 91, 3) := by decide +kernel
theorem qd_169_22 : decode qm169.2.2.1 22 = .ok (.istore 4, 2) := by decide +kernel
theorem qd_169_24 : decode qm169.2.2.1 24 = .ok (.aload_n 0, 1) := by decide +kernel
theorem qd_169_25 : decode qm169.2.2.1 25 = .ok (.iload 4, 2) := by decide +kernel
theorem qd_169_27 : decode qm169.2.2.1 27 = .ok (.iconst 0, 1) := by decide +kernel
theorem qd_169_28 : decode qm169.2.2.1 28 = .ok (.invokevirtual 107, 3) := by decide +kernel
theorem qd_169_31 : decode qm169.2.2.1 31 = .ok (.istore 5, 2) := by decide +kernel
theorem qd_169_33 : decode qm169.2.2.1 33 = .ok (.aload_n 0, 1) := by decide +kernel
theorem qd_169_34 : decode qm169.2.2.1 34 = .ok (.iload_n 3, 1) := by decide +kernel
theorem qd_169_35 : decode qm169.2.2.1 35 = .ok (.invokevirtual 137, 3) := by decide +kernel
theorem qd_169_38 : decode qm169.2.2.1 38 = .ok (.istore 6, 2) := by decide +kernel
theorem qd_169_40 : decode qm169.2.2.1 40 = .ok (.aload_n 0, 1) := by decide +kernel
theorem qd_169_41 : decode qm169.2.2.1 41 = .ok (.invokevirtual 80, 3) := by decide +kernel
theorem qd_169_44 : decode qm169.2.2.1 44 = .ok (.ifCond .ne 4, 3) := by decide +kernel
theorem qd_169_47 : decode qm169.2.2.1 47 = .ok (.return_, 1) := by decide +kernel
theorem qd_169_48 : decode qm169.2.2.1 48 = .ok (.iload 5, 2) := by decide +kernel
theorem qd_169_50 : decode qm169.2.2.1 50 = .ok (.bipush 74, 2) := by decide +kernel
theorem qd_169_52 : decode qm169.2.2.1 52 = .ok (.if_icmp .ne 17, 3) := by decide +kernel
theorem qd_169_55 : decode qm169.2.2.1 55 = .ok (.iload 6, 2) := by decide +kernel
theorem qd_169_57 : decode qm169.2.2.1 57 = .ok (.iconst 5, 1) := by decide +kernel
theorem qd_169_58 : decode qm169.2.2.1 58 = .ok (.if_icmp .ne 7, 3) := by decide +kernel
theorem qd_169_61 : decode qm169.2.2.1 61 = .ok (.iconst 1, 1) := by decide +kernel
theorem qd_169_62 : decode qm169.2.2.1 62 = .ok (.goto 95, 3) := by decide +kernel
theorem qd_169_65 : decode qm169.2.2.1 65 = .ok (.iconst 0, 1) := by decide +kernel
theorem qd_169_66 : decode qm169.2.2.1 66 = .ok (.goto 91, 3) := by decide +kernel
theorem qd_169_69 : decode qm169.2.2.1 69 = .ok (.iload 5, 2) := by decide +kernel
theorem qd_169_71 : decode qm169.2.2.1 71 = .ok (.bipush 70, 2) := by decide +kernel
theorem qd_169_73 : decode qm169.2.2.1 73 = .ok (.if_icmp .ne 17, 3) := by decide +kernel
theorem qd_169_76 : decode qm169.2.2.1 76 = .ok (.iload 6, 2) := by decide +kernel
theorem qd_169_78 : decode qm169.2.2.1 78 = .ok (.iconst 4, 1) := by decide +kernel
theorem qd_169_79 : decode qm169.2.2.1 79 = .ok (.if_icmp .ne 7, 3) := by decide +kernel
theorem qd_169_82 : decode qm169.2.2.1 82 = .ok (.iconst 1, 1) := by decide +kernel
theorem qd_169_83 : decode qm169.2.2.1 83 = .ok (.goto 74, 3) := by decide +kernel
theorem qd_169_86 : decode qm169.2.2.1 86 = .ok (.iconst 0, 1) := by decide +kernel
theorem qd_169_87 : decode qm169.2.2.1 87 = .ok (.goto 70, 3) := by decide +kernel
theorem qd_169_90 : decode qm169.2.2.1 90 = .ok (.iload 5, 2) := by decide +kernel
theorem qd_169_92 : decode qm169.2.2.1 92 = .ok (.bipush 68, 2) := by decide +kernel
theorem qd_169_94 : decode qm169.2.2.1 94 = .ok (.if_icmp .ne 18, 3) := by decide +kernel
theorem qd_169_97 : decode qm169.2.2.1 97 = .ok (.iload 6, 2) := by decide +kernel
theorem qd_169_99 : decode qm169.2.2.1 99 = .ok (.bipush 6, 2) := by decide +kernel
theorem qd_169_101 : decode qm169.2.2.1 101 = .ok (.if_icmp .ne 7, 3) := by decide +kernel
theorem qd_169_104 : decode qm169.2.2.1 104 = .ok (.iconst 1, 1) := by decide +kernel
theorem qd_169_105 : decode qm169.2.2.1 105 = .ok (.goto 52, 3) := by decide +kernel
theorem qd_169_108 : decode qm169.2.2.1 108 = .ok (.iconst 0, 1) := by decide +kernel
theorem qd_169_109 : decode qm169.2.2.1 109 = .ok (.goto 48, 3) := by decide +kernel
theorem qd_169_112 : decode qm169.2.2.1 112 = .ok (.iload 5, 2) := by decide +kernel
theorem qd_169_114 : decode qm169.2.2.1 114 = .ok (.invokestatic 118, 3) := by decide +kernel
theorem qd_169_117 : decode qm169.2.2.1 117 = .ok (.ifCond .lt 17, 3) := by decide +kernel
theorem qd_169_120 : decode qm169.2.2.1 120 = .ok (.iload 6, 2) := by decide +kernel
theorem qd_169_122 : decode qm169.2.2.1 122 = .ok (.iconst 3, 1) := by decide +kernel
theorem qd_169_123 : decode qm169.2.2.1 123 = .ok (.if_icmp .ne 7, 3) := by decide +kernel
theorem qd_169_126 : decode qm169.2.2.1 126 = .ok (.iconst 1, 1) := by decide +kernel
theorem qd_169_127 : decode qm169.2.2.1 127 = .ok (.goto 30, 3) := by decide +kernel
theorem qd_169_130 : decode qm169.2.2.1 130 = .ok (.iconst 0, 1) := by decide +kernel
theorem qd_169_131 : decode qm169.2.2.1 131 = .ok (.goto 26, 3) := by decide +kernel
theorem qd_169_134 : decode qm169.2.2.1 134 = .ok (.aload_n 0, 1) := by decide +kernel
theorem qd_169_135 : decode qm169.2.2.1 135 = .ok (.iload 4, 2) := by decide +kernel
theorem qd_169_137 : decode qm169.2.2.1 137 = .ok (.bipush 11, 2) := by decide +kernel
theorem qd_169_139 : decode qm169.2.2.1 139 = .ok (.invokevirtual 111, 3) := by decide +kernel
theorem qd_169_142 : decode qm169.2.2.1 142 = .ok (.ifCond .eq 14, 3) := by decide +kernel
theorem qd_169_145 : decode qm169.2.2.1 145 = .ok (.iload 6, 2) := by decide +kernel
theorem qd_169_147 : decode qm169.2.2.1 147 = .ok (.bipush 8, 2) := by decide +kernel
theorem qd_169_149 : decode qm169.2.2.1 149 = .ok (.if_icmp .ne 7, 3) := by decide +kernel
theorem qd_169_152 : decode qm169.2.2.1 152 = .ok (.iconst 1, 1) := by decide +kernel
theorem qd_169_153 : decode qm169.2.2.1 153 = .ok (.goto 4, 3) := by decide +kernel
theorem qd_169_156 : decode qm169.2.2.1 156 = .ok (.iconst 0, 1) := by decide +kernel
theorem qd_169_157 : decode qm169.2.2.1 157 = .ok (.istore 7, 2) := by decide +kernel
theorem qd_169_159 : decode qm169.2.2.1 159 = .ok (.iload 7, 2) := by decide +kernel
theorem qd_169_161 : decode qm169.2.2.1 161 = .ok (.ifCond .ne 9, 3) := by decide +kernel
theorem qd_169_164 : decode qm169.2.2.1 164 = .ok (.aload_n 0, 1) := by decide +kernel
theorem qd_169_165 : decode qm169.2.2.1 165 = .ok (.iload_n 2, 1) := by decide +kernel
theorem qd_169_166 : decode qm169.2.2.1 166 = .ok (.invokevirtual 76, 3) := by decide +kernel
theorem qd_169_169 : decode qm169.2.2.1 169 = .ok (.pop, 1) := by decide +kernel
theorem qd_169_170 : decode qm169.2.2.1 170 = .ok (.aload_n 0, 1) := by decide +kernel
theorem qd_169_171 : decode qm169.2.2.1 171 = .ok (.getfield 32, 3) := by decide +kernel
theorem qd_169_174 : decode qm169.2.2.1 174 = .ok (.iload_n 1, 1) := by decide +kernel
theorem qd_169_175 : decode qm169.2.2.1 175 = .ok (.iload_n 3, 1) := by decide +kernel
theorem qd_169_176 : decode qm169.2.2.1 176 = .ok (.iastore, 1) := by decide +kernel
theorem qd_169_177 : decode qm169.2.2.1 177 = .ok (.return_, 1) := by decide +kernel
theorem qd_170_0 : decode qm170.2.2.1 0 = .ok (.aload_n 0, 1) := by decide +kernel
theorem qd_170_1 : decode qm170.2.2.1 1 = .ok (.invokevirtual 155, 3) := by decide +kernel
theorem qd_170_4 : decode qm170.2.2.1 4 = .ok (.pop, 1) := by decide +kernel
theorem qd_170_5 : decode qm170.2.2.1 5 = .ok (.aload_n 0, 1) := by decide +kernel
theorem qd_170_6 : decode qm170.2.2.1 6 = .ok (.getfield 70, 3) := by decide +kernel
theorem qd_170_9 : decode qm170.2.2.1 9 = .ok (.istore_n 2, 1) := by decide +kernel
theorem qd_170_10 : decode qm170.2.2.1 10 = .ok (.aload_n 0, 1) := by decide +kernel
theorem qd_170_11 : decode qm170.2.2.1 11 = .ok (.invokevirtual 155, 3) := by decide +kernel
theorem qd_170_14 : decode qm170.2.2.1 14 = .ok (.istore_n 3, 1) := by decide +kernel
theorem qd_170_15 : decode qm170.2.2.1 15 = .ok (.aload_n 0, 1) := by decide +kernel
theorem qd_170_16 : decode qm170.2.2.1 16 = .ok (.invokevirtual 80, 3) := by decide +kernel
theorem qd_170_19 : decode qm170.2.2.1 19 = .ok (.ifCond .eq 19, 3) := by decide +kernel
theorem qd_170_22 : decode qm170.2.2.1 22 = .ok (.iload_n 3, 1) := by decide +kernel
theorem qd_170_23 : decode qm170.2.2.1 23 = .ok (.iconst 1, 1) := by decide +kernel
theorem qd_170_24 : decode qm170.2.2.1 24 = .ok (.ldc 231, 2) := by decide +kernel
theorem qd_170_26 : decode qm170.2.2.1 26 = .ok (.invokestatic 63, 3) := by decide +kernel
theorem qd_170_29 : decode qm170.2.2.1 29 = .ok (.ifCond .ne 9, 3) := by decide +kernel
theorem qd_170_32 : decode qm170.2.2.1 32 = .ok (.aload_n 0, 1) := by decide +kernel
theorem qd_170_33 : decode qm170.2.2.1 33 = .ok (.iload_n 2, 1) := by decide +kernel
theorem qd_170_34 : decode qm170.2.2.1 34 = .ok (.invokevirtual 76, 3) := by decide +kernel
theorem qd_170_37 : decode qm170.2.2.1 37 = .ok (.pop, 1) := by decide +kernel
theorem qd_170_38 : decode qm170.2.2.1 38 = .ok (.aload_n 0, 1) := by decide +kernel
theorem qd_170_39 : decode qm170.2.2.1 39 = .ok (.invokevirtual 80, 3) := by decide +kernel
theorem qd_170_42 : decode qm170.2.2.1 42 = .ok (.ifCond .eq 25, 3) := by decide +kernel
theorem qd_170_45 : decode qm170.2.2.1 45 = .ok (.iload_n 3, 1) := by decide +kernel
theorem qd_170_46 : decode qm170.2.2.1 46 = .ok (.aload_n 0, 1) := by decide +kernel
theorem qd_170_47 : decode qm170.2.2.1 47 = .ok (.getfield 73, 3) := by decide +kernel
theorem qd_170_50 : decode qm170.2.2.1 50 = .ok (.aload_n 0, 1) := by decide +kernel
theorem qd_170_51 : decode qm170.2.2.1 51 = .ok (.getfield 70, 3) := by decide +kernel
theorem qd_170_54 : decode qm170.2.2.1 54 = .ok (.isub, 1) := by decide +kernel
theorem qd_170_55 : decode qm170.2.2.1 55 = .ok (.if_icmp .le 12, 3) := by decide +kernel
theorem qd_170_58 : decode qm170.2.2.1 58 = .ok (.aload_n 0, 1) := by decide +kernel
theorem qd_170_59 : decode qm170.2.2.1 59 = .ok (.aload_n 0, 1) := by decide +kernel
theorem qd_170_60 : decode qm170.2.2.1 60 = .ok (.getfield 73, 3) := by decide +kernel
theorem qd_170_63 : decode qm170.2.2.1 63 = .ok (.invokevirtual 76, 3) := by decide +kernel
theorem qd_170_66 : decode qm170.2.2.1 66 = .ok (.pop, 1) := by decide +kernel
theorem qd_170_67 : decode qm170.2.2.1 67 = .ok (.aload_n 0, 1) := by decide +kernel
theorem qd_170_68 : decode qm170.2.2.1 68 = .ok (.invokevirtual 80, 3) := by decide +kernel
theorem qd_170_71 : decode qm170.2.2.1 71 = .ok (.ifCond .ne 4, 3) := by decide +kernel
theorem qd_170_74 : decode qm170.2.2.1 74 = .ok (.return_, 1) := by decide +kernel
theorem qd_170_75 : decode qm170.2.2.1 75 = .ok (.aload_n 0, 1) := by decide +kernel
theorem qd_170_76 : decode qm170.2.2.1 76 = .ok (.dup, 1) := by decide +kernel
theorem qd_170_77 : decode qm170.2.2.1 77 = .ok (.getfield 70, 3) := by decide +kernel
theorem qd_170_80 : decode qm170.2.2.1 80 = .ok (.iload_n 3, 1) := by decide +kernel
theorem qd_170_81 : decode qm170.2.2.1 81 = .ok (.iadd, 1) := by decide +kernel
theorem qd_170_82 : decode qm170.2.2.1 82 = .ok (.putfield 70, 3) := by decide +kernel
theorem qd_170_85 : decode qm170.2.2.1 85 = .ok (.aload_n 0, 1) := by decide +kernel
theorem qd_170_86 : decode qm170.2.2.1 86 = .ok (.getfield 32, 3) := by decide +kernel
theorem qd_170_89 : decode qm170.2.2.1 89 = .ok (.iload_n 1, 1) := by decide +kernel
theorem qd_170_90 : decode qm170.2.2.1 90 = .ok (.iload_n 3, 1) := by decide +kernel
theorem qd_170_91 : decode qm170.2.2.1 91 = .ok (.iastore, 1) := by decide +kernel
theorem qd_170_92 : decode qm170.2.2.1 92 = .ok (.aload_n 0, 1) := by decide +kernel
theorem qd_170_93 : decode qm170.2.2.1 93 = .ok (.getfield 35, 3) := by decide +kernel
theorem qd_170_96 : decode qm170.2.2.1 96 = .ok (.iload_n 1, 1) := by decide +kernel
theorem qd_170_97 : decode qm170.2.2.1 97 = .ok (.aload_n 0, 1) := by decide +kernel
theorem qd_170_98 : decode qm170.2.2.1 98 = .ok (.invokevirtual 88, 3) := by decide +kernel
theorem qd_170_101 : decode qm170.2.2.1 101 = .ok (.iastore, 1) := by decide +kernel
theorem qd_170_102 : decode qm170.2.2.1 102 = .ok (.iconst 0, 1) := by decide +kernel
theorem qd_170_103 : decode qm170.2.2.1 103 = .ok (.istore 4, 2) := by decide +kernel
theorem qd_170_105 : decode qm170.2.2.1 105 = .ok (.iload 4, 2) := by decide +kernel
theorem qd_170_107 : decode qm170.2.2.1 107 = .ok (.aload_n 0, 1) := by decide +kernel
theorem qd_170_108 : decode qm170.2.2.1 108 = .ok (.getfield 35, 3) := by decide +kernel
theorem qd_170_111 : decode qm170.2.2.1 111 = .ok (.iload_n 1, 1) := by decide +kernel
theorem qd_170_112 : decode qm170.2.2.1 112 = .ok (.iaload, 1) := by decide +kernel
theorem qd_170_113 : decode qm170.2.2.1 113 = .ok (.if_icmp .ge 112, 3) := by decide +kernel
theorem qd_170_116 : decode qm170.2.2.1 116 = .ok (.aload_n 0, 1) := by decide +kernel
theorem qd_170_117 : decode qm170.2.2.1 117 = .ok (.invokevirtual 80, 3) := by decide +kernel
theorem qd_170_120 : decode qm170.2.2.1 120 = .ok (.ifCond .eq 105, 3) := by decide +kernel
theorem qd_170_123 : decode qm170.2.2.1 123 = .ok (.aload_n 0, 1) := by decide +kernel
theorem qd_170_124 : decode qm170.2.2.1 124 = .ok (.getfield 70, 3) := by decide +kernel
theorem qd_170_127 : decode qm170.2.2.1 127 = .ok (.istore 5, 2) := by decide +kernel
theorem qd_170_129 : decode qm170.2.2.1 129 = .ok (.aload_n 0, 1) := by decide +kernel
theorem qd_170_130 : decode qm170.2.2.1 130 = .ok (.invokevirtual 88, 3) := by decide +kernel
theorem qd_170_133 : decode qm170.2.2.1 133 = .ok (.istore 6, 2) := by decide +kernel
theorem qd_170_135 : decode qm170.2.2.1 135 = .ok (.aload_n 0, 1) := by decide +kernel
theorem qd_170_136 : decode qm170.2.2.1 136 = .ok (.invokevirtual 88, 3) := by decide +kernel
theorem qd_170_139 : decode qm170.2.2.1 139 = .ok (.istore 7, 2) := by decide +kernel
theorem qd_170_141 : decode qm170.2.2.1 141 = .ok (.aload_n 0, 1) := by decide +kernel
theorem qd_170_142 : decode qm170.2.2.1 142 = .ok (.invokevirtual 88, 3) := by decide +kernel
theorem qd_170_145 : decode qm170.2.2.1 145 = .ok (.istore 8, 2) := by decide +kernel
theorem qd_170_147 : decode qm170.2.2.1 147 = .ok (.aload_n 0, 1) := by decide +kernel
theorem qd_170_148 : decode qm170.2.2.1 148 = .ok (.invokevirtual 80, 3) := by decide +kernel
theorem qd_170_151 : decode qm170.2.2.1 151 = .ok (.ifCond .eq 17, 3) := by decide +kernel
theorem qd_170_154 : decode qm170.2.2.1 154 = .ok (.iload 6, 2) := by decide +kernel
theorem qd_170_156 : decode qm170.2.2.1 156 = .ok (.iload 7, 2) := by decide +kernel
theorem qd_170_158 : decode qm170.2.2.1 158 = .ok (.if_icmp .lt 10, 3) := by decide +kernel
theorem qd_170_161 : decode qm170.2.2.1 161 = .ok (.aload_n 0, 1) := by decide +kernel
theorem qd_170_162 : decode qm170.2.2.1 162 = .ok (.iload 5, 2) := by decide +kernel
theorem qd_170_164 : decode qm170.2.2.1 164 = .ok (.invokevirtual 76, 3) := by decide +kernel
theorem qd_170_167 : decode qm170.2.2.1 167 = .ok (.pop, 1) := by decide +kernel
theorem qd_170_168 : decode qm170.2.2.1 168 = .ok (.aload_n 0, 1) := by decide +kernel
theorem qd_170_169 : decode qm170.2.2.1 169 = .ok (.invokevirtual 80, 3) := by decide +kernel
theorem qd_170_172 : decode qm170.2.2.1 172 = .ok (.ifCond .eq 18, 3) := by decide +kernel
theorem qd_170_175 : decode qm170.2.2.1 175 = .ok (.iload 7, 2) := by decide +kernel
theorem qd_170_177 : decode qm170.2.2.1 177 = .ok (.iload_n 3, 1) := by decide +kernel
theorem qd_170_178 : decode qm170.2.2.1 178 = .ok (.if_icmp .le 12, 3) := by decide +kernel
theorem qd_170_181 : decode qm170.2.2.1 181 = .ok (.aload_n 0, 1) := by decide +kernel
theorem qd_170_182 : decode qm170.2.2.1 182 = .ok (.iload 5, 2) := by decide +kernel
theorem qd_170_184 : decode qm170.2.2.1 184 = .ok (.iconst 2, 1) := by decide +kernel
theorem qd_170_185 : decode qm170.2.2.1 185 = .ok (.iadd, 1) := by decide +kernel
theorem qd_170_186 : decode qm170.2.2.1 186 = .ok (.invokevirtual 76, 3) := by decide +kernel
theorem qd_170_189 : decode qm170.2.2.1 189 = .ok (.pop, 1) := by decide +kernel
theorem qd_170_190 : decode qm170.2.2.1 190 = .ok (.aload_n 0, 1) := by decide +kernel
theorem qd_170_191 : decode qm170.2.2.1 191 = .ok (.invokevirtual 80, 3) := by decide +kernel
theorem qd_170_194 : decode qm170.2.2.1 194 = .ok (.ifCond .eq 18, 3) := by decide +kernel
theorem qd_170_197 : decode qm170.2.2.1 197 = .ok (.iload 8, 2) := by decide +kernel
theorem qd_170_199 : decode qm170.2.2.1 199 = .ok (.iload_n 3, 1) := by decide +kernel
theorem qd_170_200 : decode qm170.2.2.1 200 = .ok (.if_icmp .lt 12, 3) := by decide +kernel
theorem qd_170_203 : decode qm170.2.2.1 203 = .ok (.aload_n 0, 1) := by decide +kernel
theorem qd_170_204 : decode qm170.2.2.1 204 = .ok (.iload 5, 2) := by decide +kernel
theorem qd_170_206 : decode qm170.2.2.1 206 = .ok (.iconst 4, 1) := by decide +kernel
theorem qd_170_207 : decode qm170.2.2.1 207 = .ok (.iadd, 1) := by decide +kernel
theorem qd_170_208 : decode qm170.2.2.1 208 = .ok (.invokevirtual 76, 3) := by decide +kernel
theorem qd_170_211 : decode qm170.2.2.1 211 = .ok (.pop, 1) := by decide +kernel
theorem qd_170_212 : decode qm170.2.2.1 212 = .ok (.aload_n 0, 1) := by decide +kernel
theorem qd_170_213 : decode qm170.2.2.1 213 = .ok (.bipush 7, 2) := by decide +kernel
theorem qd_170_215 : decode qm170.2.2.1 215 = .ok (.iconst 1, 1) := by decide +kernel
theorem qd_170_216 : decode qm170.2.2.1 216 = .ok (.invokevirtual 224, 3) := by decide +kernel
theorem qd_170_219 : decode qm170.2.2.1 219 = .ok (.iinc 4 1, 3) := by decide +kernel
theorem qd_170_222 : decode qm170.2.2.1 222 = .ok (.goto (-117), 3) := by decide +kernel
theorem qd_170_225 : decode qm170.2.2.1 225 = .ok (.aload_n 0, 1) := by decide +kernel
theorem qd_170_226 : decode qm170.2.2.1 226 = .ok (.invokevirtual 80, 3) := by decide +kernel
theorem qd_170_229 : decode qm170.2.2.1 229 = .ok (.ifCond .eq 7, 3) := by decide +kernel
theorem qd_170_232 : decode qm170.2.2.1 232 = .ok (.aload_n 0, 1) := by decide +kernel
theorem qd_170_233 : decode qm170.2.2.1 233 = .ok (.invokevirtual 232, 3) := by decide +kernel
theorem qd_170_236 : decode qm170.2.2.1 236 = .ok (.return_, 1) := by decide +kernel
theorem qd_171_0 : decode qm171.2.2.1 0 = .ok (.aload_n 0, 1) := by decide +kernel
theorem qd_171_1 : decode qm171.2.2.1 1 = .ok (.getfield 70, 3) := by decide +kernel
theorem qd_171_4 : decode qm171.2.2.1 4 = .ok (.istore_n 3, 1) := by decide +kernel
theorem qd_171_5 : decode qm171.2.2.1 5 = .ok (.aload_n 0, 1) := by decide +kernel
theorem qd_171_6 : decode qm171.2.2.1 6 = .ok (.invokevirtual 88, 3) := by decide +kernel
theorem qd_171_9 : decode qm171.2.2.1 9 = .ok (.istore 4, 2) := by decide +kernel
theorem qd_171_11 : decode qm171.2.2.1 11 = .ok (.aload_n 0, 1) := by decide +kernel
theorem qd_171_12 : decode qm171.2.2.1 12 = .ok (.invokevirtual 80, 3) := by decide +kernel
theorem qd_171_15 : decode qm171.2.2.1 15 = .ok (.ifCond .eq 28, 3) := by decide +kernel
theorem qd_171_18 : decode qm171.2.2.1 18 = .ok (.iload_n 2, 1) := by decide +kernel
theorem qd_171_19 : decode qm171.2.2.1 19 = .ok (.ifCond .eq 8, 3) := by decide +kernel
theorem qd_171_22 : decode qm171.2.2.1 22 = .ok (.iload 4, 2) := by decide +kernel
theorem qd_171_24 : decode qm171.2.2.1 24 = .ok (.ifCond .eq 19, 3) := by decide +kernel
theorem qd_171_27 : decode qm171.2.2.1 27 = .ok (.aload_n 0, 1) := by decide +kernel
theorem qd_171_28 : decode qm171.2.2.1 28 = .ok (.iload 4, 2) := by decide +kernel
theorem qd_171_30 : decode qm171.2.2.1 30 = .ok (.invokevirtual 137, 3) := by decide +kernel
theorem qd_171_33 : decode qm171.2.2.1 33 = .ok (.iload_n 1, 1) := by decide +kernel
theorem qd_171_34 : decode qm171.2.2.1 34 = .ok (.if_icmp .eq 9, 3) := by decide +kernel
theorem qd_171_37 : decode qm171.2.2.1 37 = .ok (.aload_n 0, 1) := by decide +kernel
theorem qd_171_38 : decode qm171.2.2.1 38 = .ok (.iload_n 3, 1) := by decide +kernel
theorem qd_171_39 : decode qm171.2.2.1 39 = .ok (.invokevirtual 76, 3) := by decide +kernel
theorem qd_171_42 : decode qm171.2.2.1 42 = .ok (.pop, 1) := by decide +kernel
theorem qd_171_43 : decode qm171.2.2.1 43 = .ok (.return_, 1) := by decide +kernel
theorem qd_172_0 : decode qm172.2.2.1 0 = .ok (.aload_n 0, 1) := by decide +kernel
theorem qd_172_1 : decode qm172.2.2.1 1 = .ok (.invokevirtual 88, 3) := by decide +kernel
theorem qd_172_4 : decode qm172.2.2.1 4 = .ok (.istore_n 1, 1) := by decide +kernel
theorem qd_172_5 : decode qm172.2.2.1 5 = .ok (.iconst 0, 1) := by decide +kernel
theorem qd_172_6 : decode qm172.2.2.1 6 = .ok (.istore_n 2, 1) := by decide +kernel
theorem qd_172_7 : decode qm172.2.2.1 7 = .ok (.iload_n 2, 1) := by decide +kernel
theorem qd_172_8 : decode qm172.2.2.1 8 = .ok (.iload_n 1, 1) := by decide +kernel
theorem qd_172_9 : decode qm172.2.2.1 9 = .ok (.if_icmp .ge 77, 3) := by decide +kernel
theorem qd_172_12 : decode qm172.2.2.1 12 = .ok (.aload_n 0, 1) := by decide +kernel
theorem qd_172_13 : decode qm172.2.2.1 13 = .ok (.invokevirtual 80, 3) := by decide +kernel
theorem qd_172_16 : decode qm172.2.2.1 16 = .ok (.ifCond .eq 70, 3) := by decide +kernel
theorem qd_172_19 : decode qm172.2.2.1 19 = .ok (.aload_n 0, 1) := by decide +kernel
theorem qd_172_20 : decode qm172.2.2.1 20 = .ok (.iconst 1, 1) := by decide +kernel
theorem qd_172_21 : decode qm172.2.2.1 21 = .ok (.iconst 0, 1) := by decide +kernel
theorem qd_172_22 : decode qm172.2.2.1 22 = .ok (.invokevirtual 224, 3) := by decide +kernel
theorem qd_172_25 : decode qm172.2.2.1 25 = .ok (.aload_n 0, 1) := by decide +kernel
theorem qd_172_26 : decode qm172.2.2.1 26 = .ok (.invokevirtual 155, 3) := by decide +kernel
theorem qd_172_29 : decode qm172.2.2.1 29 = .ok (.istore_n 3, 1) := by decide +kernel
theorem qd_172_30 : decode qm172.2.2.1 30 = .ok (.aload_n 0, 1) := by decide +kernel
theorem qd_172_31 : decode qm172.2.2.1 31 = .ok (.invokevirtual 80, 3) := by decide +kernel
theorem qd_172_34 : decode qm172.2.2.1 34 = .ok (.ifCond .eq 29, 3) := by decide +kernel
theorem qd_172_37 : decode qm172.2.2.1 37 = .ok (.iload_n 3, 1) := by decide +kernel
theorem qd_172_38 : decode qm172.2.2.1 38 = .ok (.ifCond .lt 16, 3) := by decide +kernel
theorem qd_172_41 : decode qm172.2.2.1 41 = .ok (.iload_n 3, 1) := by decide +kernel
theorem qd_172_42 : decode qm172.2.2.1 42 = .ok (.aload_n 0, 1) := by decide +kernel
theorem qd_172_43 : decode qm172.2.2.1 43 = .ok (.getfield 73, 3) := by decide +kernel
theorem qd_172_46 : decode qm172.2.2.1 46 = .ok (.aload_n 0, 1) := by decide +kernel
theorem qd_172_47 : decode qm172.2.2.1 47 = .ok (.getfield 70, 3) := by decide +kernel
theorem qd_172_50 : decode qm172.2.2.1 50 = .ok (.isub, 1) := by decide +kernel
theorem qd_172_51 : decode qm172.2.2.1 51 = .ok (.if_icmp .le 12, 3) := by decide +kernel
theorem qd_172_54 : decode qm172.2.2.1 54 = .ok (.aload_n 0, 1) := by decide +kernel
theorem qd_172_55 : decode qm172.2.2.1 55 = .ok (.aload_n 0, 1) := by decide +kernel
theorem qd_172_56 : decode qm172.2.2.1 56 = .ok (.getfield 73, 3) := by decide +kernel
theorem qd_172_59 : decode qm172.2.2.1 59 = .ok (.invokevirtual 76, 3) := by decide +kernel
theorem qd_172_62 : decode qm172.2.2.1 62 = .ok (.pop, 1) := by decide +kernel
theorem qd_172_63 : decode qm172.2.2.1 63 = .ok (.aload_n 0, 1) := by decide +kernel
theorem qd_172_64 : decode qm172.2.2.1 64 = .ok (.invokevirtual 80, 3) := by decide +kernel
theorem qd_172_67 : decode qm172.2.2.1 67 = .ok (.ifCond .eq 13, 3) := by decide +kernel
theorem qd_172_70 : decode qm172.2.2.1 70 = .ok (.aload_n 0, 1) := by decide +kernel
theorem qd_172_71 : decode qm172.2.2.1 71 = .ok (.dup, 1) := by decide +kernel
theorem qd_172_72 : decode qm172.2.2.1 72 = .ok (.getfield 70, 3) := by decide +kernel
theorem qd_172_75 : decode qm172.2.2.1 75 = .ok (.iload_n 3, 1) := by decide +kernel
theorem qd_172_76 : decode qm172.2.2.1 76 = .ok (.iadd, 1) := by decide +kernel
theorem qd_172_77 : decode qm172.2.2.1 77 = .ok (.putfield 70, 3) := by decide +kernel
theorem qd_172_80 : decode qm172.2.2.1 80 = .ok (.iinc 2 1, 3) := by decide +kernel
theorem qd_172_83 : decode qm172.2.2.1 83 = .ok (.goto (-76), 3) := by decide +kernel
theorem qd_172_86 : decode qm172.2.2.1 86 = .ok (.return_, 1) := by decide +kernel
theorem qd_173_0 : decode qm173.2.2.1 0 = .ok (.iload_n 1, 1) := by decide +kernel
theorem qd_173_1 : decode qm173.2.2.1 1 = .ok (.iconst 4, 1) := by decide +kernel
theorem qd_173_2 : decode qm173.2.2.1 2 = .ok (.if_icmp .eq 8, 3) := by decide +kernel
theorem qd_173_5 : decode qm173.2.2.1 5 = .ok (.iload_n 1, 1) := by decide +kernel
theorem qd_173_6 : decode qm173.2.2.1 6 = .ok (.iconst 5, 1) := by decide +kernel
theorem qd_173_7 : decode qm173.2.2.1 7 = .ok (.if_icmp .ne 7, 3) := by decide +kernel
theorem qd_173_10 : decode qm173.2.2.1 10 = .ok (.iconst 1, 1) := by decide +kernel
theorem qd_173_11 : decode qm173.2.2.1 11 = .ok (.goto 7, 3) := by decide +kernel
theorem qd_173_14 : decode qm173.2.2.1 14 = .ok (.aload_n 0, 1) := by decide +kernel
theorem qd_173_15 : decode qm173.2.2.1 15 = .ok (.invokevirtual 88, 3) := by decide +kernel
theorem qd_173_18 : decode qm173.2.2.1 18 = .ok (.istore_n 2, 1) := by decide +kernel
theorem qd_173_19 : decode qm173.2.2.1 19 = .ok (.aload_n 0, 1) := by decide +kernel
theorem qd_173_20 : decode qm173.2.2.1 20 = .ok (.getfield 44, 3) := by decide +kernel
theorem qd_173_23 : decode qm173.2.2.1 23 = .ok (.iload_n 1, 1) := by decide +kernel
theorem qd_173_24 : decode qm173.2.2.1 24 = .ok (.aload_n 0, 1) := by decide +kernel
theorem qd_173_25 : decode qm173.2.2.1 25 = .ok (.getfield 70, 3) := by decide +kernel
theorem qd_173_28 : decode qm173.2.2.1 28 = .ok (.iastore, 1) := by decide +kernel
theorem qd_173_29 : decode qm173.2.2.1 29 = .ok (.aload_n 0, 1) := by decide +kernel
theorem qd_173_30 : decode qm173.2.2.1 30 = .ok (.getfield 47, 3) := by decide +kernel
theorem qd_173_33 : decode qm173.2.2.1 33 = .ok (.iload_n 1, 1) := by decide +kernel
theorem qd_173_34 : decode qm173.2.2.1 34 = .ok (.iload_n 2, 1) := by decide +kernel
theorem qd_173_35 : decode qm173.2.2.1 35 = .ok (.iastore, 1) := by decide +kernel
theorem qd_173_36 : decode qm173.2.2.1 36 = .ok (.iconst 0, 1) := by decide +kernel
theorem qd_173_37 : decode qm173.2.2.1 37 = .ok (.istore_n 3, 1) := by decide +kernel
theorem qd_173_38 : decode qm173.2.2.1 38 = .ok (.iload_n 3, 1) := by decide +kernel
theorem qd_173_39 : decode qm173.2.2.1 39 = .ok (.iload_n 2, 1) := by decide +kernel
theorem qd_173_40 : decode qm173.2.2.1 40 = .ok (.if_icmp .ge 75, 3) := by decide +kernel
theorem qd_173_43 : decode qm173.2.2.1 43 = .ok (.aload_n 0, 1) := by decide +kernel
theorem qd_173_44 : decode qm173.2.2.1 44 = .ok (.invokevirtual 80, 3) := by decide +kernel
theorem qd_173_47 : decode qm173.2.2.1 47 = .ok (.ifCond .eq 68, 3) := by decide +kernel
theorem qd_173_50 : decode qm173.2.2.1 50 = .ok (.iload_n 1, 1) := by decide +kernel
theorem qd_173_51 : decode qm173.2.2.1 51 = .ok (.bipush 8, 2) := by decide +kernel
theorem qd_173_53 : decode qm173.2.2.1 53 = .ok (.if_icmp .ne 11, 3) := by decide +kernel
theorem qd_173_56 : decode qm173.2.2.1 56 = .ok (.aload_n 0, 1) := by decide +kernel
theorem qd_173_57 : decode qm173.2.2.1 57 = .ok (.iload_n 3, 1) := by decide +kernel
theorem qd_173_58 : decode qm173.2.2.1 58 = .ok (.invokevirtual 235, 3) := by decide +kernel
theorem qd_173_61 : decode qm173.2.2.1 61 = .ok (.goto 48, 3) := by decide +kernel
theorem qd_173_64 : decode qm173.2.2.1 64 = .ok (.aload_n 0, 1) := by decide +kernel
theorem qd_173_65 : decode qm173.2.2.1 65 = .ok (.bipush 7, 2) := by decide +kernel
theorem qd_173_67 : decode qm173.2.2.1 67 = .ok (.iconst 0, 1) := by decide +kernel
theorem qd_173_68 : decode qm173.2.2.1 68 = .ok (.invokevirtual 224, 3) := by decide +kernel
theorem qd_173_71 : decode qm173.2.2.1 71 = .ok (.iload_n 1, 1) := by decide +kernel
theorem qd_173_72 : decode qm173.2.2.1 72 = .ok (.iconst 4, 1) := by decide +kernel
theorem qd_173_73 : decode qm173.2.2.1 73 = .ok (.if_icmp .ne 10, 3) := by decide +kernel
theorem qd_173_76 : decode qm173.2.2.1 76 = .ok (.aload_n 0, 1) := by decide +kernel
theorem qd_173_77 : decode qm173.2.2.1 77 = .ok (.bipush 12, 2) := by decide +kernel
theorem qd_173_79 : decode qm173.2.2.1 79 = .ok (.iconst 1, 1) := by decide +kernel
theorem qd_173_80 : decode qm173.2.2.1 80 = .ok (.invokevirtual 224, 3) := by decide +kernel
theorem qd_173_83 : decode qm173.2.2.1 83 = .ok (.iload_n 1, 1) := by decide +kernel
theorem qd_173_84 : decode qm173.2.2.1 84 = .ok (.iconst 3, 1) := by decide +kernel
theorem qd_173_85 : decode qm173.2.2.1 85 = .ok (.if_icmp .eq 6, 3) := by decide +kernel
theorem qd_173_88 : decode qm173.2.2.1 88 = .ok (.goto 21, 3) := by decide +kernel
theorem qd_173_91 : decode qm173.2.2.1 91 = .ok (.aload_n 0, 1) := by decide +kernel
theorem qd_173_92 : decode qm173.2.2.1 92 = .ok (.bipush 7, 2) := by decide +kernel
theorem qd_173_94 : decode qm173.2.2.1 94 = .ok (.iconst 1, 1) := by decide +kernel
theorem qd_173_95 : decode qm173.2.2.1 95 = .ok (.invokevirtual 224, 3) := by decide +kernel
theorem qd_173_98 : decode qm173.2.2.1 98 = .ok (.aload_n 0, 1) := by decide +kernel
theorem qd_173_99 : decode qm173.2.2.1 99 = .ok (.iconst 1, 1) := by decide +kernel
theorem qd_173_100 : decode qm173.2.2.1 100 = .ok (.iconst 1, 1) := by decide +kernel
theorem qd_173_101 : decode qm173.2.2.1 101 = .ok (.invokevirtual 224, 3) := by decide +kernel
theorem qd_173_104 : decode qm173.2.2.1 104 = .ok (.aload_n 0, 1) := by decide +kernel
theorem qd_173_105 : decode qm173.2.2.1 105 = .ok (.invokevirtual 88, 3) := by decide +kernel
theorem qd_173_108 : decode qm173.2.2.1 108 = .ok (.pop, 1) := by decide +kernel
theorem qd_173_109 : decode qm173.2.2.1 109 = .ok (.iinc 3 1, 3) := by decide +kernel
theorem qd_173_112 : decode qm173.2.2.1 112 = .ok (.goto (-74), 3) := by decide +kernel
theorem qd_173_115 : decode qm173.2.2.1 115 = .ok (.return_, 1) := by decide +kernel
theorem qd_174_0 : decode qm174.2.2.1 0 = .ok (.aload_n 0, 1) := by decide +kernel
theorem qd_174_1 : decode qm174.2.2.1 1 = .ok (.getfield 50, 3) := by decide +kernel
theorem qd_174_4 : decode qm174.2.2.1 4 = .ok (.iload_n 1, 1) := by decide +kernel
theorem qd_174_5 : decode qm174.2.2.1 5 = .ok (.aload_n 0, 1) := by decide +kernel
theorem qd_174_6 : decode qm174.2.2.1 6 = .ok (.getfield 70, 3) := by decide +kernel
theorem qd_174_9 : decode qm174.2.2.1 9 = .ok (.iastore, 1) := by decide +kernel
theorem qd_174_10 : decode qm174.2.2.1 10 = .ok (.aload_n 0, 1) := by decide +kernel
theorem qd_174_11 : decode qm174.2.2.1 11 = .ok (.bipush 15, 2) := by decide +kernel
theorem qd_174_13 : decode qm174.2.2.1 13 = .ok (.iconst 0, 1) := by decide +kernel
theorem qd_174_14 : decode qm174.2.2.1 14 = .ok (.invokevirtual 224, 3) := by decide +kernel
theorem qd_174_17 : decode qm174.2.2.1 17 = .ok (.aload_n 0, 1) := by decide +kernel
theorem qd_174_18 : decode qm174.2.2.1 18 = .ok (.invokevirtual 88, 3) := by decide +kernel
theorem qd_174_21 : decode qm174.2.2.1 21 = .ok (.istore_n 2, 1) := by decide +kernel
theorem qd_174_22 : decode qm174.2.2.1 22 = .ok (.iconst 0, 1) := by decide +kernel
theorem qd_174_23 : decode qm174.2.2.1 23 = .ok (.istore_n 3, 1) := by decide +kernel
theorem qd_174_24 : decode qm174.2.2.1 24 = .ok (.iload_n 3, 1) := by decide +kernel
theorem qd_174_25 : decode qm174.2.2.1 25 = .ok (.iload_n 2, 1) := by decide +kernel
theorem qd_174_26 : decode qm174.2.2.1 26 = .ok (.if_icmp .ge 73, 3) := by decide +kernel
theorem qd_174_29 : decode qm174.2.2.1 29 = .ok (.aload_n 0, 1) := by decide +kernel
theorem qd_174_30 : decode qm174.2.2.1 30 = .ok (.invokevirtual 80, 3) := by decide +kernel
theorem qd_174_33 : decode qm174.2.2.1 33 = .ok (.ifCond .eq 66, 3) := by decide +kernel
theorem qd_174_36 : decode qm174.2.2.1 36 = .ok (.aload_n 0, 1) := by decide +kernel
theorem qd_174_37 : decode qm174.2.2.1 37 = .ok (.getfield 70, 3) := by decide +kernel
theorem qd_174_40 : decode qm174.2.2.1 40 = .ok (.istore 4, 2) := by decide +kernel
theorem qd_174_42 : decode qm174.2.2.1 42 = .ok (.aload_n 0, 1) := by decide +kernel
theorem qd_174_43 : decode qm174.2.2.1 43 = .ok (.invokevirtual 88, 3) := by decide +kernel
theorem qd_174_46 : decode qm174.2.2.1 46 = .ok (.istore 5, 2) := by decide +kernel
theorem qd_174_48 : decode qm174.2.2.1 48 = .ok (.aload_n 0, 1) := by decide +kernel
theorem qd_174_49 : decode qm174.2.2.1 49 = .ok (.iload 5, 2) := by decide +kernel
theorem qd_174_51 : decode qm174.2.2.1 51 = .ok (.invokevirtual 137, 3) := by decide +kernel
theorem qd_174_54 : decode qm174.2.2.1 54 = .ok (.istore 6, 2) := by decide +kernel
theorem qd_174_56 : decode qm174.2.2.1 56 = .ok (.aload_n 0, 1) := by decide +kernel
theorem qd_174_57 : decode qm174.2.2.1 57 = .ok (.invokevirtual 80, 3) := by decide +kernel
theorem qd_174_60 : decode qm174.2.2.1 60 = .ok (.ifCond .eq 33, 3) := by decide +kernel
theorem qd_174_63 : decode qm174.2.2.1 63 = .ok (.iload 6, 2) := by decide +kernel
theorem qd_174_65 : decode qm174.2.2.1 65 = .ok (.iconst 3, 1) := by decide +kernel
theorem qd_174_66 : decode qm174.2.2.1 66 = .ok (.bipush 8, 2) := by decide +kernel
theorem qd_174_68 : decode qm174.2.2.1 68 = .ok (.invokestatic 63, 3) := by decide +kernel
theorem qd_174_71 : decode qm174.2.2.1 71 = .ok (.ifCond .ne 22, 3) := by decide +kernel
theorem qd_174_74 : decode qm174.2.2.1 74 = .ok (.iload 6, 2) := by decide +kernel
theorem qd_174_76 : decode qm174.2.2.1 76 = .ok (.bipush 15, 2) := by decide +kernel
theorem qd_174_78 : decode qm174.2.2.1 78 = .ok (.bipush 17, 2) := by decide +kernel
theorem qd_174_80 : decode qm174.2.2.1 80 = .ok (.invokestatic 63, 3) := by decide +kernel
theorem qd_174_83 : decode qm174.2.2.1 83 = .ok (.ifCond .ne 10, 3) := by decide +kernel
theorem qd_174_86 : decode qm174.2.2.1 86 = .ok (.aload_n 0, 1) := by decide +kernel
theorem qd_174_87 : decode qm174.2.2.1 87 = .ok (.iload 4, 2) := by decide +kernel
theorem qd_174_89 : decode qm174.2.2.1 89 = .ok (.invokevirtual 76, 3) := by decide +kernel
theorem qd_174_92 : decode qm174.2.2.1 92 = .ok (.pop, 1) := by decide +kernel
theorem qd_174_93 : decode qm174.2.2.1 93 = .ok (.iinc 3 1, 3) := by decide +kernel
theorem qd_174_96 : decode qm174.2.2.1 96 = .ok (.goto (-72), 3) := by decide +kernel
theorem qd_174_99 : decode qm174.2.2.1 99 = .ok (.return_, 1) := by decide +kernel
theorem qd_175_0 : decode qm175.2.2.1 0 = .ok (.aload_n 0, 1) := by decide +kernel
theorem qd_175_1 : decode qm175.2.2.1 1 = .ok (.iconst 0, 1) := by decide +kernel
theorem qd_175_2 : decode qm175.2.2.1 2 = .ok (.putfield 60, 3) := by decide +kernel
theorem qd_175_5 : decode qm175.2.2.1 5 = .ok (.aload_n 0, 1) := by decide +kernel
theorem qd_175_6 : decode qm175.2.2.1 6 = .ok (.getfield 19, 3) := by decide +kernel
theorem qd_175_9 : decode qm175.2.2.1 9 = .ok (.ireturn, 1) := by decide +kernel
theorem qd_176_0 : decode qm176.2.2.1 0 = .ok (.aload_n 0, 1) := by decide +kernel
theorem qd_176_1 : decode qm176.2.2.1 1 = .ok (.invokevirtual 262, 3) := by decide +kernel
theorem qd_176_4 : decode qm176.2.2.1 4 = .ok (.ifCond .ne 5, 3) := by decide +kernel
theorem qd_176_7 : decode qm176.2.2.1 7 = .ok (.iconst 0, 1) := by decide +kernel
theorem qd_176_8 : decode qm176.2.2.1 8 = .ok (.ireturn, 1) := by decide +kernel
theorem qd_176_9 : decode qm176.2.2.1 9 = .ok (.iload_n 2, 1) := by decide +kernel
theorem qd_176_10 : decode qm176.2.2.1 10 = .ok (.iconst 0, 1) := by decide +kernel
theorem qd_176_11 : decode qm176.2.2.1 11 = .ok (.iconst 3, 1) := by decide +kernel
theorem qd_176_12 : decode qm176.2.2.1 12 = .ok (.invokestatic 63, 3) := by decide +kernel
theorem qd_176_15 : decode qm176.2.2.1 15 = .ok (.ifCond .ne 5, 3) := by decide +kernel
theorem qd_176_18 : decode qm176.2.2.1 18 = .ok (.iconst (-1), 1) := by decide +kernel
theorem qd_176_19 : decode qm176.2.2.1 19 = .ok (.ireturn, 1) := by decide +kernel
theorem qd_176_20 : decode qm176.2.2.1 20 = .ok (.aload_n 0, 1) := by decide +kernel
theorem qd_176_21 : decode qm176.2.2.1 21 = .ok (.iload_n 1, 1) := by decide +kernel
theorem qd_176_22 : decode qm176.2.2.1 22 = .ok (.invokevirtual 137, 3) := by decide +kernel
theorem qd_176_25 : decode qm176.2.2.1 25 = .ok (.istore_n 3, 1) := by decide +kernel
theorem qd_176_26 : decode qm176.2.2.1 26 = .ok (.iload_n 3, 1) := by decide +kernel
theorem qd_176_27 : decode qm176.2.2.1 27 = .ok (.ifCond .ne 6, 3) := by decide +kernel
theorem qd_176_30 : decode qm176.2.2.1 30 = .ok (.bipush (-2), 2) := by decide +kernel
theorem qd_176_32 : decode qm176.2.2.1 32 = .ok (.ireturn, 1) := by decide +kernel
theorem qd_176_33 : decode qm176.2.2.1 33 = .ok (.iload_n 3, 1) := by decide +kernel
theorem qd_176_34 : decode qm176.2.2.1 34 = .ok (.iconst 3, 1) := by decide +kernel
theorem qd_176_35 : decode qm176.2.2.1 35 = .ok (.bipush 6, 2) := by decide +kernel
theorem qd_176_37 : decode qm176.2.2.1 37 = .ok (.invokestatic 63, 3) := by decide +kernel
theorem qd_176_40 : decode qm176.2.2.1 40 = .ok (.istore 4, 2) := by decide +kernel
theorem qd_176_42 : decode qm176.2.2.1 42 = .ok (.iload_n 2, 1) := by decide +kernel
theorem qd_176_43 : decode qm176.2.2.1 43 = .ok (.ifCond .eq 8, 3) := by decide +kernel
theorem qd_176_46 : decode qm176.2.2.1 46 = .ok (.iload_n 2, 1) := by decide +kernel
theorem qd_176_47 : decode qm176.2.2.1 47 = .ok (.iconst 3, 1) := by decide +kernel
theorem qd_176_48 : decode qm176.2.2.1 48 = .ok (.if_icmp .ne 18, 3) := by decide +kernel
theorem qd_176_51 : decode qm176.2.2.1 51 = .ok (.iload_n 2, 1) := by decide +kernel
theorem qd_176_52 : decode qm176.2.2.1 52 = .ok (.ifCond .ne 7, 3) := by decide +kernel
theorem qd_176_55 : decode qm176.2.2.1 55 = .ok (.iload_n 3, 1) := by decide +kernel
theorem qd_176_56 : decode qm176.2.2.1 56 = .ok (.goto 9, 3) := by decide +kernel
theorem qd_176_59 : decode qm176.2.2.1 59 = .ok (.aload_n 0, 1) := by decide +kernel
theorem qd_176_60 : decode qm176.2.2.1 60 = .ok (.getfield 23, 3) := by decide +kernel
theorem qd_176_63 : decode qm176.2.2.1 63 = .ok (.iload_n 1, 1) := by decide +kernel
theorem qd_176_64 : decode qm176.2.2.1 64 = .ok (.iaload, 1) := by decide +kernel
theorem qd_176_65 : decode qm176.2.2.1 65 = .ok (.ireturn, 1) := by decide +kernel
theorem qd_176_66 : decode qm176.2.2.1 66 = .ok (.iload_n 2, 1) := by decide +kernel
theorem qd_176_67 : decode qm176.2.2.1 67 = .ok (.iconst 1, 1) := by decide +kernel
theorem qd_176_68 : decode qm176.2.2.1 68 = .ok (.if_icmp .ne 42, 3) := by decide +kernel
theorem qd_176_71 : decode qm176.2.2.1 71 = .ok (.iload_n 3, 1) := by decide +kernel
theorem qd_176_72 : decode qm176.2.2.1 72 = .ok (.iconst 1, 1) := by decide +kernel
theorem qd_176_73 : decode qm176.2.2.1 73 = .ok (.if_icmp .ne 11, 3) := by decide +kernel
theorem qd_176_76 : decode qm176.2.2.1 76 = .ok (.aload_n 0, 1) := by decide +kernel
theorem qd_176_77 : decode qm176.2.2.1 77 = .ok (.iload_n 1, 1) := by decide +kernel
theorem qd_176_78 : decode qm176.2.2.1 78 = .ok (.invokevirtual 104, 3) := by decide +kernel
theorem qd_176_81 : decode qm176.2.2.1 81 = .ok (.goto 28, 3) := by decide +kernel
theorem qd_176_84 : decode qm176.2.2.1 84 = .ok (.iload 4, 2) := by decide +kernel
theorem qd_176_86 : decode qm176.2.2.1 86 = .ok (.ifCond .eq 18, 3) := by decide +kernel
theorem qd_176_89 : decode qm176.2.2.1 89 = .ok (.aload_n 0, 1) := by decide +kernel
theorem qd_176_90 : decode qm176.2.2.1 90 = .ok (.aload_n 0, 1) := by decide +kernel
theorem qd_176_91 : decode qm176.2.2.1 91 = .ok (.getfield 23, 3) := by decide +kernel
theorem qd_176_94 : decode qm176.2.2.1 94 = .ok (.iload_n 1, 1) := by decide +kernel
theorem qd_176_95 : decode qm176.2.2.1 95 = .ok (.iaload, 1) := by decide +kernel
theorem qd_176_96 : decode qm176.2.2.1 96 = .ok (.iconst 1, 1) := by decide +kernel
theorem qd_176_97 : decode qm176.2.2.1 97 = .ok (.iadd, 1) := by decide +kernel
theorem qd_176_98 : decode qm176.2.2.1 98 = .ok (.invokevirtual 265, 3) := by decide +kernel
theorem qd_176_101 : decode qm176.2.2.1 101 = .ok (.goto 8, 3) := by decide +kernel
theorem qd_176_104 : decode qm176.2.2.1 104 = .ok (.aload_n 0, 1) := by decide +kernel
theorem qd_176_105 : decode qm176.2.2.1 105 = .ok (.iload_n 1, 1) := by decide +kernel
theorem qd_176_106 : decode qm176.2.2.1 106 = .ok (.invokevirtual 149, 3) := by decide +kernel
theorem qd_176_109 : decode qm176.2.2.1 109 = .ok (.ireturn, 1) := by decide +kernel
theorem qd_176_110 : decode qm176.2.2.1 110 = .ok (.iload_n 3, 1) := by decide +kernel
theorem qd_176_111 : decode qm176.2.2.1 111 = .ok (.iconst 5, 1) := by decide +kernel
theorem qd_176_112 : decode qm176.2.2.1 112 = .ok (.if_icmp .eq 9, 3) := by decide +kernel
theorem qd_176_115 : decode qm176.2.2.1 115 = .ok (.iload_n 3, 1) := by decide +kernel
theorem qd_176_116 : decode qm176.2.2.1 116 = .ok (.bipush 6, 2) := by decide +kernel
theorem qd_176_118 : decode qm176.2.2.1 118 = .ok (.if_icmp .ne 18, 3) := by decide +kernel
theorem qd_176_121 : decode qm176.2.2.1 121 = .ok (.aload_n 0, 1) := by decide +kernel
theorem qd_176_122 : decode qm176.2.2.1 122 = .ok (.aload_n 0, 1) := by decide +kernel
theorem qd_176_123 : decode qm176.2.2.1 123 = .ok (.getfield 23, 3) := by decide +kernel
theorem qd_176_126 : decode qm176.2.2.1 126 = .ok (.iload_n 1, 1) := by decide +kernel
theorem qd_176_127 : decode qm176.2.2.1 127 = .ok (.iaload, 1) := by decide +kernel
theorem qd_176_128 : decode qm176.2.2.1 128 = .ok (.iconst 5, 1) := by decide +kernel
theorem qd_176_129 : decode qm176.2.2.1 129 = .ok (.iadd, 1) := by decide +kernel
theorem qd_176_130 : decode qm176.2.2.1 130 = .ok (.invokevirtual 265, 3) := by decide +kernel
theorem qd_176_133 : decode qm176.2.2.1 133 = .ok (.goto 22, 3) := by decide +kernel
theorem qd_176_136 : decode qm176.2.2.1 136 = .ok (.iload_n 3, 1) := by decide +kernel
theorem qd_176_137 : decode qm176.2.2.1 137 = .ok (.iconst 1, 1) := by decide +kernel
theorem qd_176_138 : decode qm176.2.2.1 138 = .ok (.if_icmp .eq 8, 3) := by decide +kernel
theorem qd_176_141 : decode qm176.2.2.1 141 = .ok (.iload 4, 2) := by decide +kernel
theorem qd_176_143 : decode qm176.2.2.1 143 = .ok (.ifCond .eq 7, 3) := by decide +kernel
theorem qd_176_146 : decode qm176.2.2.1 146 = .ok (.iconst 0, 1) := by decide +kernel
theorem qd_176_147 : decode qm176.2.2.1 147 = .ok (.goto 8, 3) := by decide +kernel
theorem qd_176_150 : decode qm176.2.2.1 150 = .ok (.aload_n 0, 1) := by decide +kernel
theorem qd_176_151 : decode qm176.2.2.1 151 = .ok (.iload_n 1, 1) := by decide +kernel
theorem qd_176_152 : decode qm176.2.2.1 152 = .ok (.invokevirtual 140, 3) := by decide +kernel
theorem qd_176_155 : decode qm176.2.2.1 155 = .ok (.ireturn, 1) := by decide +kernel
theorem qd_177_0 : decode qm177.2.2.1 0 = .ok (.aload_n 0, 1) := by decide +kernel
theorem qd_177_1 : decode qm177.2.2.1 1 = .ok (.aload_n 0, 1) := by decide +kernel
theorem qd_177_2 : decode qm177.2.2.1 2 = .ok (.getfield 259, 3) := by decide +kernel
theorem qd_177_5 : decode qm177.2.2.1 5 = .ok (.ifCond .eq 7, 3) := by decide +kernel
theorem qd_177_8 : decode qm177.2.2.1 8 = .ok (.iconst 0, 1) := by decide +kernel
theorem qd_177_9 : decode qm177.2.2.1 9 = .ok (.goto 4, 3) := by decide +kernel
theorem qd_177_12 : decode qm177.2.2.1 12 = .ok (.iconst 1, 1) := by decide +kernel
theorem qd_177_13 : decode qm177.2.2.1 13 = .ok (.putfield 60, 3) := by decide +kernel
theorem qd_177_16 : decode qm177.2.2.1 16 = .ok (.aload_n 0, 1) := by decide +kernel
theorem qd_177_17 : decode qm177.2.2.1 17 = .ok (.getfield 259, 3) := by decide +kernel
theorem qd_177_20 : decode qm177.2.2.1 20 = .ok (.ireturn, 1) := by decide +kernel
theorem qd_178_0 : decode qm178.2.2.1 0 = .ok (.aload_n 0, 1) := by decide +kernel
theorem qd_178_1 : decode qm178.2.2.1 1 = .ok (.iload_n 1, 1) := by decide +kernel
theorem qd_178_2 : decode qm178.2.2.1 2 = .ok (.invokevirtual 91, 3) := by decide +kernel
theorem qd_178_5 : decode qm178.2.2.1 5 = .ok (.bipush 16, 2) := by decide +kernel
theorem qd_178_7 : decode qm178.2.2.1 7 = .ok (.ishl, 1) := by decide +kernel
theorem qd_178_8 : decode qm178.2.2.1 8 = .ok (.aload_n 0, 1) := by decide +kernel
theorem qd_178_9 : decode qm178.2.2.1 9 = .ok (.iload_n 1, 1) := by decide +kernel
theorem qd_178_10 : decode qm178.2.2.1 10 = .ok (.iconst 2, 1) := by decide +kernel
theorem qd_178_11 : decode qm178.2.2.1 11 = .ok (.iadd, 1) := by decide +kernel
theorem qd_178_12 : decode qm178.2.2.1 12 = .ok (.invokevirtual 91, 3) := by decide +kernel
theorem qd_178_15 : decode qm178.2.2.1 15 = .ok (.ior, 1) := by decide +kernel
theorem qd_178_16 : decode qm178.2.2.1 16 = .ok (.ireturn, 1) := by decide +kernel
theorem qd_179_0 : decode qm179.2.2.1 0 = .ok (.aload_n 0, 1) := by decide +kernel
theorem qd_179_1 : decode qm179.2.2.1 1 = .ok (.invokevirtual 262, 3) := by decide +kernel
theorem qd_179_4 : decode qm179.2.2.1 4 = .ok (.ifCond .ne 5, 3) := by decide +kernel
theorem qd_179_7 : decode qm179.2.2.1 7 = .ok (.dconst 0, 1) := by decide +kernel
theorem qd_179_8 : decode qm179.2.2.1 8 = .ok (.dreturn, 1) := by decide +kernel
theorem qd_179_9 : decode qm179.2.2.1 9 = .ok (.aload_n 0, 1) := by decide +kernel
theorem qd_179_10 : decode qm179.2.2.1 10 = .ok (.iload_n 1, 1) := by decide +kernel
theorem qd_179_11 : decode qm179.2.2.1 11 = .ok (.invokevirtual 137, 3) := by decide +kernel
theorem qd_179_14 : decode qm179.2.2.1 14 = .ok (.istore_n 2, 1) := by decide +kernel
theorem qd_179_15 : decode qm179.2.2.1 15 = .ok (.iload_n 2, 1) := by decide +kernel
theorem qd_179_16 : decode qm179.2.2.1 16 = .ok (.iconst 3, 1) := by decide +kernel
theorem qd_179_17 : decode qm179.2.2.1 17 = .ok (.bipush 6, 2) := by decide +kernel
theorem qd_179_19 : decode qm179.2.2.1 19 = .ok (.invokestatic 63, 3) := by decide +kernel
theorem qd_179_22 : decode qm179.2.2.1 22 = .ok (.ifCond .ne 7, 3) := by decide +kernel
theorem qd_179_25 : decode qm179.2.2.1 25 = .ok (.ldc2_w 270, 3) := by decide +kernel
theorem qd_179_28 : decode qm179.2.2.1 28 = .ok (.dreturn, 1) := by decide +kernel
theorem qd_179_29 : decode qm179.2.2.1 29 = .ok (.aload_n 0, 1) := by decide +kernel
theorem qd_179_30 : decode qm179.2.2.1 30 = .ok (.aload_n 0, 1) := by decide +kernel
theorem qd_179_31 : decode qm179.2.2.1 31 = .ok (.getfield 23, 3) := by decide +kernel
theorem qd_179_34 : decode qm179.2.2.1 34 = .ok (.iload_n 1, 1) := by decide +kernel
theorem qd_179_35 : decode qm179.2.2.1 35 = .ok (.iaload, 1) := by decide +kernel
theorem qd_179_36 : decode qm179.2.2.1 36 = .ok (.iconst 1, 1) := by decide +kernel
theorem qd_179_37 : decode qm179.2.2.1 37 = .ok (.iadd, 1) := by decide +kernel
theorem qd_179_38 : decode qm179.2.2.1 38 = .ok (.invokevirtual 265, 3) := by decide +kernel
theorem qd_179_41 : decode qm179.2.2.1 41 = .ok (.istore_n 3, 1) := by decide +kernel
theorem qd_179_42 : decode qm179.2.2.1 42 = .ok (.iload_n 2, 1) := by decide +kernel
theorem qd_179_43 : decode qm179.2.2.1 43 = .ok (.iconst 3, 1) := by decide +kernel
theorem qd_179_44 : decode qm179.2.2.1 44 = .ok (.if_icmp .ne 6, 3) := by decide +kernel
theorem qd_179_47 : decode qm179.2.2.1 47 = .ok (.iload_n 3, 1) := by decide +kernel
theorem qd_179_48 : decode qm179.2.2.1 48 = .ok (.i2d, 1) := by decide +kernel
theorem qd_179_49 : decode qm179.2.2.1 49 = .ok (.dreturn, 1) := by decide +kernel
theorem qd_179_50 : decode qm179.2.2.1 50 = .ok (.iload_n 2, 1) := by decide +kernel
theorem qd_179_51 : decode qm179.2.2.1 51 = .ok (.iconst 4, 1) := by decide +kernel
theorem qd_179_52 : decode qm179.2.2.1 52 = .ok (.if_icmp .ne 96, 3) := by decide +kernel
theorem qd_179_55 : decode qm179.2.2.1 55 = .ok (.iload_n 3, 1) := by decide +kernel
theorem qd_179_56 : decode qm179.2.2.1 56 = .ok (.bipush 23, 2) := by decide +kernel
theorem qd_179_58 : decode qm179.2.2.1 58 = .ok (.ishr, 1) := by decide +kernel
theorem qd_179_59 : decode qm179.2.2.1 59 = .ok (.sipush 255, 3) := by decide +kernel
theorem qd_179_62 : decode qm179.2.2.1 62 = .ok (.iand, 1) := by decide +kernel
theorem qd_179_63 : decode qm179.2.2.1 63 = .ok (.istore 4, 2) := by decide +kernel
theorem qd_179_65 : decode qm179.2.2.1 65 = .ok (.iload_n 3, 1) := by decide +kernel
theorem qd_179_66 : decode qm179.2.2.1 66 = .ok (.ldc_w 272, 3) := by decide +kernel
theorem qd_179_69 : decode qm179.2.2.1 69 = .ok (.iand, 1) := by decide +kernel
theorem qd_179_70 : decode qm179.2.2.1 70 = .ok (.istore 5, 2) := by decide +kernel
theorem qd_179_72 : decode qm179.2.2.1 72 = .ok (.iload 4, 2) := by decide +kernel
theorem qd_179_74 : decode qm179.2.2.1 74 = .ok (.sipush 255, 3) := by decide +kernel
theorem qd_179_77 : decode qm179.2.2.1 77 = .ok (.if_icmp .ne 8, 3) := by decide +kernel
theorem qd_179_80 : decode qm179.2.2.1 80 = .ok (.aload_n 0, 1) := by decide +kernel
theorem qd_179_81 : decode qm179.2.2.1 81 = .ok (.iconst 2, 1) := by decide +kernel
theorem qd_179_82 : decode qm179.2.2.1 82 = .ok (.putfield 60, 3) := by decide +kernel
theorem qd_179_85 : decode qm179.2.2.1 85 = .ok (.iload 4, 2) := by decide +kernel
theorem qd_179_87 : decode qm179.2.2.1 87 = .ok (.sipush 255, 3) := by decide +kernel
theorem qd_179_90 : decode qm179.2.2.1 90 = .ok (.if_icmp .ne 7, 3) := by decide +kernel
theorem qd_179_93 : decode qm179.2.2.1 93 = .ok (.dconst 0, 1) := by decide +kernel
theorem qd_179_94 : decode qm179.2.2.1 94 = .ok (.goto 39, 3) := by decide +kernel
theorem qd_179_97 : decode qm179.2.2.1 97 = .ok (.iload 4, 2) := by decide +kernel
theorem qd_179_99 : decode qm179.2.2.1 99 = .ok (.ifCond .ne 9, 3) := by decide +kernel
theorem qd_179_102 : decode qm179.2.2.1 102 = .ok (.iload 5, 2) := by decide +kernel
theorem qd_179_104 : decode qm179.2.2.1 104 = .ok (.i2l, 1) := by decide +kernel
theorem qd_179_105 : decode qm179.2.2.1 105 = .ok (.goto 10, 3) := by decide +kernel
theorem qd_179_108 : decode qm179.2.2.1 108 = .ok (.iload 5, 2) := by decide +kernel
theorem qd_179_110 : decode qm179.2.2.1 110 = .ok (.ldc_w 273, 3) := by decide +kernel
theorem qd_179_113 : decode qm179.2.2.1 113 = .ok (.ior, 1) := by decide +kernel
theorem qd_179_114 : decode qm179.2.2.1 114 = .ok (.i2l, 1) := by decide +kernel
theorem qd_179_115 : decode qm179.2.2.1 115 = .ok (.iload 4, 2) := by decide +kernel
theorem qd_179_117 : decode qm179.2.2.1 117 = .ok (.ifCond .ne 7, 3) := by decide +kernel
theorem qd_179_120 : decode qm179.2.2.1 120 = .ok (.iconst 1, 1) := by decide +kernel
theorem qd_179_121 : decode qm179.2.2.1 121 = .ok (.goto 5, 3) := by decide +kernel
theorem qd_179_124 : decode qm179.2.2.1 124 = .ok (.iload 4, 2) := by decide +kernel
theorem qd_179_126 : decode qm179.2.2.1 126 = .ok (.sipush 150, 3) := by decide +kernel
theorem qd_179_129 : decode qm179.2.2.1 129 = .ok (.isub, 1) := by decide +kernel
theorem qd_179_130 : decode qm179.2.2.1 130 = .ok (.invokestatic 274, 3) := by decide +kernel
theorem qd_179_133 : decode qm179.2.2.1 133 = .ok (.dstore 6, 2) := by decide +kernel
theorem qd_179_135 : decode qm179.2.2.1 135 = .ok (.iload_n 3, 1) := by decide +kernel
theorem qd_179_136 : decode qm179.2.2.1 136 = .ok (.ifCond .ge 9, 3) := by decide +kernel
theorem qd_179_139 : decode qm179.2.2.1 139 = .ok (.dload 6, 2) := by decide +kernel
theorem qd_179_141 : decode qm179.2.2.1 141 = .ok (.dneg, 1) := by decide +kernel
theorem qd_179_142 : decode qm179.2.2.1 142 = .ok (.goto 5, 3) := by decide +kernel
theorem qd_179_145 : decode qm179.2.2.1 145 = .ok (.dload 6, 2) := by decide +kernel
theorem qd_179_147 : decode qm179.2.2.1 147 = .ok (.dreturn, 1) := by decide +kernel
theorem qd_179_148 : decode qm179.2.2.1 148 = .ok (.iload_n 3, 1) := by decide +kernel
theorem qd_179_149 : decode qm179.2.2.1 149 = .ok (.i2l, 1) := by decide +kernel
theorem qd_179_150 : decode qm179.2.2.1 150 = .ok (.bipush 32, 2) := by decide +kernel
theorem qd_179_152 : decode qm179.2.2.1 152 = .ok (.lshl, 1) := by decide +kernel
theorem qd_179_153 : decode qm179.2.2.1 153 = .ok (.aload_n 0, 1) := by decide +kernel
theorem qd_179_154 : decode qm179.2.2.1 154 = .ok (.aload_n 0, 1) := by decide +kernel
theorem qd_179_155 : decode qm179.2.2.1 155 = .ok (.getfield 23, 3) := by decide +kernel
theorem qd_179_158 : decode qm179.2.2.1 158 = .ok (.iload_n 1, 1) := by decide +kernel
theorem qd_179_159 : decode qm179.2.2.1 159 = .ok (.iaload, 1) := by decide +kernel
theorem qd_179_160 : decode qm179.2.2.1 160 = .ok (.iconst 5, 1) := by decide +kernel
theorem qd_179_161 : decode qm179.2.2.1 161 = .ok (.iadd, 1) := by decide +kernel
theorem qd_179_162 : decode qm179.2.2.1 162 = .ok (.invokevirtual 265, 3) := by decide +kernel
theorem qd_179_165 : decode qm179.2.2.1 165 = .ok (.i2l, 1) := by decide +kernel
theorem qd_179_166 : decode qm179.2.2.1 166 = .ok (.ldc2_w 278, 3) := by decide +kernel
theorem qd_179_169 : decode qm179.2.2.1 169 = .ok (.land, 1) := by decide +kernel
theorem qd_179_170 : decode qm179.2.2.1 170 = .ok (.lor, 1) := by decide +kernel
theorem qd_179_171 : decode qm179.2.2.1 171 = .ok (.lstore 4, 2) := by decide +kernel
theorem qd_179_173 : decode qm179.2.2.1 173 = .ok (.iload_n 2, 1) := by decide +kernel
theorem qd_179_174 : decode qm179.2.2.1 174 = .ok (.iconst 5, 1) := by decide +kernel
theorem qd_179_175 : decode qm179.2.2.1 175 = .ok (.if_icmp .ne 7, 3) := by decide +kernel
theorem qd_179_178 : decode qm179.2.2.1 178 = .ok (.lload 4, 2) := by decide +kernel
theorem qd_179_180 : decode qm179.2.2.1 180 = .ok (.l2d, 1) := by decide +kernel
theorem qd_179_181 : decode qm179.2.2.1 181 = .ok (.dreturn, 1) := by decide +kernel
theorem qd_179_182 : decode qm179.2.2.1 182 = .ok (.lload 4, 2) := by decide +kernel
theorem qd_179_184 : decode qm179.2.2.1 184 = .ok (.bipush 52, 2) := by decide +kernel
theorem qd_179_186 : decode qm179.2.2.1 186 = .ok (.lshr, 1) := by decide +kernel
theorem qd_179_187 : decode qm179.2.2.1 187 = .ok (.l2i, 1) := by decide +kernel
theorem qd_179_188 : decode qm179.2.2.1 188 = .ok (.sipush 2047, 3) := by decide +kernel
theorem qd_179_191 : decode qm179.2.2.1 191 = .ok (.iand, 1) := by decide +kernel
theorem qd_179_192 : decode qm179.2.2.1 192 = .ok (.istore 6, 2) := by decide +kernel
theorem qd_179_194 : decode qm179.2.2.1 194 = .ok (.lload 4, 2) := by decide +kernel
theorem qd_179_196 : decode qm179.2.2.1 196 = .ok (.ldc2_w 280, 3) := by decide +kernel
theorem qd_179_199 : decode qm179.2.2.1 199 = .ok (.land, 1) := by decide +kernel
theorem qd_179_200 : decode qm179.2.2.1 200 = .ok (.lstore 7, 2) := by decide +kernel
theorem qd_179_202 : decode qm179.2.2.1 202 = .ok (.iload 6, 2) := by decide +kernel
theorem qd_179_204 : decode qm179.2.2.1 204 = .ok (.sipush 2047, 3) := by decide +kernel
theorem qd_179_207 : decode qm179.2.2.1 207 = .ok (.if_icmp .ne 8, 3) := by decide +kernel
theorem qd_179_210 : decode qm179.2.2.1 210 = .ok (.aload_n 0, 1) := by decide +kernel
theorem qd_179_211 : decode qm179.2.2.1 211 = .ok (.iconst 2, 1) := by decide +kernel
theorem qd_179_212 : decode qm179.2.2.1 212 = .ok (.putfield 60, 3) := by decide +kernel
theorem qd_179_215 : decode qm179.2.2.1 215 = .ok (.iload 6, 2) := by decide +kernel
theorem qd_179_217 : decode qm179.2.2.1 217 = .ok (.sipush 2047, 3) := by decide +kernel
theorem qd_179_220 : decode qm179.2.2.1 220 = .ok (.if_icmp .ne 7, 3) := by decide +kernel
theorem qd_179_223 : decode qm179.2.2.1 223 = .ok (.dconst 0, 1) := by decide +kernel
theorem qd_179_224 : decode qm179.2.2.1 224 = .ok (.goto 37, 3) := by decide +kernel
theorem qd_179_227 : decode qm179.2.2.1 227 = .ok (.iload 6, 2) := by decide +kernel
theorem qd_179_229 : decode qm179.2.2.1 229 = .ok (.ifCond .ne 8, 3) := by decide +kernel
theorem qd_179_232 : decode qm179.2.2.1 232 = .ok (.lload 7, 2) := by decide +kernel
theorem qd_179_234 : decode qm179.2.2.1 234 = .ok (.goto 9, 3) := by decide +kernel
theorem qd_179_237 : decode qm179.2.2.1 237 = .ok (.lload 7, 2) := by decide +kernel
theorem qd_179_239 : decode qm179.2.2.1 239 = .ok (.ldc2_w 282, 3) := by decide +kernel
theorem qd_179_242 : decode qm179.2.2.1 242 = .ok (.lor, 1) := by decide +kernel
theorem qd_179_243 : decode qm179.2.2.1 243 = .ok (.iload 6, 2) := by decide +kernel
theorem qd_179_245 : decode qm179.2.2.1 245 = .ok (.ifCond .ne 7, 3) := by decide +kernel
theorem qd_179_248 : decode qm179.2.2.1 248 = .ok (.iconst 1, 1) := by decide +kernel
theorem qd_179_249 : decode qm179.2.2.1 249 = .ok (.goto 5, 3) := by decide +kernel
theorem qd_179_252 : decode qm179.2.2.1 252 = .ok (.iload 6, 2) := by decide +kernel
theorem qd_179_254 : decode qm179.2.2.1 254 = .ok (.sipush 1075, 3) := by decide +kernel
theorem qd_179_257 : decode qm179.2.2.1 257 = .ok (.isub, 1) := by decide +kernel
theorem qd_179_258 : decode qm179.2.2.1 258 = .ok (.invokestatic 274, 3) := by decide +kernel
theorem qd_179_261 : decode qm179.2.2.1 261 = .ok (.dstore 9, 2) := by decide +kernel
theorem qd_179_263 : decode qm179.2.2.1 263 = .ok (.lload 4, 2) := by decide +kernel
theorem qd_179_265 : decode qm179.2.2.1 265 = .ok (.lconst 0, 1) := by decide +kernel
theorem qd_179_266 : decode qm179.2.2.1 266 = .ok (.lcmp, 1) := by decide +kernel
theorem qd_179_267 : decode qm179.2.2.1 267 = .ok (.ifCond .ge 9, 3) := by decide +kernel
theorem qd_179_270 : decode qm179.2.2.1 270 = .ok (.dload 9, 2) := by decide +kernel
theorem qd_179_272 : decode qm179.2.2.1 272 = .ok (.dneg, 1) := by decide +kernel
theorem qd_179_273 : decode qm179.2.2.1 273 = .ok (.goto 5, 3) := by decide +kernel
theorem qd_179_276 : decode qm179.2.2.1 276 = .ok (.dload 9, 2) := by decide +kernel
theorem qd_179_278 : decode qm179.2.2.1 278 = .ok (.dreturn, 1) := by decide +kernel
theorem qd_180_0 : decode qm180.2.2.1 0 = .ok (.lload_n 0, 1) := by decide +kernel
theorem qd_180_1 : decode qm180.2.2.1 1 = .ok (.l2d, 1) := by decide +kernel
theorem qd_180_2 : decode qm180.2.2.1 2 = .ok (.dstore_n 3, 1) := by decide +kernel
theorem qd_180_3 : decode qm180.2.2.1 3 = .ok (.iconst 0, 1) := by decide +kernel
theorem qd_180_4 : decode qm180.2.2.1 4 = .ok (.istore 5, 2) := by decide +kernel
theorem qd_180_6 : decode qm180.2.2.1 6 = .ok (.iload 5, 2) := by decide +kernel
theorem qd_180_8 : decode qm180.2.2.1 8 = .ok (.iload_n 2, 1) := by decide +kernel
theorem qd_180_9 : decode qm180.2.2.1 9 = .ok (.if_icmp .ge 15, 3) := by decide +kernel
theorem qd_180_12 : decode qm180.2.2.1 12 = .ok (.dload_n 3, 1) := by decide +kernel
theorem qd_180_13 : decode qm180.2.2.1 13 = .ok (.ldc2_w 268, 3) := by decide +kernel
theorem qd_180_16 : decode qm180.2.2.1 16 = .ok (.dmul, 1) := by decide +kernel
theorem qd_180_17 : decode qm180.2.2.1 17 = .ok (.dstore_n 3, 1) := by decide +kernel
theorem qd_180_18 : decode qm180.2.2.1 18 = .ok (.iinc 5 1, 3) := by decide +kernel
theorem qd_180_21 : decode qm180.2.2.1 21 = .ok (.goto (-15), 3) := by decide +kernel
theorem qd_180_24 : decode qm180.2.2.1 24 = .ok (.iconst 0, 1) := by decide +kernel
theorem qd_180_25 : decode qm180.2.2.1 25 = .ok (.istore 5, 2) := by decide +kernel
theorem qd_180_27 : decode qm180.2.2.1 27 = .ok (.iload 5, 2) := by decide +kernel
theorem qd_180_29 : decode qm180.2.2.1 29 = .ok (.iload_n 2, 1) := by decide +kernel
theorem qd_180_30 : decode qm180.2.2.1 30 = .ok (.if_icmp .le 15, 3) := by decide +kernel
theorem qd_180_33 : decode qm180.2.2.1 33 = .ok (.dload_n 3, 1) := by decide +kernel
theorem qd_180_34 : decode qm180.2.2.1 34 = .ok (.ldc2_w 268, 3) := by decide +kernel
theorem qd_180_37 : decode qm180.2.2.1 37 = .ok (.ddiv, 1) := by decide +kernel
theorem qd_180_38 : decode qm180.2.2.1 38 = .ok (.dstore_n 3, 1) := by decide +kernel
theorem qd_180_39 : decode qm180.2.2.1 39 = .ok (.iinc 5 (-1), 3) := by decide +kernel
theorem qd_180_42 : decode qm180.2.2.1 42 = .ok (.goto (-15), 3) := by decide +kernel
theorem qd_180_45 : decode qm180.2.2.1 45 = .ok (.dload_n 3, 1) := by decide +kernel
theorem qd_180_46 : decode qm180.2.2.1 46 = .ok (.dreturn, 1) := by decide +kernel
