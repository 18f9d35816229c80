/-! the code, instruction by instruction: printed by a program of mine (wip/whole/gen_blocks.py, emit.py) -/
theorem qd_130_0 : decode qm130.2.2.1 0 = .ok (.aload_n 0, 1) := by decide +kernel
theorem qd_130_1 : decode qm130.2.2.1 1 = .ok (.invokevirtual 88, 3) := by decide +kernel
theorem qd_130_4 : decode qm130.2.2.1 4 = .ok (.istore_n 1, 1) := by decide +kernel
theorem qd_130_5 : decode qm130.2.2.1 5 = .ok (.aload_n 0, 1) := by decide +kernel
theorem qd_130_6 : decode qm130.2.2.1 6 = .ok (.invokevirtual 88, 3) := by decide +kernel
theorem qd_130_9 : decode qm130.2.2.1 9 = .ok (.istore_n 2, 1) := by decide +kernel
theorem qd_130_10 : decode qm130.2.2.1 10 = .ok (.iload_n 1, 1) := by decide +kernel
theorem qd_130_11 : decode qm130.2.2.1 11 = .ok (.bipush 16, 2) := by decide +kernel
theorem qd_130_13 : decode qm130.2.2.1 13 = .ok (.ishl, 1) := by decide +kernel
theorem qd_130_14 : decode qm130.2.2.1 14 = .ok (.iload_n 2, 1) := by decide +kernel
theorem qd_130_15 : decode qm130.2.2.1 15 = .ok (.ior, 1) := by decide +kernel
theorem qd_130_16 : decode qm130.2.2.1 16 = .ok (.ireturn, 1) := by decide +kernel
theorem qd_131_0 : decode qm131.2.2.1 0 = .ok (.aload_n 0, 1) := by decide +kernel
theorem qd_131_1 : decode qm131.2.2.1 1 = .ok (.invokevirtual 84, 3) := by decide +kernel
theorem qd_131_4 : decode qm131.2.2.1 4 = .ok (.istore_n 1, 1) := by decide +kernel
theorem qd_131_5 : decode qm131.2.2.1 5 = .ok (.aload_n 0, 1) := by decide +kernel
theorem qd_131_6 : decode qm131.2.2.1 6 = .ok (.invokevirtual 84, 3) := by decide +kernel
theorem qd_131_9 : decode qm131.2.2.1 9 = .ok (.istore_n 2, 1) := by decide +kernel
theorem qd_131_10 : decode qm131.2.2.1 10 = .ok (.iload_n 1, 1) := by decide +kernel
theorem qd_131_11 : decode qm131.2.2.1 11 = .ok (.bipush 8, 2) := by decide +kernel
theorem qd_131_13 : decode qm131.2.2.1 13 = .ok (.ishl, 1) := by decide +kernel
theorem qd_131_14 : decode qm131.2.2.1 14 = .ok (.iload_n 2, 1) := by decide +kernel
theorem qd_131_15 : decode qm131.2.2.1 15 = .ok (.ior, 1) := by decide +kernel
theorem qd_131_16 : decode qm131.2.2.1 16 = .ok (.ireturn, 1) := by decide +kernel
theorem qd_132_0 : decode qm132.2.2.1 0 = .ok (.aload_n 0, 1) := by decide +kernel
theorem qd_132_1 : decode qm132.2.2.1 1 = .ok (.getfield 70, 3) := by decide +kernel
theorem qd_132_4 : decode qm132.2.2.1 4 = .ok (.aload_n 0, 1) := by decide +kernel
theorem qd_132_5 : decode qm132.2.2.1 5 = .ok (.getfield 73, 3) := by decide +kernel
theorem qd_132_8 : decode qm132.2.2.1 8 = .ok (.if_icmp .lt 12, 3) := by decide +kernel
theorem qd_132_11 : decode qm132.2.2.1 11 = .ok (.aload_n 0, 1) := by decide +kernel
theorem qd_132_12 : decode qm132.2.2.1 12 = .ok (.aload_n 0, 1) := by decide +kernel
theorem qd_132_13 : decode qm132.2.2.1 13 = .ok (.getfield 73, 3) := by decide +kernel
theorem qd_132_16 : decode qm132.2.2.1 16 = .ok (.invokevirtual 76, 3) := by decide +kernel
theorem qd_132_19 : decode qm132.2.2.1 19 = .ok (.pop, 1) := by decide +kernel
theorem qd_132_20 : decode qm132.2.2.1 20 = .ok (.aload_n 0, 1) := by decide +kernel
theorem qd_132_21 : decode qm132.2.2.1 21 = .ok (.invokevirtual 80, 3) := by decide +kernel
theorem qd_132_24 : decode qm132.2.2.1 24 = .ok (.ifCond .ne 5, 3) := by decide +kernel
theorem qd_132_27 : decode qm132.2.2.1 27 = .ok (.iconst 0, 1) := by decide +kernel
theorem qd_132_28 : decode qm132.2.2.1 28 = .ok (.ireturn, 1) := by decide +kernel
theorem qd_132_29 : decode qm132.2.2.1 29 = .ok (.aload_n 0, 1) := by decide +kernel
theorem qd_132_30 : decode qm132.2.2.1 30 = .ok (.dup, 1) := by decide +kernel
theorem qd_132_31 : decode qm132.2.2.1 31 = .ok (.getfield 70, 3) := by decide +kernel
theorem qd_132_34 : decode qm132.2.2.1 34 = .ok (.iconst 1, 1) := by decide +kernel
theorem qd_132_35 : decode qm132.2.2.1 35 = .ok (.iadd, 1) := by decide +kernel
theorem qd_132_36 : decode qm132.2.2.1 36 = .ok (.putfield 70, 3) := by decide +kernel
theorem qd_132_39 : decode qm132.2.2.1 39 = .ok (.aload_n 0, 1) := by decide +kernel
theorem qd_132_40 : decode qm132.2.2.1 40 = .ok (.getfield 16, 3) := by decide +kernel
theorem qd_132_43 : decode qm132.2.2.1 43 = .ok (.aload_n 0, 1) := by decide +kernel
theorem qd_132_44 : decode qm132.2.2.1 44 = .ok (.getfield 70, 3) := by decide +kernel
theorem qd_132_47 : decode qm132.2.2.1 47 = .ok (.iconst 1, 1) := by decide +kernel
theorem qd_132_48 : decode qm132.2.2.1 48 = .ok (.isub, 1) := by decide +kernel
theorem qd_132_49 : decode qm132.2.2.1 49 = .ok (.iaload, 1) := by decide +kernel
theorem qd_132_50 : decode qm132.2.2.1 50 = .ok (.ireturn, 1) := by decide +kernel
theorem qd_133_0 : decode qm133.2.2.1 0 = .ok (.aload_n 0, 1) := by decide +kernel
theorem qd_133_1 : decode qm133.2.2.1 1 = .ok (.getfield 19, 3) := by decide +kernel
theorem qd_133_4 : decode qm133.2.2.1 4 = .ok (.ifCond .ge 8, 3) := by decide +kernel
theorem qd_133_7 : decode qm133.2.2.1 7 = .ok (.aload_n 0, 1) := by decide +kernel
theorem qd_133_8 : decode qm133.2.2.1 8 = .ok (.iload_n 1, 1) := by decide +kernel
theorem qd_133_9 : decode qm133.2.2.1 9 = .ok (.putfield 19, 3) := by decide +kernel
theorem qd_133_12 : decode qm133.2.2.1 12 = .ok (.iconst 0, 1) := by decide +kernel
theorem qd_133_13 : decode qm133.2.2.1 13 = .ok (.ireturn, 1) := by decide +kernel
theorem qd_134_0 : decode qm134.2.2.1 0 = .ok (.aload_n 0, 1) := by decide +kernel
theorem qd_134_1 : decode qm134.2.2.1 1 = .ok (.getfield 19, 3) := by decide +kernel
theorem qd_134_4 : decode qm134.2.2.1 4 = .ok (.ifCond .ge 7, 3) := by decide +kernel
theorem qd_134_7 : decode qm134.2.2.1 7 = .ok (.iconst 1, 1) := by decide +kernel
theorem qd_134_8 : decode qm134.2.2.1 8 = .ok (.goto 4, 3) := by decide +kernel
theorem qd_134_11 : decode qm134.2.2.1 11 = .ok (.iconst 0, 1) := by decide +kernel
theorem qd_134_12 : decode qm134.2.2.1 12 = .ok (.ireturn, 1) := by decide +kernel
theorem qd_135_0 : decode qm135.2.2.1 0 = .ok (.aload_n 0, 1) := by decide +kernel
theorem qd_135_1 : decode qm135.2.2.1 1 = .ok (.getfield 70, 3) := by decide +kernel
theorem qd_135_4 : decode qm135.2.2.1 4 = .ok (.istore_n 1, 1) := by decide +kernel
theorem qd_135_5 : decode qm135.2.2.1 5 = .ok (.aload_n 0, 1) := by decide +kernel
theorem qd_135_6 : decode qm135.2.2.1 6 = .ok (.invokevirtual 88, 3) := by decide +kernel
theorem qd_135_9 : decode qm135.2.2.1 9 = .ok (.istore_n 2, 1) := by decide +kernel
theorem qd_135_10 : decode qm135.2.2.1 10 = .ok (.aload_n 0, 1) := by decide +kernel
theorem qd_135_11 : decode qm135.2.2.1 11 = .ok (.invokevirtual 80, 3) := by decide +kernel
theorem qd_135_14 : decode qm135.2.2.1 14 = .ok (.ifCond .eq 13, 3) := by decide +kernel
theorem qd_135_17 : decode qm135.2.2.1 17 = .ok (.iload_n 2, 1) := by decide +kernel
theorem qd_135_18 : decode qm135.2.2.1 18 = .ok (.ifCond .ne 9, 3) := by decide +kernel
theorem qd_135_21 : decode qm135.2.2.1 21 = .ok (.aload_n 0, 1) := by decide +kernel
theorem qd_135_22 : decode qm135.2.2.1 22 = .ok (.iload_n 1, 1) := by decide +kernel
theorem qd_135_23 : decode qm135.2.2.1 23 = .ok (.invokevirtual 76, 3) := by decide +kernel
theorem qd_135_26 : decode qm135.2.2.1 26 = .ok (.pop, 1) := by decide +kernel
theorem qd_135_27 : decode qm135.2.2.1 27 = .ok (.aload_n 0, 1) := by decide +kernel
theorem qd_135_28 : decode qm135.2.2.1 28 = .ok (.iconst 1, 1) := by decide +kernel
theorem qd_135_29 : decode qm135.2.2.1 29 = .ok (.putfield 95, 3) := by decide +kernel
theorem qd_135_32 : decode qm135.2.2.1 32 = .ok (.iconst 1, 1) := by decide +kernel
theorem qd_135_33 : decode qm135.2.2.1 33 = .ok (.istore_n 3, 1) := by decide +kernel
theorem qd_135_34 : decode qm135.2.2.1 34 = .ok (.iload_n 3, 1) := by decide +kernel
theorem qd_135_35 : decode qm135.2.2.1 35 = .ok (.iload_n 2, 1) := by decide +kernel
theorem qd_135_36 : decode qm135.2.2.1 36 = .ok (.if_icmp .ge 235, 3) := by decide +kernel
theorem qd_135_39 : decode qm135.2.2.1 39 = .ok (.aload_n 0, 1) := by decide +kernel
theorem qd_135_40 : decode qm135.2.2.1 40 = .ok (.invokevirtual 80, 3) := by decide +kernel
theorem qd_135_43 : decode qm135.2.2.1 43 = .ok (.ifCond .eq 228, 3) := by decide +kernel
theorem qd_135_46 : decode qm135.2.2.1 46 = .ok (.aload_n 0, 1) := by decide +kernel
theorem qd_135_47 : decode qm135.2.2.1 47 = .ok (.getfield 23, 3) := by decide +kernel
theorem qd_135_50 : decode qm135.2.2.1 50 = .ok (.iload_n 3, 1) := by decide +kernel
theorem qd_135_51 : decode qm135.2.2.1 51 = .ok (.aload_n 0, 1) := by decide +kernel
theorem qd_135_52 : decode qm135.2.2.1 52 = .ok (.getfield 70, 3) := by decide +kernel
theorem qd_135_55 : decode qm135.2.2.1 55 = .ok (.iastore, 1) := by decide +kernel
theorem qd_135_56 : decode qm135.2.2.1 56 = .ok (.aload_n 0, 1) := by decide +kernel
theorem qd_135_57 : decode qm135.2.2.1 57 = .ok (.getfield 23, 3) := by decide +kernel
theorem qd_135_60 : decode qm135.2.2.1 60 = .ok (.iload_n 3, 1) := by decide +kernel
theorem qd_135_61 : decode qm135.2.2.1 61 = .ok (.iconst 1, 1) := by decide +kernel
theorem qd_135_62 : decode qm135.2.2.1 62 = .ok (.iadd, 1) := by decide +kernel
theorem qd_135_63 : decode qm135.2.2.1 63 = .ok (.iconst (-1), 1) := by decide +kernel
theorem qd_135_64 : decode qm135.2.2.1 64 = .ok (.iastore, 1) := by decide +kernel
theorem qd_135_65 : decode qm135.2.2.1 65 = .ok (.aload_n 0, 1) := by decide +kernel
theorem qd_135_66 : decode qm135.2.2.1 66 = .ok (.getfield 70, 3) := by decide +kernel
theorem qd_135_69 : decode qm135.2.2.1 69 = .ok (.istore 4, 2) := by decide +kernel
theorem qd_135_71 : decode qm135.2.2.1 71 = .ok (.aload_n 0, 1) := by decide +kernel
theorem qd_135_72 : decode qm135.2.2.1 72 = .ok (.invokevirtual 84, 3) := by decide +kernel
theorem qd_135_75 : decode qm135.2.2.1 75 = .ok (.istore 5, 2) := by decide +kernel
theorem qd_135_77 : decode qm135.2.2.1 77 = .ok (.aload_n 0, 1) := by decide +kernel
theorem qd_135_78 : decode qm135.2.2.1 78 = .ok (.iload_n 3, 1) := by decide +kernel
theorem qd_135_79 : decode qm135.2.2.1 79 = .ok (.iconst 1, 1) := by decide +kernel
theorem qd_135_80 : decode qm135.2.2.1 80 = .ok (.iadd, 1) := by decide +kernel
theorem qd_135_81 : decode qm135.2.2.1 81 = .ok (.putfield 95, 3) := by decide +kernel
theorem qd_135_84 : decode qm135.2.2.1 84 = .ok (.aload_n 0, 1) := by decide +kernel
theorem qd_135_85 : decode qm135.2.2.1 85 = .ok (.invokevirtual 80, 3) := by decide +kernel
theorem qd_135_88 : decode qm135.2.2.1 88 = .ok (.ifCond .ne 4, 3) := by decide +kernel
theorem qd_135_91 : decode qm135.2.2.1 91 = .ok (.return_, 1) := by decide +kernel
theorem qd_135_92 : decode qm135.2.2.1 92 = .ok (.iload 5, 2) := by decide +kernel
theorem qd_135_94 : decode qm135.2.2.1 94 = .ok (.iconst 1, 1) := by decide +kernel
theorem qd_135_95 : decode qm135.2.2.1 95 = .ok (.if_icmp .ne 10, 3) := by decide +kernel
theorem qd_135_98 : decode qm135.2.2.1 98 = .ok (.aload_n 0, 1) := by decide +kernel
theorem qd_135_99 : decode qm135.2.2.1 99 = .ok (.invokevirtual 152, 3) := by decide +kernel
theorem qd_135_102 : decode qm135.2.2.1 102 = .ok (.goto 163, 3) := by decide +kernel
theorem qd_135_105 : decode qm135.2.2.1 105 = .ok (.iload 5, 2) := by decide +kernel
theorem qd_135_107 : decode qm135.2.2.1 107 = .ok (.iconst 3, 1) := by decide +kernel
theorem qd_135_108 : decode qm135.2.2.1 108 = .ok (.if_icmp .eq 9, 3) := by decide +kernel
theorem qd_135_111 : decode qm135.2.2.1 111 = .ok (.iload 5, 2) := by decide +kernel
theorem qd_135_113 : decode qm135.2.2.1 113 = .ok (.iconst 4, 1) := by decide +kernel
theorem qd_135_114 : decode qm135.2.2.1 114 = .ok (.if_icmp .ne 11, 3) := by decide +kernel
theorem qd_135_117 : decode qm135.2.2.1 117 = .ok (.aload_n 0, 1) := by decide +kernel
theorem qd_135_118 : decode qm135.2.2.1 118 = .ok (.invokevirtual 155, 3) := by decide +kernel
theorem qd_135_121 : decode qm135.2.2.1 121 = .ok (.pop, 1) := by decide +kernel
theorem qd_135_122 : decode qm135.2.2.1 122 = .ok (.goto 143, 3) := by decide +kernel
theorem qd_135_125 : decode qm135.2.2.1 125 = .ok (.iload 5, 2) := by decide +kernel
theorem qd_135_127 : decode qm135.2.2.1 127 = .ok (.iconst 5, 1) := by decide +kernel
theorem qd_135_128 : decode qm135.2.2.1 128 = .ok (.if_icmp .eq 10, 3) := by decide +kernel
theorem qd_135_131 : decode qm135.2.2.1 131 = .ok (.iload 5, 2) := by decide +kernel
theorem qd_135_133 : decode qm135.2.2.1 133 = .ok (.bipush 6, 2) := by decide +kernel
theorem qd_135_135 : decode qm135.2.2.1 135 = .ok (.if_icmp .ne 40, 3) := by decide +kernel
theorem qd_135_138 : decode qm135.2.2.1 138 = .ok (.iload_n 3, 1) := by decide +kernel
theorem qd_135_139 : decode qm135.2.2.1 139 = .ok (.iconst 1, 1) := by decide +kernel
theorem qd_135_140 : decode qm135.2.2.1 140 = .ok (.iadd, 1) := by decide +kernel
theorem qd_135_141 : decode qm135.2.2.1 141 = .ok (.iload_n 2, 1) := by decide +kernel
theorem qd_135_142 : decode qm135.2.2.1 142 = .ok (.if_icmp .ne 10, 3) := by decide +kernel
theorem qd_135_145 : decode qm135.2.2.1 145 = .ok (.aload_n 0, 1) := by decide +kernel
theorem qd_135_146 : decode qm135.2.2.1 146 = .ok (.iload 4, 2) := by decide +kernel
theorem qd_135_148 : decode qm135.2.2.1 148 = .ok (.invokevirtual 76, 3) := by decide +kernel
theorem qd_135_151 : decode qm135.2.2.1 151 = .ok (.pop, 1) := by decide +kernel
theorem qd_135_152 : decode qm135.2.2.1 152 = .ok (.aload_n 0, 1) := by decide +kernel
theorem qd_135_153 : decode qm135.2.2.1 153 = .ok (.invokevirtual 155, 3) := by decide +kernel
theorem qd_135_156 : decode qm135.2.2.1 156 = .ok (.pop, 1) := by decide +kernel
theorem qd_135_157 : decode qm135.2.2.1 157 = .ok (.aload_n 0, 1) := by decide +kernel
theorem qd_135_158 : decode qm135.2.2.1 158 = .ok (.invokevirtual 155, 3) := by decide +kernel
theorem qd_135_161 : decode qm135.2.2.1 161 = .ok (.pop, 1) := by decide +kernel
theorem qd_135_162 : decode qm135.2.2.1 162 = .ok (.iinc 3 1, 3) := by decide +kernel
theorem qd_135_165 : decode qm135.2.2.1 165 = .ok (.aload_n 0, 1) := by decide +kernel
theorem qd_135_166 : decode qm135.2.2.1 166 = .ok (.iload_n 3, 1) := by decide +kernel
theorem qd_135_167 : decode qm135.2.2.1 167 = .ok (.iconst 1, 1) := by decide +kernel
theorem qd_135_168 : decode qm135.2.2.1 168 = .ok (.iadd, 1) := by decide +kernel
theorem qd_135_169 : decode qm135.2.2.1 169 = .ok (.putfield 95, 3) := by decide +kernel
theorem qd_135_172 : decode qm135.2.2.1 172 = .ok (.goto 93, 3) := by decide +kernel
theorem qd_135_175 : decode qm135.2.2.1 175 = .ok (.iload 5, 2) := by decide +kernel
theorem qd_135_177 : decode qm135.2.2.1 177 = .ok (.bipush 7, 2) := by decide +kernel
theorem qd_135_179 : decode qm135.2.2.1 179 = .ok (.if_icmp .eq 17, 3) := by decide +kernel
theorem qd_135_182 : decode qm135.2.2.1 182 = .ok (.iload 5, 2) := by decide +kernel
theorem qd_135_184 : decode qm135.2.2.1 184 = .ok (.bipush 8, 2) := by decide +kernel
theorem qd_135_186 : decode qm135.2.2.1 186 = .ok (.if_icmp .eq 10, 3) := by decide +kernel
theorem qd_135_189 : decode qm135.2.2.1 189 = .ok (.iload 5, 2) := by decide +kernel
theorem qd_135_191 : decode qm135.2.2.1 191 = .ok (.bipush 16, 2) := by decide +kernel
theorem qd_135_193 : decode qm135.2.2.1 193 = .ok (.if_icmp .ne 11, 3) := by decide +kernel
theorem qd_135_196 : decode qm135.2.2.1 196 = .ok (.aload_n 0, 1) := by decide +kernel
theorem qd_135_197 : decode qm135.2.2.1 197 = .ok (.invokevirtual 88, 3) := by decide +kernel
theorem qd_135_200 : decode qm135.2.2.1 200 = .ok (.pop, 1) := by decide +kernel
theorem qd_135_201 : decode qm135.2.2.1 201 = .ok (.goto 64, 3) := by decide +kernel
theorem qd_135_204 : decode qm135.2.2.1 204 = .ok (.iload 5, 2) := by decide +kernel
theorem qd_135_206 : decode qm135.2.2.1 206 = .ok (.bipush 15, 2) := by decide +kernel
theorem qd_135_208 : decode qm135.2.2.1 208 = .ok (.if_icmp .ne 16, 3) := by decide +kernel
theorem qd_135_211 : decode qm135.2.2.1 211 = .ok (.aload_n 0, 1) := by decide +kernel
theorem qd_135_212 : decode qm135.2.2.1 212 = .ok (.invokevirtual 84, 3) := by decide +kernel
theorem qd_135_215 : decode qm135.2.2.1 215 = .ok (.pop, 1) := by decide +kernel
theorem qd_135_216 : decode qm135.2.2.1 216 = .ok (.aload_n 0, 1) := by decide +kernel
theorem qd_135_217 : decode qm135.2.2.1 217 = .ok (.invokevirtual 88, 3) := by decide +kernel
theorem qd_135_220 : decode qm135.2.2.1 220 = .ok (.pop, 1) := by decide +kernel
theorem qd_135_221 : decode qm135.2.2.1 221 = .ok (.goto 44, 3) := by decide +kernel
theorem qd_135_224 : decode qm135.2.2.1 224 = .ok (.iload 5, 2) := by decide +kernel
theorem qd_135_226 : decode qm135.2.2.1 226 = .ok (.bipush 9, 2) := by decide +kernel
theorem qd_135_228 : decode qm135.2.2.1 228 = .ok (.bipush 12, 2) := by decide +kernel
theorem qd_135_230 : decode qm135.2.2.1 230 = .ok (.invokestatic 63, 3) := by decide +kernel
theorem qd_135_233 : decode qm135.2.2.1 233 = .ok (.ifCond .ne 17, 3) := by decide +kernel
theorem qd_135_236 : decode qm135.2.2.1 236 = .ok (.iload 5, 2) := by decide +kernel
theorem qd_135_238 : decode qm135.2.2.1 238 = .ok (.bipush 17, 2) := by decide +kernel
theorem qd_135_240 : decode qm135.2.2.1 240 = .ok (.if_icmp .eq 10, 3) := by decide +kernel
theorem qd_135_243 : decode qm135.2.2.1 243 = .ok (.iload 5, 2) := by decide +kernel
theorem qd_135_245 : decode qm135.2.2.1 245 = .ok (.bipush 18, 2) := by decide +kernel
theorem qd_135_247 : decode qm135.2.2.1 247 = .ok (.if_icmp .ne 11, 3) := by decide +kernel
theorem qd_135_250 : decode qm135.2.2.1 250 = .ok (.aload_n 0, 1) := by decide +kernel
theorem qd_135_251 : decode qm135.2.2.1 251 = .ok (.invokevirtual 155, 3) := by decide +kernel
theorem qd_135_254 : decode qm135.2.2.1 254 = .ok (.pop, 1) := by decide +kernel
theorem qd_135_255 : decode qm135.2.2.1 255 = .ok (.goto 10, 3) := by decide +kernel
theorem qd_135_258 : decode qm135.2.2.1 258 = .ok (.aload_n 0, 1) := by decide +kernel
theorem qd_135_259 : decode qm135.2.2.1 259 = .ok (.iload 4, 2) := by decide +kernel
theorem qd_135_261 : decode qm135.2.2.1 261 = .ok (.invokevirtual 76, 3) := by decide +kernel
theorem qd_135_264 : decode qm135.2.2.1 264 = .ok (.pop, 1) := by decide +kernel
theorem qd_135_265 : decode qm135.2.2.1 265 = .ok (.iinc 3 1, 3) := by decide +kernel
theorem qd_135_268 : decode qm135.2.2.1 268 = .ok (.goto (-234), 3) := by decide +kernel
theorem qd_135_271 : decode qm135.2.2.1 271 = .ok (.return_, 1) := by decide +kernel
theorem qd_136_0 : decode qm136.2.2.1 0 = .ok (.aload_n 0, 1) := by decide +kernel
theorem qd_136_1 : decode qm136.2.2.1 1 = .ok (.invokevirtual 88, 3) := by decide +kernel
theorem qd_136_4 : decode qm136.2.2.1 4 = .ok (.istore_n 1, 1) := by decide +kernel
theorem qd_136_5 : decode qm136.2.2.1 5 = .ok (.aload_n 0, 1) := by decide +kernel
theorem qd_136_6 : decode qm136.2.2.1 6 = .ok (.getfield 70, 3) := by decide +kernel
theorem qd_136_9 : decode qm136.2.2.1 9 = .ok (.iload_n 1, 1) := by decide +kernel
theorem qd_136_10 : decode qm136.2.2.1 10 = .ok (.iadd, 1) := by decide +kernel
theorem qd_136_11 : decode qm136.2.2.1 11 = .ok (.istore_n 2, 1) := by decide +kernel
theorem qd_136_12 : decode qm136.2.2.1 12 = .ok (.aload_n 0, 1) := by decide +kernel
theorem qd_136_13 : decode qm136.2.2.1 13 = .ok (.invokevirtual 80, 3) := by decide +kernel
theorem qd_136_16 : decode qm136.2.2.1 16 = .ok (.ifCond .eq 20, 3) := by decide +kernel
theorem qd_136_19 : decode qm136.2.2.1 19 = .ok (.iload_n 2, 1) := by decide +kernel
theorem qd_136_20 : decode qm136.2.2.1 20 = .ok (.aload_n 0, 1) := by decide +kernel
theorem qd_136_21 : decode qm136.2.2.1 21 = .ok (.getfield 73, 3) := by decide +kernel
theorem qd_136_24 : decode qm136.2.2.1 24 = .ok (.if_icmp .le 12, 3) := by decide +kernel
theorem qd_136_27 : decode qm136.2.2.1 27 = .ok (.aload_n 0, 1) := by decide +kernel
theorem qd_136_28 : decode qm136.2.2.1 28 = .ok (.aload_n 0, 1) := by decide +kernel
theorem qd_136_29 : decode qm136.2.2.1 29 = .ok (.getfield 73, 3) := by decide +kernel
theorem qd_136_32 : decode qm136.2.2.1 32 = .ok (.invokevirtual 76, 3) := by decide +kernel
theorem qd_136_35 : decode qm136.2.2.1 35 = .ok (.pop, 1) := by decide +kernel
theorem qd_136_36 : decode qm136.2.2.1 36 = .ok (.aload_n 0, 1) := by decide +kernel
theorem qd_136_37 : decode qm136.2.2.1 37 = .ok (.invokevirtual 80, 3) := by decide +kernel
theorem qd_136_40 : decode qm136.2.2.1 40 = .ok (.ifCond .eq 143, 3) := by decide +kernel
theorem qd_136_43 : decode qm136.2.2.1 43 = .ok (.aload_n 0, 1) := by decide +kernel
theorem qd_136_44 : decode qm136.2.2.1 44 = .ok (.getfield 70, 3) := by decide +kernel
theorem qd_136_47 : decode qm136.2.2.1 47 = .ok (.iload_n 2, 1) := by decide +kernel
theorem qd_136_48 : decode qm136.2.2.1 48 = .ok (.if_icmp .ge 135, 3) := by decide +kernel
theorem qd_136_51 : decode qm136.2.2.1 51 = .ok (.aload_n 0, 1) := by decide +kernel
theorem qd_136_52 : decode qm136.2.2.1 52 = .ok (.getfield 16, 3) := by decide +kernel
theorem qd_136_55 : decode qm136.2.2.1 55 = .ok (.aload_n 0, 1) := by decide +kernel
theorem qd_136_56 : decode qm136.2.2.1 56 = .ok (.getfield 70, 3) := by decide +kernel
theorem qd_136_59 : decode qm136.2.2.1 59 = .ok (.iaload, 1) := by decide +kernel
theorem qd_136_60 : decode qm136.2.2.1 60 = .ok (.istore_n 3, 1) := by decide +kernel
theorem qd_136_61 : decode qm136.2.2.1 61 = .ok (.iload_n 3, 1) := by decide +kernel
theorem qd_136_62 : decode qm136.2.2.1 62 = .ok (.invokestatic 98, 3) := by decide +kernel
theorem qd_136_65 : decode qm136.2.2.1 65 = .ok (.istore 4, 2) := by decide +kernel
theorem qd_136_67 : decode qm136.2.2.1 67 = .ok (.iload_n 3, 1) := by decide +kernel
theorem qd_136_68 : decode qm136.2.2.1 68 = .ok (.iconst 1, 1) := by decide +kernel
theorem qd_136_69 : decode qm136.2.2.1 69 = .ok (.bipush 127, 2) := by decide +kernel
theorem qd_136_71 : decode qm136.2.2.1 71 = .ok (.invokestatic 63, 3) := by decide +kernel
theorem qd_136_74 : decode qm136.2.2.1 74 = .ok (.ifCond .ne 27, 3) := by decide +kernel
theorem qd_136_77 : decode qm136.2.2.1 77 = .ok (.iload_n 3, 1) := by decide +kernel
theorem qd_136_78 : decode qm136.2.2.1 78 = .ok (.sipush 192, 3) := by decide +kernel
theorem qd_136_81 : decode qm136.2.2.1 81 = .ok (.sipush 239, 3) := by decide +kernel
theorem qd_136_84 : decode qm136.2.2.1 84 = .ok (.invokestatic 63, 3) := by decide +kernel
theorem qd_136_87 : decode qm136.2.2.1 87 = .ok (.ifCond .eq 18, 3) := by decide +kernel
theorem qd_136_90 : decode qm136.2.2.1 90 = .ok (.aload_n 0, 1) := by decide +kernel
theorem qd_136_91 : decode qm136.2.2.1 91 = .ok (.getfield 70, 3) := by decide +kernel
theorem qd_136_94 : decode qm136.2.2.1 94 = .ok (.iload 4, 2) := by decide +kernel
theorem qd_136_96 : decode qm136.2.2.1 96 = .ok (.iadd, 1) := by decide +kernel
theorem qd_136_97 : decode qm136.2.2.1 97 = .ok (.iload_n 2, 1) := by decide +kernel
theorem qd_136_98 : decode qm136.2.2.1 98 = .ok (.if_icmp .gt 7, 3) := by decide +kernel
theorem qd_136_101 : decode qm136.2.2.1 101 = .ok (.iconst 1, 1) := by decide +kernel
theorem qd_136_102 : decode qm136.2.2.1 102 = .ok (.goto 4, 3) := by decide +kernel
theorem qd_136_105 : decode qm136.2.2.1 105 = .ok (.iconst 0, 1) := by decide +kernel
theorem qd_136_106 : decode qm136.2.2.1 106 = .ok (.istore 5, 2) := by decide +kernel
theorem qd_136_108 : decode qm136.2.2.1 108 = .ok (.iconst 1, 1) := by decide +kernel
theorem qd_136_109 : decode qm136.2.2.1 109 = .ok (.istore 6, 2) := by decide +kernel
theorem qd_136_111 : decode qm136.2.2.1 111 = .ok (.iload 6, 2) := by decide +kernel
theorem qd_136_113 : decode qm136.2.2.1 113 = .ok (.iload 4, 2) := by decide +kernel
theorem qd_136_115 : decode qm136.2.2.1 115 = .ok (.if_icmp .ge 37, 3) := by decide +kernel
theorem qd_136_118 : decode qm136.2.2.1 118 = .ok (.iload 5, 2) := by decide +kernel
theorem qd_136_120 : decode qm136.2.2.1 120 = .ok (.ifCond .eq 32, 3) := by decide +kernel
theorem qd_136_123 : decode qm136.2.2.1 123 = .ok (.aload_n 0, 1) := by decide +kernel
theorem qd_136_124 : decode qm136.2.2.1 124 = .ok (.getfield 16, 3) := by decide +kernel
theorem qd_136_127 : decode qm136.2.2.1 127 = .ok (.aload_n 0, 1) := by decide +kernel
theorem qd_136_128 : decode qm136.2.2.1 128 = .ok (.getfield 70, 3) := by decide +kernel
theorem qd_136_131 : decode qm136.2.2.1 131 = .ok (.iload 6, 2) := by decide +kernel
theorem qd_136_133 : decode qm136.2.2.1 133 = .ok (.iadd, 1) := by decide +kernel
theorem qd_136_134 : decode qm136.2.2.1 134 = .ok (.iaload, 1) := by decide +kernel
theorem qd_136_135 : decode qm136.2.2.1 135 = .ok (.sipush 128, 3) := by decide +kernel
theorem qd_136_138 : decode qm136.2.2.1 138 = .ok (.sipush 191, 3) := by decide +kernel
theorem qd_136_141 : decode qm136.2.2.1 141 = .ok (.invokestatic 63, 3) := by decide +kernel
theorem qd_136_144 : decode qm136.2.2.1 144 = .ok (.istore 5, 2) := by decide +kernel
theorem qd_136_146 : decode qm136.2.2.1 146 = .ok (.iinc 6 1, 3) := by decide +kernel
theorem qd_136_149 : decode qm136.2.2.1 149 = .ok (.goto (-38), 3) := by decide +kernel
theorem qd_136_152 : decode qm136.2.2.1 152 = .ok (.iload 5, 2) := by decide +kernel
theorem qd_136_154 : decode qm136.2.2.1 154 = .ok (.ifCond .eq 17, 3) := by decide +kernel
theorem qd_136_157 : decode qm136.2.2.1 157 = .ok (.aload_n 0, 1) := by decide +kernel
theorem qd_136_158 : decode qm136.2.2.1 158 = .ok (.dup, 1) := by decide +kernel
theorem qd_136_159 : decode qm136.2.2.1 159 = .ok (.getfield 70, 3) := by decide +kernel
theorem qd_136_162 : decode qm136.2.2.1 162 = .ok (.iload 4, 2) := by decide +kernel
theorem qd_136_164 : decode qm136.2.2.1 164 = .ok (.iadd, 1) := by decide +kernel
theorem qd_136_165 : decode qm136.2.2.1 165 = .ok (.putfield 70, 3) := by decide +kernel
theorem qd_136_168 : decode qm136.2.2.1 168 = .ok (.goto 12, 3) := by decide +kernel
theorem qd_136_171 : decode qm136.2.2.1 171 = .ok (.aload_n 0, 1) := by decide +kernel
theorem qd_136_172 : decode qm136.2.2.1 172 = .ok (.aload_n 0, 1) := by decide +kernel
theorem qd_136_173 : decode qm136.2.2.1 173 = .ok (.getfield 70, 3) := by decide +kernel
theorem qd_136_176 : decode qm136.2.2.1 176 = .ok (.invokevirtual 76, 3) := by decide +kernel
theorem qd_136_179 : decode qm136.2.2.1 179 = .ok (.pop, 1) := by decide +kernel
theorem qd_136_180 : decode qm136.2.2.1 180 = .ok (.goto (-144), 3) := by decide +kernel
theorem qd_136_183 : decode qm136.2.2.1 183 = .ok (.return_, 1) := by decide +kernel
theorem qd_137_0 : decode qm137.2.2.1 0 = .ok (.iload_n 0, 1) := by decide +kernel
theorem qd_137_1 : decode qm137.2.2.1 1 = .ok (.sipush 128, 3) := by decide +kernel
theorem qd_137_4 : decode qm137.2.2.1 4 = .ok (.if_icmp .ge 7, 3) := by decide +kernel
theorem qd_137_7 : decode qm137.2.2.1 7 = .ok (.iconst 1, 1) := by decide +kernel
theorem qd_137_8 : decode qm137.2.2.1 8 = .ok (.goto 15, 3) := by decide +kernel
theorem qd_137_11 : decode qm137.2.2.1 11 = .ok (.iload_n 0, 1) := by decide +kernel
theorem qd_137_12 : decode qm137.2.2.1 12 = .ok (.sipush 224, 3) := by decide +kernel
theorem qd_137_15 : decode qm137.2.2.1 15 = .ok (.if_icmp .ge 7, 3) := by decide +kernel
theorem qd_137_18 : decode qm137.2.2.1 18 = .ok (.iconst 2, 1) := by decide +kernel
theorem qd_137_19 : decode qm137.2.2.1 19 = .ok (.goto 4, 3) := by decide +kernel
theorem qd_137_22 : decode qm137.2.2.1 22 = .ok (.iconst 3, 1) := by decide +kernel
theorem qd_137_23 : decode qm137.2.2.1 23 = .ok (.ireturn, 1) := by decide +kernel
theorem qd_138_0 : decode qm138.2.2.1 0 = .ok (.iconst 1, 1) := by decide +kernel
theorem qd_138_1 : decode qm138.2.2.1 1 = .ok (.istore_n 1, 1) := by decide +kernel
theorem qd_138_2 : decode qm138.2.2.1 2 = .ok (.iload_n 1, 1) := by decide +kernel
theorem qd_138_3 : decode qm138.2.2.1 3 = .ok (.aload_n 0, 1) := by decide +kernel
theorem qd_138_4 : decode qm138.2.2.1 4 = .ok (.getfield 95, 3) := by decide +kernel
theorem qd_138_7 : decode qm138.2.2.1 7 = .ok (.if_icmp .ge 43, 3) := by decide +kernel
theorem qd_138_10 : decode qm138.2.2.1 10 = .ok (.aload_n 0, 1) := by decide +kernel
theorem qd_138_11 : decode qm138.2.2.1 11 = .ok (.invokevirtual 80, 3) := by decide +kernel
theorem qd_138_14 : decode qm138.2.2.1 14 = .ok (.ifCond .eq 36, 3) := by decide +kernel
theorem qd_138_17 : decode qm138.2.2.1 17 = .ok (.aload_n 0, 1) := by decide +kernel
theorem qd_138_18 : decode qm138.2.2.1 18 = .ok (.iload_n 1, 1) := by decide +kernel
theorem qd_138_19 : decode qm138.2.2.1 19 = .ok (.invokevirtual 137, 3) := by decide +kernel
theorem qd_138_22 : decode qm138.2.2.1 22 = .ok (.ifCond .le 22, 3) := by decide +kernel
theorem qd_138_25 : decode qm138.2.2.1 25 = .ok (.aload_n 0, 1) := by decide +kernel
theorem qd_138_26 : decode qm138.2.2.1 26 = .ok (.iload_n 1, 1) := by decide +kernel
theorem qd_138_27 : decode qm138.2.2.1 27 = .ok (.invokevirtual 168, 3) := by decide +kernel
theorem qd_138_30 : decode qm138.2.2.1 30 = .ok (.ifCond .ne 14, 3) := by decide +kernel
theorem qd_138_33 : decode qm138.2.2.1 33 = .ok (.aload_n 0, 1) := by decide +kernel
theorem qd_138_34 : decode qm138.2.2.1 34 = .ok (.aload_n 0, 1) := by decide +kernel
theorem qd_138_35 : decode qm138.2.2.1 35 = .ok (.getfield 23, 3) := by decide +kernel
theorem qd_138_38 : decode qm138.2.2.1 38 = .ok (.iload_n 1, 1) := by decide +kernel
theorem qd_138_39 : decode qm138.2.2.1 39 = .ok (.iaload, 1) := by decide +kernel
theorem qd_138_40 : decode qm138.2.2.1 40 = .ok (.invokevirtual 76, 3) := by decide +kernel
theorem qd_138_43 : decode qm138.2.2.1 43 = .ok (.pop, 1) := by decide +kernel
theorem qd_138_44 : decode qm138.2.2.1 44 = .ok (.iinc 1 1, 3) := by decide +kernel
theorem qd_138_47 : decode qm138.2.2.1 47 = .ok (.goto (-45), 3) := by decide +kernel
theorem qd_138_50 : decode qm138.2.2.1 50 = .ok (.return_, 1) := by decide +kernel
theorem qd_139_0 : decode qm139.2.2.1 0 = .ok (.iload_n 1, 1) := by decide +kernel
theorem qd_139_1 : decode qm139.2.2.1 1 = .ok (.iconst 1, 1) := by decide +kernel
theorem qd_139_2 : decode qm139.2.2.1 2 = .ok (.aload_n 0, 1) := by decide +kernel
theorem qd_139_3 : decode qm139.2.2.1 3 = .ok (.getfield 95, 3) := by decide +kernel
theorem qd_139_6 : decode qm139.2.2.1 6 = .ok (.iconst 1, 1) := by decide +kernel
theorem qd_139_7 : decode qm139.2.2.1 7 = .ok (.isub, 1) := by decide +kernel
theorem qd_139_8 : decode qm139.2.2.1 8 = .ok (.invokestatic 63, 3) := by decide +kernel
theorem qd_139_11 : decode qm139.2.2.1 11 = .ok (.ifCond .eq 26, 3) := by decide +kernel
theorem qd_139_14 : decode qm139.2.2.1 14 = .ok (.aload_n 0, 1) := by decide +kernel
theorem qd_139_15 : decode qm139.2.2.1 15 = .ok (.getfield 23, 3) := by decide +kernel
theorem qd_139_18 : decode qm139.2.2.1 18 = .ok (.iload_n 1, 1) := by decide +kernel
theorem qd_139_19 : decode qm139.2.2.1 19 = .ok (.iaload, 1) := by decide +kernel
theorem qd_139_20 : decode qm139.2.2.1 20 = .ok (.ifCond .lt 17, 3) := by decide +kernel
theorem qd_139_23 : decode qm139.2.2.1 23 = .ok (.aload_n 0, 1) := by decide +kernel
theorem qd_139_24 : decode qm139.2.2.1 24 = .ok (.getfield 16, 3) := by decide +kernel
theorem qd_139_27 : decode qm139.2.2.1 27 = .ok (.aload_n 0, 1) := by decide +kernel
theorem qd_139_28 : decode qm139.2.2.1 28 = .ok (.getfield 23, 3) := by decide +kernel
theorem qd_139_31 : decode qm139.2.2.1 31 = .ok (.iload_n 1, 1) := by decide +kernel
theorem qd_139_32 : decode qm139.2.2.1 32 = .ok (.iaload, 1) := by decide +kernel
theorem qd_139_33 : decode qm139.2.2.1 33 = .ok (.iaload, 1) := by decide +kernel
theorem qd_139_34 : decode qm139.2.2.1 34 = .ok (.goto 4, 3) := by decide +kernel
theorem qd_139_37 : decode qm139.2.2.1 37 = .ok (.iconst 0, 1) := by decide +kernel
theorem qd_139_38 : decode qm139.2.2.1 38 = .ok (.ireturn, 1) := by decide +kernel
theorem qd_140_0 : decode qm140.2.2.1 0 = .ok (.aload_n 0, 1) := by decide +kernel
theorem qd_140_1 : decode qm140.2.2.1 1 = .ok (.iload_n 1, 1) := by decide +kernel
theorem qd_140_2 : decode qm140.2.2.1 2 = .ok (.invokevirtual 137, 3) := by decide +kernel
theorem qd_140_5 : decode qm140.2.2.1 5 = .ok (.istore_n 2, 1) := by decide +kernel
theorem qd_140_6 : decode qm140.2.2.1 6 = .ok (.iload_n 2, 1) := by decide +kernel
theorem qd_140_7 : decode qm140.2.2.1 7 = .ok (.bipush 6, 2) := by decide +kernel
theorem qd_140_9 : decode qm140.2.2.1 9 = .ok (.if_icmp .le 11, 3) := by decide +kernel
theorem qd_140_12 : decode qm140.2.2.1 12 = .ok (.aload_n 0, 1) := by decide +kernel
theorem qd_140_13 : decode qm140.2.2.1 13 = .ok (.iload_n 1, 1) := by decide +kernel
theorem qd_140_14 : decode qm140.2.2.1 14 = .ok (.invokevirtual 149, 3) := by decide +kernel
theorem qd_140_17 : decode qm140.2.2.1 17 = .ok (.goto 4, 3) := by decide +kernel
theorem qd_140_20 : decode qm140.2.2.1 20 = .ok (.iconst 0, 1) := by decide +kernel
theorem qd_140_21 : decode qm140.2.2.1 21 = .ok (.istore_n 3, 1) := by decide +kernel
theorem qd_140_22 : decode qm140.2.2.1 22 = .ok (.iload_n 2, 1) := by decide +kernel
theorem qd_140_23 : decode qm140.2.2.1 23 = .ok (.bipush 6, 2) := by decide +kernel
theorem qd_140_25 : decode qm140.2.2.1 25 = .ok (.if_icmp .le 11, 3) := by decide +kernel
theorem qd_140_28 : decode qm140.2.2.1 28 = .ok (.aload_n 0, 1) := by decide +kernel
theorem qd_140_29 : decode qm140.2.2.1 29 = .ok (.iload_n 1, 1) := by decide +kernel
theorem qd_140_30 : decode qm140.2.2.1 30 = .ok (.invokevirtual 140, 3) := by decide +kernel
theorem qd_140_33 : decode qm140.2.2.1 33 = .ok (.goto 4, 3) := by decide +kernel
theorem qd_140_36 : decode qm140.2.2.1 36 = .ok (.iconst 0, 1) := by decide +kernel
theorem qd_140_37 : decode qm140.2.2.1 37 = .ok (.istore 4, 2) := by decide +kernel
theorem qd_140_39 : decode qm140.2.2.1 39 = .ok (.iload_n 2, 1) := by decide +kernel
theorem qd_140_40 : decode qm140.2.2.1 40 = .ok (.tableswitch 361 7 18 #[64, 86, 114, 140, 140, 207, 361, 361, 280, 92, 264, 272], 64) := by decide +kernel
theorem qd_140_104 : decode qm140.2.2.1 104 = .ok (.aload_n 0, 1) := by decide +kernel
theorem qd_140_105 : decode qm140.2.2.1 105 = .ok (.iload_n 3, 1) := by decide +kernel
theorem qd_140_106 : decode qm140.2.2.1 106 = .ok (.invokevirtual 143, 3) := by decide +kernel
theorem qd_140_109 : decode qm140.2.2.1 109 = .ok (.ifCond .eq 15, 3) := by decide +kernel
theorem qd_140_112 : decode qm140.2.2.1 112 = .ok (.aload_n 0, 1) := by decide +kernel
theorem qd_140_113 : decode qm140.2.2.1 113 = .ok (.iload_n 3, 1) := by decide +kernel
theorem qd_140_114 : decode qm140.2.2.1 114 = .ok (.invokevirtual 158, 3) := by decide +kernel
theorem qd_140_117 : decode qm140.2.2.1 117 = .ok (.ifCond .eq 7, 3) := by decide +kernel
theorem qd_140_120 : decode qm140.2.2.1 120 = .ok (.iconst 1, 1) := by decide +kernel
theorem qd_140_121 : decode qm140.2.2.1 121 = .ok (.goto 4, 3) := by decide +kernel
theorem qd_140_124 : decode qm140.2.2.1 124 = .ok (.iconst 0, 1) := by decide +kernel
theorem qd_140_125 : decode qm140.2.2.1 125 = .ok (.ireturn, 1) := by decide +kernel
theorem qd_140_126 : decode qm140.2.2.1 126 = .ok (.aload_n 0, 1) := by decide +kernel
theorem qd_140_127 : decode qm140.2.2.1 127 = .ok (.iload_n 3, 1) := by decide +kernel
theorem qd_140_128 : decode qm140.2.2.1 128 = .ok (.invokevirtual 143, 3) := by decide +kernel
theorem qd_140_131 : decode qm140.2.2.1 131 = .ok (.ireturn, 1) := by decide +kernel
theorem qd_140_132 : decode qm140.2.2.1 132 = .ok (.aload_n 0, 1) := by decide +kernel
theorem qd_140_133 : decode qm140.2.2.1 133 = .ok (.iload_n 3, 1) := by decide +kernel
theorem qd_140_134 : decode qm140.2.2.1 134 = .ok (.invokevirtual 143, 3) := by decide +kernel
theorem qd_140_137 : decode qm140.2.2.1 137 = .ok (.ifCond .eq 15, 3) := by decide +kernel
theorem qd_140_140 : decode qm140.2.2.1 140 = .ok (.aload_n 0, 1) := by decide +kernel
theorem qd_140_141 : decode qm140.2.2.1 141 = .ok (.iload_n 3, 1) := by decide +kernel
theorem qd_140_142 : decode qm140.2.2.1 142 = .ok (.invokevirtual 146, 3) := by decide +kernel
theorem qd_140_145 : decode qm140.2.2.1 145 = .ok (.ifCond .eq 7, 3) := by decide +kernel
theorem qd_140_148 : decode qm140.2.2.1 148 = .ok (.iconst 1, 1) := by decide +kernel
theorem qd_140_149 : decode qm140.2.2.1 149 = .ok (.goto 4, 3) := by decide +kernel
theorem qd_140_152 : decode qm140.2.2.1 152 = .ok (.iconst 0, 1) := by decide +kernel
theorem qd_140_153 : decode qm140.2.2.1 153 = .ok (.ireturn, 1) := by decide +kernel
theorem qd_140_154 : decode qm140.2.2.1 154 = .ok (.aload_n 0, 1) := by decide +kernel
theorem qd_140_155 : decode qm140.2.2.1 155 = .ok (.iload_n 3, 1) := by decide +kernel
theorem qd_140_156 : decode qm140.2.2.1 156 = .ok (.invokevirtual 137, 3) := by decide +kernel
theorem qd_140_159 : decode qm140.2.2.1 159 = .ok (.bipush 7, 2) := by decide +kernel
theorem qd_140_161 : decode qm140.2.2.1 161 = .ok (.if_icmp .ne 17, 3) := by decide +kernel
theorem qd_140_164 : decode qm140.2.2.1 164 = .ok (.aload_n 0, 1) := by decide +kernel
theorem qd_140_165 : decode qm140.2.2.1 165 = .ok (.iload 4, 2) := by decide +kernel
theorem qd_140_167 : decode qm140.2.2.1 167 = .ok (.iconst 0, 1) := by decide +kernel
theorem qd_140_168 : decode qm140.2.2.1 168 = .ok (.invokevirtual 161, 3) := by decide +kernel
theorem qd_140_171 : decode qm140.2.2.1 171 = .ok (.ifCond .eq 7, 3) := by decide +kernel
theorem qd_140_174 : decode qm140.2.2.1 174 = .ok (.iconst 1, 1) := by decide +kernel
theorem qd_140_175 : decode qm140.2.2.1 175 = .ok (.goto 4, 3) := by decide +kernel
theorem qd_140_178 : decode qm140.2.2.1 178 = .ok (.iconst 0, 1) := by decide +kernel
theorem qd_140_179 : decode qm140.2.2.1 179 = .ok (.ireturn, 1) := by decide +kernel
theorem qd_140_180 : decode qm140.2.2.1 180 = .ok (.aload_n 0, 1) := by decide +kernel
theorem qd_140_181 : decode qm140.2.2.1 181 = .ok (.iload_n 3, 1) := by decide +kernel
theorem qd_140_182 : decode qm140.2.2.1 182 = .ok (.invokevirtual 137, 3) := by decide +kernel
theorem qd_140_185 : decode qm140.2.2.1 185 = .ok (.bipush 7, 2) := by decide +kernel
theorem qd_140_187 : decode qm140.2.2.1 187 = .ok (.if_icmp .ne 58, 3) := by decide +kernel
theorem qd_140_190 : decode qm140.2.2.1 190 = .ok (.aload_n 0, 1) := by decide +kernel
theorem qd_140_191 : decode qm140.2.2.1 191 = .ok (.iload 4, 2) := by decide +kernel
theorem qd_140_193 : decode qm140.2.2.1 193 = .ok (.iconst 1, 1) := by decide +kernel
theorem qd_140_194 : decode qm140.2.2.1 194 = .ok (.invokevirtual 161, 3) := by decide +kernel
theorem qd_140_197 : decode qm140.2.2.1 197 = .ok (.ifCond .eq 48, 3) := by decide +kernel
theorem qd_140_200 : decode qm140.2.2.1 200 = .ok (.aload_n 0, 1) := by decide +kernel
theorem qd_140_201 : decode qm140.2.2.1 201 = .ok (.aload_n 0, 1) := by decide +kernel
theorem qd_140_202 : decode qm140.2.2.1 202 = .ok (.iload 4, 2) := by decide +kernel
theorem qd_140_204 : decode qm140.2.2.1 204 = .ok (.invokevirtual 149, 3) := by decide +kernel
theorem qd_140_207 : decode qm140.2.2.1 207 = .ok (.invokevirtual 143, 3) := by decide +kernel
theorem qd_140_210 : decode qm140.2.2.1 210 = .ok (.ifCond .eq 35, 3) := by decide +kernel
theorem qd_140_213 : decode qm140.2.2.1 213 = .ok (.aload_n 0, 1) := by decide +kernel
theorem qd_140_214 : decode qm140.2.2.1 214 = .ok (.aload_n 0, 1) := by decide +kernel
theorem qd_140_215 : decode qm140.2.2.1 215 = .ok (.iload 4, 2) := by decide +kernel
theorem qd_140_217 : decode qm140.2.2.1 217 = .ok (.invokevirtual 149, 3) := by decide +kernel
theorem qd_140_220 : decode qm140.2.2.1 220 = .ok (.invokevirtual 165, 3) := by decide +kernel
theorem qd_140_223 : decode qm140.2.2.1 223 = .ok (.ifCond .eq 22, 3) := by decide +kernel
theorem qd_140_226 : decode qm140.2.2.1 226 = .ok (.aload_n 0, 1) := by decide +kernel
theorem qd_140_227 : decode qm140.2.2.1 227 = .ok (.aload_n 0, 1) := by decide +kernel
theorem qd_140_228 : decode qm140.2.2.1 228 = .ok (.iload 4, 2) := by decide +kernel
theorem qd_140_230 : decode qm140.2.2.1 230 = .ok (.invokevirtual 149, 3) := by decide +kernel
theorem qd_140_233 : decode qm140.2.2.1 233 = .ok (.bipush 10, 2) := by decide +kernel
theorem qd_140_235 : decode qm140.2.2.1 235 = .ok (.invokevirtual 111, 3) := by decide +kernel
theorem qd_140_238 : decode qm140.2.2.1 238 = .ok (.ifCond .ne 7, 3) := by decide +kernel
theorem qd_140_241 : decode qm140.2.2.1 241 = .ok (.iconst 1, 1) := by decide +kernel
theorem qd_140_242 : decode qm140.2.2.1 242 = .ok (.goto 4, 3) := by decide +kernel
theorem qd_140_245 : decode qm140.2.2.1 245 = .ok (.iconst 0, 1) := by decide +kernel
theorem qd_140_246 : decode qm140.2.2.1 246 = .ok (.ireturn, 1) := by decide +kernel
theorem qd_140_247 : decode qm140.2.2.1 247 = .ok (.aload_n 0, 1) := by decide +kernel
theorem qd_140_248 : decode qm140.2.2.1 248 = .ok (.iload_n 3, 1) := by decide +kernel
theorem qd_140_249 : decode qm140.2.2.1 249 = .ok (.invokevirtual 143, 3) := by decide +kernel
theorem qd_140_252 : decode qm140.2.2.1 252 = .ok (.ifCond .eq 50, 3) := by decide +kernel
theorem qd_140_255 : decode qm140.2.2.1 255 = .ok (.aload_n 0, 1) := by decide +kernel
theorem qd_140_256 : decode qm140.2.2.1 256 = .ok (.iload 4, 2) := by decide +kernel
theorem qd_140_258 : decode qm140.2.2.1 258 = .ok (.invokevirtual 143, 3) := by decide +kernel
theorem qd_140_261 : decode qm140.2.2.1 261 = .ok (.ifCond .eq 41, 3) := by decide +kernel
theorem qd_140_264 : decode qm140.2.2.1 264 = .ok (.aload_n 0, 1) := by decide +kernel
theorem qd_140_265 : decode qm140.2.2.1 265 = .ok (.iload_n 3, 1) := by decide +kernel
theorem qd_140_266 : decode qm140.2.2.1 266 = .ok (.invokevirtual 115, 3) := by decide +kernel
theorem qd_140_269 : decode qm140.2.2.1 269 = .ok (.ifCond .ne 11, 3) := by decide +kernel
theorem qd_140_272 : decode qm140.2.2.1 272 = .ok (.aload_n 0, 1) := by decide +kernel
theorem qd_140_273 : decode qm140.2.2.1 273 = .ok (.iload_n 3, 1) := by decide +kernel
theorem qd_140_274 : decode qm140.2.2.1 274 = .ok (.invokevirtual 165, 3) := by decide +kernel
theorem qd_140_277 : decode qm140.2.2.1 277 = .ok (.ifCond .eq 25, 3) := by decide +kernel
theorem qd_140_280 : decode qm140.2.2.1 280 = .ok (.aload_n 0, 1) := by decide +kernel
theorem qd_140_281 : decode qm140.2.2.1 281 = .ok (.iload 4, 2) := by decide +kernel
theorem qd_140_283 : decode qm140.2.2.1 283 = .ok (.invokevirtual 134, 3) := by decide +kernel
theorem qd_140_286 : decode qm140.2.2.1 286 = .ok (.ifCond .ne 12, 3) := by decide +kernel
theorem qd_140_289 : decode qm140.2.2.1 289 = .ok (.aload_n 0, 1) := by decide +kernel
theorem qd_140_290 : decode qm140.2.2.1 290 = .ok (.iload 4, 2) := by decide +kernel
theorem qd_140_292 : decode qm140.2.2.1 292 = .ok (.invokevirtual 146, 3) := by decide +kernel
theorem qd_140_295 : decode qm140.2.2.1 295 = .ok (.ifCond .eq 7, 3) := by decide +kernel
theorem qd_140_298 : decode qm140.2.2.1 298 = .ok (.iconst 1, 1) := by decide +kernel
theorem qd_140_299 : decode qm140.2.2.1 299 = .ok (.goto 4, 3) := by decide +kernel
theorem qd_140_302 : decode qm140.2.2.1 302 = .ok (.iconst 0, 1) := by decide +kernel
theorem qd_140_303 : decode qm140.2.2.1 303 = .ok (.ireturn, 1) := by decide +kernel
theorem qd_140_304 : decode qm140.2.2.1 304 = .ok (.aload_n 0, 1) := by decide +kernel
theorem qd_140_305 : decode qm140.2.2.1 305 = .ok (.iload 4, 2) := by decide +kernel
theorem qd_140_307 : decode qm140.2.2.1 307 = .ok (.iconst 0, 1) := by decide +kernel
theorem qd_140_308 : decode qm140.2.2.1 308 = .ok (.invokevirtual 161, 3) := by decide +kernel
theorem qd_140_311 : decode qm140.2.2.1 311 = .ok (.ireturn, 1) := by decide +kernel
theorem qd_140_312 : decode qm140.2.2.1 312 = .ok (.aload_n 0, 1) := by decide +kernel
theorem qd_140_313 : decode qm140.2.2.1 313 = .ok (.iload 4, 2) := by decide +kernel
theorem qd_140_315 : decode qm140.2.2.1 315 = .ok (.iconst 1, 1) := by decide +kernel
theorem qd_140_316 : decode qm140.2.2.1 316 = .ok (.invokevirtual 161, 3) := by decide +kernel
theorem qd_140_319 : decode qm140.2.2.1 319 = .ok (.ireturn, 1) := by decide +kernel
theorem qd_140_320 : decode qm140.2.2.1 320 = .ok (.aload_n 0, 1) := by decide +kernel
theorem qd_140_321 : decode qm140.2.2.1 321 = .ok (.iload 4, 2) := by decide +kernel
theorem qd_140_323 : decode qm140.2.2.1 323 = .ok (.invokevirtual 137, 3) := by decide +kernel
theorem qd_140_326 : decode qm140.2.2.1 326 = .ok (.istore 5, 2) := by decide +kernel
theorem qd_140_328 : decode qm140.2.2.1 328 = .ok (.iload_n 3, 1) := by decide +kernel
theorem qd_140_329 : decode qm140.2.2.1 329 = .ok (.iconst 1, 1) := by decide +kernel
theorem qd_140_330 : decode qm140.2.2.1 330 = .ok (.bipush 9, 2) := by decide +kernel
theorem qd_140_332 : decode qm140.2.2.1 332 = .ok (.invokestatic 63, 3) := by decide +kernel
theorem qd_140_335 : decode qm140.2.2.1 335 = .ok (.ifCond .eq 64, 3) := by decide +kernel
theorem qd_140_338 : decode qm140.2.2.1 338 = .ok (.iload_n 3, 1) := by decide +kernel
theorem qd_140_339 : decode qm140.2.2.1 339 = .ok (.iconst 5, 1) := by decide +kernel
theorem qd_140_340 : decode qm140.2.2.1 340 = .ok (.if_icmp .ge 13, 3) := by decide +kernel
theorem qd_140_343 : decode qm140.2.2.1 343 = .ok (.iload 5, 2) := by decide +kernel
theorem qd_140_345 : decode qm140.2.2.1 345 = .ok (.bipush 9, 2) := by decide +kernel
theorem qd_140_347 : decode qm140.2.2.1 347 = .ok (.if_icmp .ne 52, 3) := by decide +kernel
theorem qd_140_350 : decode qm140.2.2.1 350 = .ok (.goto 45, 3) := by decide +kernel
theorem qd_140_353 : decode qm140.2.2.1 353 = .ok (.iload_n 3, 1) := by decide +kernel
theorem qd_140_354 : decode qm140.2.2.1 354 = .ok (.bipush 9, 2) := by decide +kernel
theorem qd_140_356 : decode qm140.2.2.1 356 = .ok (.if_icmp .ne 13, 3) := by decide +kernel
theorem qd_140_359 : decode qm140.2.2.1 359 = .ok (.iload 5, 2) := by decide +kernel
theorem qd_140_361 : decode qm140.2.2.1 361 = .ok (.bipush 11, 2) := by decide +kernel
theorem qd_140_363 : decode qm140.2.2.1 363 = .ok (.if_icmp .ne 36, 3) := by decide +kernel
theorem qd_140_366 : decode qm140.2.2.1 366 = .ok (.goto 29, 3) := by decide +kernel
theorem qd_140_369 : decode qm140.2.2.1 369 = .ok (.iload 5, 2) := by decide +kernel
theorem qd_140_371 : decode qm140.2.2.1 371 = .ok (.bipush 10, 2) := by decide +kernel
theorem qd_140_373 : decode qm140.2.2.1 373 = .ok (.if_icmp .eq 22, 3) := by decide +kernel
theorem qd_140_376 : decode qm140.2.2.1 376 = .ok (.iload_n 3, 1) := by decide +kernel
theorem qd_140_377 : decode qm140.2.2.1 377 = .ok (.bipush 6, 2) := by decide +kernel
theorem qd_140_379 : decode qm140.2.2.1 379 = .ok (.if_icmp .eq 9, 3) := by decide +kernel
theorem qd_140_382 : decode qm140.2.2.1 382 = .ok (.iload_n 3, 1) := by decide +kernel
theorem qd_140_383 : decode qm140.2.2.1 383 = .ok (.bipush 7, 2) := by decide +kernel
theorem qd_140_385 : decode qm140.2.2.1 385 = .ok (.if_icmp .ne 14, 3) := by decide +kernel
theorem qd_140_388 : decode qm140.2.2.1 388 = .ok (.iload 5, 2) := by decide +kernel
theorem qd_140_390 : decode qm140.2.2.1 390 = .ok (.bipush 11, 2) := by decide +kernel
theorem qd_140_392 : decode qm140.2.2.1 392 = .ok (.if_icmp .ne 7, 3) := by decide +kernel
theorem qd_140_395 : decode qm140.2.2.1 395 = .ok (.iconst 1, 1) := by decide +kernel
theorem qd_140_396 : decode qm140.2.2.1 396 = .ok (.goto 4, 3) := by decide +kernel
theorem qd_140_399 : decode qm140.2.2.1 399 = .ok (.iconst 0, 1) := by decide +kernel
theorem qd_140_400 : decode qm140.2.2.1 400 = .ok (.ireturn, 1) := by decide +kernel
theorem qd_140_401 : decode qm140.2.2.1 401 = .ok (.iconst 1, 1) := by decide +kernel
theorem qd_140_402 : decode qm140.2.2.1 402 = .ok (.ireturn, 1) := by decide +kernel
theorem qd_141_0 : decode qm141.2.2.1 0 = .ok (.aload_n 0, 1) := by decide +kernel
theorem qd_141_1 : decode qm141.2.2.1 1 = .ok (.getfield 16, 3) := by decide +kernel
theorem qd_141_4 : decode qm141.2.2.1 4 = .ok (.aload_n 0, 1) := by decide +kernel
theorem qd_141_5 : decode qm141.2.2.1 5 = .ok (.getfield 23, 3) := by decide +kernel
theorem qd_141_8 : decode qm141.2.2.1 8 = .ok (.iload_n 1, 1) := by decide +kernel
theorem qd_141_9 : decode qm141.2.2.1 9 = .ok (.iaload, 1) := by decide +kernel
theorem qd_141_10 : decode qm141.2.2.1 10 = .ok (.iaload, 1) := by decide +kernel
theorem qd_141_11 : decode qm141.2.2.1 11 = .ok (.bipush 15, 2) := by decide +kernel
theorem qd_141_13 : decode qm141.2.2.1 13 = .ok (.if_icmp .ne 19, 3) := by decide +kernel
theorem qd_141_16 : decode qm141.2.2.1 16 = .ok (.aload_n 0, 1) := by decide +kernel
theorem qd_141_17 : decode qm141.2.2.1 17 = .ok (.getfield 16, 3) := by decide +kernel
theorem qd_141_20 : decode qm141.2.2.1 20 = .ok (.aload_n 0, 1) := by decide +kernel
theorem qd_141_21 : decode qm141.2.2.1 21 = .ok (.getfield 23, 3) := by decide +kernel
theorem qd_141_24 : decode qm141.2.2.1 24 = .ok (.iload_n 1, 1) := by decide +kernel
theorem qd_141_25 : decode qm141.2.2.1 25 = .ok (.iaload, 1) := by decide +kernel
theorem qd_141_26 : decode qm141.2.2.1 26 = .ok (.iconst 1, 1) := by decide +kernel
theorem qd_141_27 : decode qm141.2.2.1 27 = .ok (.iadd, 1) := by decide +kernel
theorem qd_141_28 : decode qm141.2.2.1 28 = .ok (.iaload, 1) := by decide +kernel
theorem qd_141_29 : decode qm141.2.2.1 29 = .ok (.goto 15, 3) := by decide +kernel
theorem qd_141_32 : decode qm141.2.2.1 32 = .ok (.aload_n 0, 1) := by decide +kernel
theorem qd_141_33 : decode qm141.2.2.1 33 = .ok (.aload_n 0, 1) := by decide +kernel
theorem qd_141_34 : decode qm141.2.2.1 34 = .ok (.getfield 23, 3) := by decide +kernel
theorem qd_141_37 : decode qm141.2.2.1 37 = .ok (.iload_n 1, 1) := by decide +kernel
theorem qd_141_38 : decode qm141.2.2.1 38 = .ok (.iaload, 1) := by decide +kernel
theorem qd_141_39 : decode qm141.2.2.1 39 = .ok (.iconst 1, 1) := by decide +kernel
theorem qd_141_40 : decode qm141.2.2.1 40 = .ok (.iadd, 1) := by decide +kernel
theorem qd_141_41 : decode qm141.2.2.1 41 = .ok (.invokevirtual 91, 3) := by decide +kernel
theorem qd_141_44 : decode qm141.2.2.1 44 = .ok (.ireturn, 1) := by decide +kernel
theorem qd_142_0 : decode qm142.2.2.1 0 = .ok (.aload_n 0, 1) := by decide +kernel
theorem qd_142_1 : decode qm142.2.2.1 1 = .ok (.getfield 16, 3) := by decide +kernel
theorem qd_142_4 : decode qm142.2.2.1 4 = .ok (.iload_n 1, 1) := by decide +kernel
theorem qd_142_5 : decode qm142.2.2.1 5 = .ok (.iaload, 1) := by decide +kernel
theorem qd_142_6 : decode qm142.2.2.1 6 = .ok (.bipush 8, 2) := by decide +kernel
theorem qd_142_8 : decode qm142.2.2.1 8 = .ok (.ishl, 1) := by decide +kernel
theorem qd_142_9 : decode qm142.2.2.1 9 = .ok (.aload_n 0, 1) := by decide +kernel
theorem qd_142_10 : decode qm142.2.2.1 10 = .ok (.getfield 16, 3) := by decide +kernel
theorem qd_142_13 : decode qm142.2.2.1 13 = .ok (.iload_n 1, 1) := by decide +kernel
theorem qd_142_14 : decode qm142.2.2.1 14 = .ok (.iconst 1, 1) := by decide +kernel
theorem qd_142_15 : decode qm142.2.2.1 15 = .ok (.iadd, 1) := by decide +kernel
theorem qd_142_16 : decode qm142.2.2.1 16 = .ok (.iaload, 1) := by decide +kernel
theorem qd_142_17 : decode qm142.2.2.1 17 = .ok (.ior, 1) := by decide +kernel
theorem qd_142_18 : decode qm142.2.2.1 18 = .ok (.ireturn, 1) := by decide +kernel
theorem qd_143_0 : decode qm143.2.2.1 0 = .ok (.aload_n 0, 1) := by decide +kernel
theorem qd_143_1 : decode qm143.2.2.1 1 = .ok (.getfield 16, 3) := by decide +kernel
theorem qd_143_4 : decode qm143.2.2.1 4 = .ok (.aload_n 0, 1) := by decide +kernel
theorem qd_143_5 : decode qm143.2.2.1 5 = .ok (.getfield 23, 3) := by decide +kernel
theorem qd_143_8 : decode qm143.2.2.1 8 = .ok (.iload_n 1, 1) := by decide +kernel
theorem qd_143_9 : decode qm143.2.2.1 9 = .ok (.iaload, 1) := by decide +kernel
theorem qd_143_10 : decode qm143.2.2.1 10 = .ok (.iaload, 1) := by decide +kernel
theorem qd_143_11 : decode qm143.2.2.1 11 = .ok (.istore_n 2, 1) := by decide +kernel
theorem qd_143_12 : decode qm143.2.2.1 12 = .ok (.iload_n 2, 1) := by decide +kernel
theorem qd_143_13 : decode qm143.2.2.1 13 = .ok (.bipush 15, 2) := by decide +kernel
theorem qd_143_15 : decode qm143.2.2.1 15 = .ok (.if_icmp .ne 16, 3) := by decide +kernel
theorem qd_143_18 : decode qm143.2.2.1 18 = .ok (.aload_n 0, 1) := by decide +kernel
theorem qd_143_19 : decode qm143.2.2.1 19 = .ok (.aload_n 0, 1) := by decide +kernel
theorem qd_143_20 : decode qm143.2.2.1 20 = .ok (.getfield 23, 3) := by decide +kernel
theorem qd_143_23 : decode qm143.2.2.1 23 = .ok (.iload_n 1, 1) := by decide +kernel
theorem qd_143_24 : decode qm143.2.2.1 24 = .ok (.iaload, 1) := by decide +kernel
theorem qd_143_25 : decode qm143.2.2.1 25 = .ok (.iconst 2, 1) := by decide +kernel
theorem qd_143_26 : decode qm143.2.2.1 26 = .ok (.iadd, 1) := by decide +kernel
theorem qd_143_27 : decode qm143.2.2.1 27 = .ok (.invokevirtual 91, 3) := by decide +kernel
theorem qd_143_30 : decode qm143.2.2.1 30 = .ok (.ireturn, 1) := by decide +kernel
theorem qd_143_31 : decode qm143.2.2.1 31 = .ok (.iload_n 2, 1) := by decide +kernel
theorem qd_143_32 : decode qm143.2.2.1 32 = .ok (.bipush 8, 2) := by decide +kernel
theorem qd_143_34 : decode qm143.2.2.1 34 = .ok (.if_icmp .le 24, 3) := by decide +kernel
theorem qd_143_37 : decode qm143.2.2.1 37 = .ok (.iload_n 2, 1) := by decide +kernel
theorem qd_143_38 : decode qm143.2.2.1 38 = .ok (.bipush 16, 2) := by decide +kernel
theorem qd_143_40 : decode qm143.2.2.1 40 = .ok (.if_icmp .eq 18, 3) := by decide +kernel
theorem qd_143_43 : decode qm143.2.2.1 43 = .ok (.aload_n 0, 1) := by decide +kernel
theorem qd_143_44 : decode qm143.2.2.1 44 = .ok (.aload_n 0, 1) := by decide +kernel
theorem qd_143_45 : decode qm143.2.2.1 45 = .ok (.getfield 23, 3) := by decide +kernel
theorem qd_143_48 : decode qm143.2.2.1 48 = .ok (.iload_n 1, 1) := by decide +kernel
theorem qd_143_49 : decode qm143.2.2.1 49 = .ok (.iaload, 1) := by decide +kernel
theorem qd_143_50 : decode qm143.2.2.1 50 = .ok (.iconst 3, 1) := by decide +kernel
theorem qd_143_51 : decode qm143.2.2.1 51 = .ok (.iadd, 1) := by decide +kernel
theorem qd_143_52 : decode qm143.2.2.1 52 = .ok (.invokevirtual 91, 3) := by decide +kernel
theorem qd_143_55 : decode qm143.2.2.1 55 = .ok (.goto 4, 3) := by decide +kernel
theorem qd_143_58 : decode qm143.2.2.1 58 = .ok (.iconst 0, 1) := by decide +kernel
theorem qd_143_59 : decode qm143.2.2.1 59 = .ok (.ireturn, 1) := by decide +kernel
theorem qd_144_0 : decode qm144.2.2.1 0 = .ok (.aload_n 0, 1) := by decide +kernel
theorem qd_144_1 : decode qm144.2.2.1 1 = .ok (.iload_n 1, 1) := by decide +kernel
theorem qd_144_2 : decode qm144.2.2.1 2 = .ok (.invokevirtual 137, 3) := by decide +kernel
theorem qd_144_5 : decode qm144.2.2.1 5 = .ok (.iconst 1, 1) := by decide +kernel
theorem qd_144_6 : decode qm144.2.2.1 6 = .ok (.if_icmp .ne 7, 3) := by decide +kernel
theorem qd_144_9 : decode qm144.2.2.1 9 = .ok (.iconst 1, 1) := by decide +kernel
theorem qd_144_10 : decode qm144.2.2.1 10 = .ok (.goto 4, 3) := by decide +kernel
theorem qd_144_13 : decode qm144.2.2.1 13 = .ok (.iconst 0, 1) := by decide +kernel
theorem qd_144_14 : decode qm144.2.2.1 14 = .ok (.ireturn, 1) := by decide +kernel
theorem qd_145_0 : decode qm145.2.2.1 0 = .ok (.aload_n 0, 1) := by decide +kernel
theorem qd_145_1 : decode qm145.2.2.1 1 = .ok (.iload_n 1, 1) := by decide +kernel
theorem qd_145_2 : decode qm145.2.2.1 2 = .ok (.iconst 0, 1) := by decide +kernel
theorem qd_145_3 : decode qm145.2.2.1 3 = .ok (.invokevirtual 107, 3) := by decide +kernel
theorem qd_145_6 : decode qm145.2.2.1 6 = .ok (.bipush 91, 2) := by decide +kernel
theorem qd_145_8 : decode qm145.2.2.1 8 = .ok (.if_icmp .ne 11, 3) := by decide +kernel
theorem qd_145_11 : decode qm145.2.2.1 11 = .ok (.aload_n 0, 1) := by decide +kernel
theorem qd_145_12 : decode qm145.2.2.1 12 = .ok (.iload_n 1, 1) := by decide +kernel
theorem qd_145_13 : decode qm145.2.2.1 13 = .ok (.invokevirtual 134, 3) := by decide +kernel
theorem qd_145_16 : decode qm145.2.2.1 16 = .ok (.goto 18, 3) := by decide +kernel
theorem qd_145_19 : decode qm145.2.2.1 19 = .ok (.aload_n 0, 1) := by decide +kernel
theorem qd_145_20 : decode qm145.2.2.1 20 = .ok (.iload_n 1, 1) := by decide +kernel
theorem qd_145_21 : decode qm145.2.2.1 21 = .ok (.iconst 0, 1) := by decide +kernel
theorem qd_145_22 : decode qm145.2.2.1 22 = .ok (.iconst 0, 1) := by decide +kernel
theorem qd_145_23 : decode qm145.2.2.1 23 = .ok (.invokevirtual 121, 3) := by decide +kernel
theorem qd_145_26 : decode qm145.2.2.1 26 = .ok (.ifCond .le 7, 3) := by decide +kernel
theorem qd_145_29 : decode qm145.2.2.1 29 = .ok (.iconst 1, 1) := by decide +kernel
theorem qd_145_30 : decode qm145.2.2.1 30 = .ok (.goto 4, 3) := by decide +kernel
theorem qd_145_33 : decode qm145.2.2.1 33 = .ok (.iconst 0, 1) := by decide +kernel
theorem qd_145_34 : decode qm145.2.2.1 34 = .ok (.ireturn, 1) := by decide +kernel
theorem qd_146_0 : decode qm146.2.2.1 0 = .ok (.aload_n 0, 1) := by decide +kernel
theorem qd_146_1 : decode qm146.2.2.1 1 = .ok (.getfield 23, 3) := by decide +kernel
theorem qd_146_4 : decode qm146.2.2.1 4 = .ok (.iload_n 1, 1) := by decide +kernel
theorem qd_146_5 : decode qm146.2.2.1 5 = .ok (.iaload, 1) := by decide +kernel
theorem qd_146_6 : decode qm146.2.2.1 6 = .ok (.iconst 3, 1) := by decide +kernel
theorem qd_146_7 : decode qm146.2.2.1 7 = .ok (.iadd, 1) := by decide +kernel
theorem qd_146_8 : decode qm146.2.2.1 8 = .ok (.istore_n 3, 1) := by decide +kernel
theorem qd_146_9 : decode qm146.2.2.1 9 = .ok (.iload_n 3, 1) := by decide +kernel
theorem qd_146_10 : decode qm146.2.2.1 10 = .ok (.aload_n 0, 1) := by decide +kernel
theorem qd_146_11 : decode qm146.2.2.1 11 = .ok (.aload_n 0, 1) := by decide +kernel
theorem qd_146_12 : decode qm146.2.2.1 12 = .ok (.getfield 23, 3) := by decide +kernel
theorem qd_146_15 : decode qm146.2.2.1 15 = .ok (.iload_n 1, 1) := by decide +kernel
theorem qd_146_16 : decode qm146.2.2.1 16 = .ok (.iaload, 1) := by decide +kernel
theorem qd_146_17 : decode qm146.2.2.1 17 = .ok (.iconst 1, 1) := by decide +kernel
theorem qd_146_18 : decode qm146.2.2.1 18 = .ok (.iadd, 1) := by decide +kernel
theorem qd_146_19 : decode qm146.2.2.1 19 = .ok (.invokevirtual 91, 3) := by decide +kernel
theorem qd_146_22 : decode qm146.2.2.1 22 = .ok (.iadd, 1) := by decide +kernel
theorem qd_146_23 : decode qm146.2.2.1 23 = .ok (.istore 4, 2) := by decide +kernel
theorem qd_146_25 : decode qm146.2.2.1 25 = .ok (.iconst 0, 1) := by decide +kernel
theorem qd_146_26 : decode qm146.2.2.1 26 = .ok (.istore 5, 2) := by decide +kernel
theorem qd_146_28 : decode qm146.2.2.1 28 = .ok (.iload 5, 2) := by decide +kernel
theorem qd_146_30 : decode qm146.2.2.1 30 = .ok (.iload_n 2, 1) := by decide +kernel
theorem qd_146_31 : decode qm146.2.2.1 31 = .ok (.if_icmp .ge 27, 3) := by decide +kernel
theorem qd_146_34 : decode qm146.2.2.1 34 = .ok (.iload_n 3, 1) := by decide +kernel
theorem qd_146_35 : decode qm146.2.2.1 35 = .ok (.iload 4, 2) := by decide +kernel
theorem qd_146_37 : decode qm146.2.2.1 37 = .ok (.if_icmp .ge 21, 3) := by decide +kernel
theorem qd_146_40 : decode qm146.2.2.1 40 = .ok (.iload_n 3, 1) := by decide +kernel
theorem qd_146_41 : decode qm146.2.2.1 41 = .ok (.aload_n 0, 1) := by decide +kernel
theorem qd_146_42 : decode qm146.2.2.1 42 = .ok (.getfield 16, 3) := by decide +kernel
theorem qd_146_45 : decode qm146.2.2.1 45 = .ok (.iload_n 3, 1) := by decide +kernel
theorem qd_146_46 : decode qm146.2.2.1 46 = .ok (.iaload, 1) := by decide +kernel
theorem qd_146_47 : decode qm146.2.2.1 47 = .ok (.invokestatic 98, 3) := by decide +kernel
theorem qd_146_50 : decode qm146.2.2.1 50 = .ok (.iadd, 1) := by decide +kernel
theorem qd_146_51 : decode qm146.2.2.1 51 = .ok (.istore_n 3, 1) := by decide +kernel
theorem qd_146_52 : decode qm146.2.2.1 52 = .ok (.iinc 5 1, 3) := by decide +kernel
theorem qd_146_55 : decode qm146.2.2.1 55 = .ok (.goto (-27), 3) := by decide +kernel
theorem qd_146_58 : decode qm146.2.2.1 58 = .ok (.iload_n 3, 1) := by decide +kernel
theorem qd_146_59 : decode qm146.2.2.1 59 = .ok (.iload 4, 2) := by decide +kernel
theorem qd_146_61 : decode qm146.2.2.1 61 = .ok (.if_icmp .lt 5, 3) := by decide +kernel
theorem qd_146_64 : decode qm146.2.2.1 64 = .ok (.iconst (-1), 1) := by decide +kernel
theorem qd_146_65 : decode qm146.2.2.1 65 = .ok (.ireturn, 1) := by decide +kernel
theorem qd_146_66 : decode qm146.2.2.1 66 = .ok (.aload_n 0, 1) := by decide +kernel
theorem qd_146_67 : decode qm146.2.2.1 67 = .ok (.getfield 16, 3) := by decide +kernel
theorem qd_146_70 : decode qm146.2.2.1 70 = .ok (.iload_n 3, 1) := by decide +kernel
theorem qd_146_71 : decode qm146.2.2.1 71 = .ok (.iaload, 1) := by decide +kernel
theorem qd_146_72 : decode qm146.2.2.1 72 = .ok (.istore 5, 2) := by decide +kernel
theorem qd_146_74 : decode qm146.2.2.1 74 = .ok (.iload 5, 2) := by decide +kernel
theorem qd_146_76 : decode qm146.2.2.1 76 = .ok (.invokestatic 98, 3) := by decide +kernel
theorem qd_146_79 : decode qm146.2.2.1 79 = .ok (.istore 6, 2) := by decide +kernel
theorem qd_146_81 : decode qm146.2.2.1 81 = .ok (.iload 6, 2) := by decide +kernel
theorem qd_146_83 : decode qm146.2.2.1 83 = .ok (.iconst 1, 1) := by decide +kernel
theorem qd_146_84 : decode qm146.2.2.1 84 = .ok (.if_icmp .ne 8, 3) := by decide +kernel
theorem qd_146_87 : decode qm146.2.2.1 87 = .ok (.iload 5, 2) := by decide +kernel
theorem qd_146_89 : decode qm146.2.2.1 89 = .ok (.goto 68, 3) := by decide +kernel
theorem qd_146_92 : decode qm146.2.2.1 92 = .ok (.iload 6, 2) := by decide +kernel
theorem qd_146_94 : decode qm146.2.2.1 94 = .ok (.iconst 2, 1) := by decide +kernel
theorem qd_146_95 : decode qm146.2.2.1 95 = .ok (.if_icmp .ne 26, 3) := by decide +kernel
theorem qd_146_98 : decode qm146.2.2.1 98 = .ok (.iload 5, 2) := by decide +kernel
theorem qd_146_100 : decode qm146.2.2.1 100 = .ok (.bipush 31, 2) := by decide +kernel
theorem qd_146_102 : decode qm146.2.2.1 102 = .ok (.iand, 1) := by decide +kernel
theorem qd_146_103 : decode qm146.2.2.1 103 = .ok (.bipush 64, 2) := by decide +kernel
theorem qd_146_105 : decode qm146.2.2.1 105 = .ok (.imul, 1) := by decide +kernel
theorem qd_146_106 : decode qm146.2.2.1 106 = .ok (.aload_n 0, 1) := by decide +kernel
theorem qd_146_107 : decode qm146.2.2.1 107 = .ok (.getfield 16, 3) := by decide +kernel
theorem qd_146_110 : decode qm146.2.2.1 110 = .ok (.iload_n 3, 1) := by decide +kernel
theorem qd_146_111 : decode qm146.2.2.1 111 = .ok (.iconst 1, 1) := by decide +kernel
theorem qd_146_112 : decode qm146.2.2.1 112 = .ok (.iadd, 1) := by decide +kernel
theorem qd_146_113 : decode qm146.2.2.1 113 = .ok (.iaload, 1) := by decide +kernel
theorem qd_146_114 : decode qm146.2.2.1 114 = .ok (.bipush 63, 2) := by decide +kernel
theorem qd_146_116 : decode qm146.2.2.1 116 = .ok (.iand, 1) := by decide +kernel
theorem qd_146_117 : decode qm146.2.2.1 117 = .ok (.iadd, 1) := by decide +kernel
theorem qd_146_118 : decode qm146.2.2.1 118 = .ok (.goto 39, 3) := by decide +kernel
theorem qd_146_121 : decode qm146.2.2.1 121 = .ok (.iload 5, 2) := by decide +kernel
theorem qd_146_123 : decode qm146.2.2.1 123 = .ok (.bipush 15, 2) := by decide +kernel
theorem qd_146_125 : decode qm146.2.2.1 125 = .ok (.iand, 1) := by decide +kernel
theorem qd_146_126 : decode qm146.2.2.1 126 = .ok (.sipush 4096, 3) := by decide +kernel
theorem qd_146_129 : decode qm146.2.2.1 129 = .ok (.imul, 1) := by decide +kernel
theorem qd_146_130 : decode qm146.2.2.1 130 = .ok (.aload_n 0, 1) := by decide +kernel
theorem qd_146_131 : decode qm146.2.2.1 131 = .ok (.getfield 16, 3) := by decide +kernel
theorem qd_146_134 : decode qm146.2.2.1 134 = .ok (.iload_n 3, 1) := by decide +kernel
theorem qd_146_135 : decode qm146.2.2.1 135 = .ok (.iconst 1, 1) := by decide +kernel
theorem qd_146_136 : decode qm146.2.2.1 136 = .ok (.iadd, 1) := by decide +kernel
theorem qd_146_137 : decode qm146.2.2.1 137 = .ok (.iaload, 1) := by decide +kernel
theorem qd_146_138 : decode qm146.2.2.1 138 = .ok (.bipush 63, 2) := by decide +kernel
theorem qd_146_140 : decode qm146.2.2.1 140 = .ok (.iand, 1) := by decide +kernel
theorem qd_146_141 : decode qm146.2.2.1 141 = .ok (.bipush 64, 2) := by decide +kernel
theorem qd_146_143 : decode qm146.2.2.1 143 = .ok (.imul, 1) := by decide +kernel
theorem qd_146_144 : decode qm146.2.2.1 144 = .ok (.iadd, 1) := by decide +kernel
theorem qd_146_145 : decode qm146.2.2.1 145 = .ok (.aload_n 0, 1) := by decide +kernel
theorem qd_146_146 : decode qm146.2.2.1 146 = .ok (.getfield 16, 3) := by decide +kernel
theorem qd_146_149 : decode qm146.2.2.1 149 = .ok (.iload_n 3, 1) := by decide +kernel
theorem qd_146_150 : decode qm146.2.2.1 150 = .ok (.iconst 2, 1) := by decide +kernel
theorem qd_146_151 : decode qm146.2.2.1 151 = .ok (.iadd, 1) := by decide +kernel
theorem qd_146_152 : decode qm146.2.2.1 152 = .ok (.iaload, 1) := by decide +kernel
theorem qd_146_153 : decode qm146.2.2.1 153 = .ok (.bipush 63, 2) := by decide +kernel
theorem qd_146_155 : decode qm146.2.2.1 155 = .ok (.iand, 1) := by decide +kernel
theorem qd_146_156 : decode qm146.2.2.1 156 = .ok (.iadd, 1) := by decide +kernel
theorem qd_146_157 : decode qm146.2.2.1 157 = .ok (.ireturn, 1) := by decide +kernel
theorem qd_147_0 : decode qm147.2.2.1 0 = .ok (.aload_n 0, 1) := by decide +kernel
theorem qd_147_1 : decode qm147.2.2.1 1 = .ok (.iload_n 1, 1) := by decide +kernel
theorem qd_147_2 : decode qm147.2.2.1 2 = .ok (.iconst 0, 1) := by decide +kernel
theorem qd_147_3 : decode qm147.2.2.1 3 = .ok (.invokevirtual 125, 3) := by decide +kernel
theorem qd_147_6 : decode qm147.2.2.1 6 = .ok (.istore_n 2, 1) := by decide +kernel
theorem qd_147_7 : decode qm147.2.2.1 7 = .ok (.iload_n 2, 1) := by decide +kernel
theorem qd_147_8 : decode qm147.2.2.1 8 = .ok (.ifCond .le 16, 3) := by decide +kernel
theorem qd_147_11 : decode qm147.2.2.1 11 = .ok (.iload_n 2, 1) := by decide +kernel
theorem qd_147_12 : decode qm147.2.2.1 12 = .ok (.aload_n 0, 1) := by decide +kernel
theorem qd_147_13 : decode qm147.2.2.1 13 = .ok (.iload_n 1, 1) := by decide +kernel
theorem qd_147_14 : decode qm147.2.2.1 14 = .ok (.invokevirtual 104, 3) := by decide +kernel
theorem qd_147_17 : decode qm147.2.2.1 17 = .ok (.if_icmp .ne 7, 3) := by decide +kernel
theorem qd_147_20 : decode qm147.2.2.1 20 = .ok (.iconst 1, 1) := by decide +kernel
theorem qd_147_21 : decode qm147.2.2.1 21 = .ok (.goto 4, 3) := by decide +kernel
theorem qd_147_24 : decode qm147.2.2.1 24 = .ok (.iconst 0, 1) := by decide +kernel
theorem qd_147_25 : decode qm147.2.2.1 25 = .ok (.ireturn, 1) := by decide +kernel
theorem qd_148_0 : decode qm148.2.2.1 0 = .ok (.iload_n 2, 1) := by decide +kernel
theorem qd_148_1 : decode qm148.2.2.1 1 = .ok (.istore_n 3, 1) := by decide +kernel
theorem qd_148_2 : decode qm148.2.2.1 2 = .ok (.aload_n 0, 1) := by decide +kernel
theorem qd_148_3 : decode qm148.2.2.1 3 = .ok (.iload_n 1, 1) := by decide +kernel
theorem qd_148_4 : decode qm148.2.2.1 4 = .ok (.iload_n 3, 1) := by decide +kernel
theorem qd_148_5 : decode qm148.2.2.1 5 = .ok (.invokevirtual 107, 3) := by decide +kernel
theorem qd_148_8 : decode qm148.2.2.1 8 = .ok (.bipush 91, 2) := by decide +kernel
theorem qd_148_10 : decode qm148.2.2.1 10 = .ok (.if_icmp .ne 9, 3) := by decide +kernel
theorem qd_148_13 : decode qm148.2.2.1 13 = .ok (.iinc 3 1, 3) := by decide +kernel
theorem qd_148_16 : decode qm148.2.2.1 16 = .ok (.goto (-14), 3) := by decide +kernel
theorem qd_148_19 : decode qm148.2.2.1 19 = .ok (.aload_n 0, 1) := by decide +kernel
theorem qd_148_20 : decode qm148.2.2.1 20 = .ok (.iload_n 1, 1) := by decide +kernel
theorem qd_148_21 : decode qm148.2.2.1 21 = .ok (.iload_n 3, 1) := by decide +kernel
theorem qd_148_22 : decode qm148.2.2.1 22 = .ok (.invokevirtual 107, 3) := by decide +kernel
theorem qd_148_25 : decode qm148.2.2.1 25 = .ok (.istore 4, 2) := by decide +kernel
theorem qd_148_27 : decode qm148.2.2.1 27 = .ok (.iload 4, 2) := by decide +kernel
theorem qd_148_29 : decode qm148.2.2.1 29 = .ok (.invokestatic 118, 3) := by decide +kernel
theorem qd_148_32 : decode qm148.2.2.1 32 = .ok (.ifCond .lt 7, 3) := by decide +kernel
theorem qd_148_35 : decode qm148.2.2.1 35 = .ok (.iload_n 3, 1) := by decide +kernel
theorem qd_148_36 : decode qm148.2.2.1 36 = .ok (.iconst 1, 1) := by decide +kernel
theorem qd_148_37 : decode qm148.2.2.1 37 = .ok (.iadd, 1) := by decide +kernel
theorem qd_148_38 : decode qm148.2.2.1 38 = .ok (.ireturn, 1) := by decide +kernel
theorem qd_148_39 : decode qm148.2.2.1 39 = .ok (.iload 4, 2) := by decide +kernel
theorem qd_148_41 : decode qm148.2.2.1 41 = .ok (.bipush 76, 2) := by decide +kernel
theorem qd_148_43 : decode qm148.2.2.1 43 = .ok (.if_icmp .eq 5, 3) := by decide +kernel
theorem qd_148_46 : decode qm148.2.2.1 46 = .ok (.iconst (-1), 1) := by decide +kernel
theorem qd_148_47 : decode qm148.2.2.1 47 = .ok (.ireturn, 1) := by decide +kernel
theorem qd_148_48 : decode qm148.2.2.1 48 = .ok (.aload_n 0, 1) := by decide +kernel
theorem qd_148_49 : decode qm148.2.2.1 49 = .ok (.iload_n 1, 1) := by decide +kernel
theorem qd_148_50 : decode qm148.2.2.1 50 = .ok (.iload_n 3, 1) := by decide +kernel
theorem qd_148_51 : decode qm148.2.2.1 51 = .ok (.iconst 1, 1) := by decide +kernel
theorem qd_148_52 : decode qm148.2.2.1 52 = .ok (.iadd, 1) := by decide +kernel
theorem qd_148_53 : decode qm148.2.2.1 53 = .ok (.bipush 59, 2) := by decide +kernel
theorem qd_148_55 : decode qm148.2.2.1 55 = .ok (.invokevirtual 121, 3) := by decide +kernel
theorem qd_148_58 : decode qm148.2.2.1 58 = .ok (.istore 5, 2) := by decide +kernel
theorem qd_148_60 : decode qm148.2.2.1 60 = .ok (.iload 5, 2) := by decide +kernel
theorem qd_148_62 : decode qm148.2.2.1 62 = .ok (.ifCond .ge 7, 3) := by decide +kernel
theorem qd_148_65 : decode qm148.2.2.1 65 = .ok (.iconst (-1), 1) := by decide +kernel
theorem qd_148_66 : decode qm148.2.2.1 66 = .ok (.goto 7, 3) := by decide +kernel
theorem qd_148_69 : decode qm148.2.2.1 69 = .ok (.iload 5, 2) := by decide +kernel
theorem qd_148_71 : decode qm148.2.2.1 71 = .ok (.iconst 1, 1) := by decide +kernel
theorem qd_148_72 : decode qm148.2.2.1 72 = .ok (.iadd, 1) := by decide +kernel
theorem qd_148_73 : decode qm148.2.2.1 73 = .ok (.ireturn, 1) := by decide +kernel
theorem qd_149_0 : decode qm149.2.2.1 0 = .ok (.iload_n 0, 1) := by decide +kernel
theorem qd_149_1 : decode qm149.2.2.1 1 = .ok (.tableswitch 133 66 90 #[115, 117, 119, 133, 121, 133, 133, 123, 125, 133, 133, 133, 133, 133, 133, 133, 133, 127, 133, 133, 133, 133, 133, 133, 130], 115) := by decide +kernel
theorem qd_149_116 : decode qm149.2.2.1 116 = .ok (.iconst 0, 1) := by decide +kernel
theorem qd_149_117 : decode qm149.2.2.1 117 = .ok (.ireturn, 1) := by decide +kernel
theorem qd_149_118 : decode qm149.2.2.1 118 = .ok (.iconst 1, 1) := by decide +kernel
theorem qd_149_119 : decode qm149.2.2.1 119 = .ok (.ireturn, 1) := by decide +kernel
theorem qd_149_120 : decode qm149.2.2.1 120 = .ok (.iconst 2, 1) := by decide +kernel
theorem qd_149_121 : decode qm149.2.2.1 121 = .ok (.ireturn, 1) := by decide +kernel
theorem qd_149_122 : decode qm149.2.2.1 122 = .ok (.iconst 3, 1) := by decide +kernel
theorem qd_149_123 : decode qm149.2.2.1 123 = .ok (.ireturn, 1) := by decide +kernel
theorem qd_149_124 : decode qm149.2.2.1 124 = .ok (.iconst 4, 1) := by decide +kernel
theorem qd_149_125 : decode qm149.2.2.1 125 = .ok (.ireturn, 1) := by decide +kernel
theorem qd_149_126 : decode qm149.2.2.1 126 = .ok (.iconst 5, 1) := by decide +kernel
theorem qd_149_127 : decode qm149.2.2.1 127 = .ok (.ireturn, 1) := by decide +kernel
theorem qd_149_128 : decode qm149.2.2.1 128 = .ok (.bipush 6, 2) := by decide +kernel
theorem qd_149_130 : decode qm149.2.2.1 130 = .ok (.ireturn, 1) := by decide +kernel
theorem qd_149_131 : decode qm149.2.2.1 131 = .ok (.bipush 7, 2) := by decide +kernel
theorem qd_149_133 : decode qm149.2.2.1 133 = .ok (.ireturn, 1) := by decide +kernel
theorem qd_149_134 : decode qm149.2.2.1 134 = .ok (.iconst (-1), 1) := by decide +kernel
theorem qd_149_135 : decode qm149.2.2.1 135 = .ok (.ireturn, 1) := by decide +kernel
theorem qd_150_0 : decode qm150.2.2.1 0 = .ok (.iload_n 2, 1) := by decide +kernel
theorem qd_150_1 : decode qm150.2.2.1 1 = .ok (.istore 4, 2) := by decide +kernel
theorem qd_150_3 : decode qm150.2.2.1 3 = .ok (.iconst 0, 1) := by decide +kernel
theorem qd_150_4 : decode qm150.2.2.1 4 = .ok (.istore 5, 2) := by decide +kernel
theorem qd_150_6 : decode qm150.2.2.1 6 = .ok (.aload_n 0, 1) := by decide +kernel
theorem qd_150_7 : decode qm150.2.2.1 7 = .ok (.iload_n 1, 1) := by decide +kernel
theorem qd_150_8 : decode qm150.2.2.1 8 = .ok (.iload 4, 2) := by decide +kernel
theorem qd_150_10 : decode qm150.2.2.1 10 = .ok (.invokevirtual 107, 3) := by decide +kernel
theorem qd_150_13 : decode qm150.2.2.1 13 = .ok (.istore 6, 2) := by decide +kernel
theorem qd_150_15 : decode qm150.2.2.1 15 = .ok (.iload 6, 2) := by decide +kernel
theorem qd_150_17 : decode qm150.2.2.1 17 = .ok (.iload_n 3, 1) := by decide +kernel
theorem qd_150_18 : decode qm150.2.2.1 18 = .ok (.ifCond .ne 7, 3) := by decide +kernel
theorem qd_150_21 : decode qm150.2.2.1 21 = .ok (.iconst (-1), 1) := by decide +kernel
theorem qd_150_22 : decode qm150.2.2.1 22 = .ok (.goto 4, 3) := by decide +kernel
theorem qd_150_25 : decode qm150.2.2.1 25 = .ok (.iload_n 3, 1) := by decide +kernel
theorem qd_150_26 : decode qm150.2.2.1 26 = .ok (.if_icmp .ne 15, 3) := by decide +kernel
theorem qd_150_29 : decode qm150.2.2.1 29 = .ok (.iload 5, 2) := by decide +kernel
theorem qd_150_31 : decode qm150.2.2.1 31 = .ok (.ifCond .le 8, 3) := by decide +kernel
theorem qd_150_34 : decode qm150.2.2.1 34 = .ok (.iload 4, 2) := by decide +kernel
theorem qd_150_36 : decode qm150.2.2.1 36 = .ok (.goto 4, 3) := by decide +kernel
theorem qd_150_39 : decode qm150.2.2.1 39 = .ok (.iconst (-1), 1) := by decide +kernel
theorem qd_150_40 : decode qm150.2.2.1 40 = .ok (.ireturn, 1) := by decide +kernel
theorem qd_150_41 : decode qm150.2.2.1 41 = .ok (.iload 6, 2) := by decide +kernel
theorem qd_150_43 : decode qm150.2.2.1 43 = .ok (.ifCond .lt 36, 3) := by decide +kernel
theorem qd_150_46 : decode qm150.2.2.1 46 = .ok (.iload 6, 2) := by decide +kernel
theorem qd_150_48 : decode qm150.2.2.1 48 = .ok (.bipush 46, 2) := by decide +kernel
theorem qd_150_50 : decode qm150.2.2.1 50 = .ok (.if_icmp .eq 29, 3) := by decide +kernel
theorem qd_150_53 : decode qm150.2.2.1 53 = .ok (.iload 6, 2) := by decide +kernel
theorem qd_150_55 : decode qm150.2.2.1 55 = .ok (.bipush 59, 2) := by decide +kernel
theorem qd_150_57 : decode qm150.2.2.1 57 = .ok (.if_icmp .eq 22, 3) := by decide +kernel
theorem qd_150_60 : decode qm150.2.2.1 60 = .ok (.iload 6, 2) := by decide +kernel
theorem qd_150_62 : decode qm150.2.2.1 62 = .ok (.bipush 91, 2) := by decide +kernel
theorem qd_150_64 : decode qm150.2.2.1 64 = .ok (.if_icmp .eq 15, 3) := by decide +kernel
theorem qd_150_67 : decode qm150.2.2.1 67 = .ok (.iload 6, 2) := by decide +kernel
theorem qd_150_69 : decode qm150.2.2.1 69 = .ok (.bipush 47, 2) := by decide +kernel
theorem qd_150_71 : decode qm150.2.2.1 71 = .ok (.if_icmp .ne 10, 3) := by decide +kernel
theorem qd_150_74 : decode qm150.2.2.1 74 = .ok (.iload 5, 2) := by decide +kernel
theorem qd_150_76 : decode qm150.2.2.1 76 = .ok (.ifCond .ne 5, 3) := by decide +kernel
theorem qd_150_79 : decode qm150.2.2.1 79 = .ok (.iconst (-1), 1) := by decide +kernel
theorem qd_150_80 : decode qm150.2.2.1 80 = .ok (.ireturn, 1) := by decide +kernel
theorem qd_150_81 : decode qm150.2.2.1 81 = .ok (.iload 6, 2) := by decide +kernel
theorem qd_150_83 : decode qm150.2.2.1 83 = .ok (.bipush 47, 2) := by decide +kernel
theorem qd_150_85 : decode qm150.2.2.1 85 = .ok (.if_icmp .ne 7, 3) := by decide +kernel
theorem qd_150_88 : decode qm150.2.2.1 88 = .ok (.iconst 0, 1) := by decide +kernel
theorem qd_150_89 : decode qm150.2.2.1 89 = .ok (.goto 7, 3) := by decide +kernel
theorem qd_150_92 : decode qm150.2.2.1 92 = .ok (.iload 5, 2) := by decide +kernel
theorem qd_150_94 : decode qm150.2.2.1 94 = .ok (.iconst 1, 1) := by decide +kernel
theorem qd_150_95 : decode qm150.2.2.1 95 = .ok (.iadd, 1) := by decide +kernel
theorem qd_150_96 : decode qm150.2.2.1 96 = .ok (.istore 5, 2) := by decide +kernel
theorem qd_150_98 : decode qm150.2.2.1 98 = .ok (.iinc 4 1, 3) := by decide +kernel
theorem qd_150_101 : decode qm150.2.2.1 101 = .ok (.goto (-95), 3) := by decide +kernel
theorem qd_151_0 : decode qm151.2.2.1 0 = .ok (.iconst 0, 1) := by decide +kernel
theorem qd_151_1 : decode qm151.2.2.1 1 = .ok (.istore_n 2, 1) := by decide +kernel
theorem qd_151_2 : decode qm151.2.2.1 2 = .ok (.aload_n 0, 1) := by decide +kernel
theorem qd_151_3 : decode qm151.2.2.1 3 = .ok (.getfield 23, 3) := by decide +kernel
theorem qd_151_6 : decode qm151.2.2.1 6 = .ok (.iload_n 1, 1) := by decide +kernel
theorem qd_151_7 : decode qm151.2.2.1 7 = .ok (.iaload, 1) := by decide +kernel
theorem qd_151_8 : decode qm151.2.2.1 8 = .ok (.iconst 3, 1) := by decide +kernel
theorem qd_151_9 : decode qm151.2.2.1 9 = .ok (.iadd, 1) := by decide +kernel
theorem qd_151_10 : decode qm151.2.2.1 10 = .ok (.aload_n 0, 1) := by decide +kernel
theorem qd_151_11 : decode qm151.2.2.1 11 = .ok (.aload_n 0, 1) := by decide +kernel
theorem qd_151_12 : decode qm151.2.2.1 12 = .ok (.getfield 23, 3) := by decide +kernel
theorem qd_151_15 : decode qm151.2.2.1 15 = .ok (.iload_n 1, 1) := by decide +kernel
theorem qd_151_16 : decode qm151.2.2.1 16 = .ok (.iaload, 1) := by decide +kernel
theorem qd_151_17 : decode qm151.2.2.1 17 = .ok (.iconst 1, 1) := by decide +kernel
theorem qd_151_18 : decode qm151.2.2.1 18 = .ok (.iadd, 1) := by decide +kernel
theorem qd_151_19 : decode qm151.2.2.1 19 = .ok (.invokevirtual 91, 3) := by decide +kernel
theorem qd_151_22 : decode qm151.2.2.1 22 = .ok (.iadd, 1) := by decide +kernel
theorem qd_151_23 : decode qm151.2.2.1 23 = .ok (.istore_n 3, 1) := by decide +kernel
theorem qd_151_24 : decode qm151.2.2.1 24 = .ok (.aload_n 0, 1) := by decide +kernel
theorem qd_151_25 : decode qm151.2.2.1 25 = .ok (.getfield 23, 3) := by decide +kernel
theorem qd_151_28 : decode qm151.2.2.1 28 = .ok (.iload_n 1, 1) := by decide +kernel
theorem qd_151_29 : decode qm151.2.2.1 29 = .ok (.iaload, 1) := by decide +kernel
theorem qd_151_30 : decode qm151.2.2.1 30 = .ok (.iconst 3, 1) := by decide +kernel
theorem qd_151_31 : decode qm151.2.2.1 31 = .ok (.iadd, 1) := by decide +kernel
theorem qd_151_32 : decode qm151.2.2.1 32 = .ok (.istore 4, 2) := by decide +kernel
theorem qd_151_34 : decode qm151.2.2.1 34 = .ok (.iload 4, 2) := by decide +kernel
theorem qd_151_36 : decode qm151.2.2.1 36 = .ok (.iload_n 3, 1) := by decide +kernel
theorem qd_151_37 : decode qm151.2.2.1 37 = .ok (.if_icmp .ge 24, 3) := by decide +kernel
theorem qd_151_40 : decode qm151.2.2.1 40 = .ok (.iinc 2 1, 3) := by decide +kernel
theorem qd_151_43 : decode qm151.2.2.1 43 = .ok (.iload 4, 2) := by decide +kernel
theorem qd_151_45 : decode qm151.2.2.1 45 = .ok (.aload_n 0, 1) := by decide +kernel
theorem qd_151_46 : decode qm151.2.2.1 46 = .ok (.getfield 16, 3) := by decide +kernel
theorem qd_151_49 : decode qm151.2.2.1 49 = .ok (.iload 4, 2) := by decide +kernel
theorem qd_151_51 : decode qm151.2.2.1 51 = .ok (.iaload, 1) := by decide +kernel
theorem qd_151_52 : decode qm151.2.2.1 52 = .ok (.invokestatic 98, 3) := by decide +kernel
theorem qd_151_55 : decode qm151.2.2.1 55 = .ok (.iadd, 1) := by decide +kernel
theorem qd_151_56 : decode qm151.2.2.1 56 = .ok (.istore 4, 2) := by decide +kernel
theorem qd_151_58 : decode qm151.2.2.1 58 = .ok (.goto (-24), 3) := by decide +kernel
theorem qd_151_61 : decode qm151.2.2.1 61 = .ok (.iload_n 2, 1) := by decide +kernel
theorem qd_151_62 : decode qm151.2.2.1 62 = .ok (.ireturn, 1) := by decide +kernel
theorem qd_152_0 : decode qm152.2.2.1 0 = .ok (.aload_n 0, 1) := by decide +kernel
theorem qd_152_1 : decode qm152.2.2.1 1 = .ok (.iconst 0, 1) := by decide +kernel
theorem qd_152_2 : decode qm152.2.2.1 2 = .ok (.putfield 128, 3) := by decide +kernel
theorem qd_152_5 : decode qm152.2.2.1 5 = .ok (.aload_n 0, 1) := by decide +kernel
theorem qd_152_6 : decode qm152.2.2.1 6 = .ok (.iload_n 1, 1) := by decide +kernel
theorem qd_152_7 : decode qm152.2.2.1 7 = .ok (.iconst 0, 1) := by decide +kernel
theorem qd_152_8 : decode qm152.2.2.1 8 = .ok (.invokevirtual 107, 3) := by decide +kernel
theorem qd_152_11 : decode qm152.2.2.1 11 = .ok (.bipush 40, 2) := by decide +kernel
theorem qd_152_13 : decode qm152.2.2.1 13 = .ok (.if_icmp .eq 5, 3) := by decide +kernel
theorem qd_152_16 : decode qm152.2.2.1 16 = .ok (.iconst 0, 1) := by decide +kernel
theorem qd_152_17 : decode qm152.2.2.1 17 = .ok (.ireturn, 1) := by decide +kernel
theorem qd_152_18 : decode qm152.2.2.1 18 = .ok (.iconst 1, 1) := by decide +kernel
theorem qd_152_19 : decode qm152.2.2.1 19 = .ok (.istore_n 2, 1) := by decide +kernel
theorem qd_152_20 : decode qm152.2.2.1 20 = .ok (.iload_n 2, 1) := by decide +kernel
theorem qd_152_21 : decode qm152.2.2.1 21 = .ok (.ifCond .le 57, 3) := by decide +kernel
theorem qd_152_24 : decode qm152.2.2.1 24 = .ok (.aload_n 0, 1) := by decide +kernel
theorem qd_152_25 : decode qm152.2.2.1 25 = .ok (.iload_n 1, 1) := by decide +kernel
theorem qd_152_26 : decode qm152.2.2.1 26 = .ok (.iload_n 2, 1) := by decide +kernel
theorem qd_152_27 : decode qm152.2.2.1 27 = .ok (.invokevirtual 107, 3) := by decide +kernel
theorem qd_152_30 : decode qm152.2.2.1 30 = .ok (.bipush 41, 2) := by decide +kernel
theorem qd_152_32 : decode qm152.2.2.1 32 = .ok (.if_icmp .eq 46, 3) := by decide +kernel
theorem qd_152_35 : decode qm152.2.2.1 35 = .ok (.aload_n 0, 1) := by decide +kernel
theorem qd_152_36 : decode qm152.2.2.1 36 = .ok (.iload_n 1, 1) := by decide +kernel
theorem qd_152_37 : decode qm152.2.2.1 37 = .ok (.iload_n 2, 1) := by decide +kernel
theorem qd_152_38 : decode qm152.2.2.1 38 = .ok (.invokevirtual 107, 3) := by decide +kernel
theorem qd_152_41 : decode qm152.2.2.1 41 = .ok (.istore_n 3, 1) := by decide +kernel
theorem qd_152_42 : decode qm152.2.2.1 42 = .ok (.aload_n 0, 1) := by decide +kernel
theorem qd_152_43 : decode qm152.2.2.1 43 = .ok (.dup, 1) := by decide +kernel
theorem qd_152_44 : decode qm152.2.2.1 44 = .ok (.getfield 128, 3) := by decide +kernel
theorem qd_152_47 : decode qm152.2.2.1 47 = .ok (.iload_n 3, 1) := by decide +kernel
theorem qd_152_48 : decode qm152.2.2.1 48 = .ok (.bipush 74, 2) := by decide +kernel
theorem qd_152_50 : decode qm152.2.2.1 50 = .ok (.if_icmp .eq 9, 3) := by decide +kernel
theorem qd_152_53 : decode qm152.2.2.1 53 = .ok (.iload_n 3, 1) := by decide +kernel
theorem qd_152_54 : decode qm152.2.2.1 54 = .ok (.bipush 68, 2) := by decide +kernel
theorem qd_152_56 : decode qm152.2.2.1 56 = .ok (.if_icmp .ne 7, 3) := by decide +kernel
theorem qd_152_59 : decode qm152.2.2.1 59 = .ok (.iconst 2, 1) := by decide +kernel
theorem qd_152_60 : decode qm152.2.2.1 60 = .ok (.goto 4, 3) := by decide +kernel
theorem qd_152_63 : decode qm152.2.2.1 63 = .ok (.iconst 1, 1) := by decide +kernel
theorem qd_152_64 : decode qm152.2.2.1 64 = .ok (.iadd, 1) := by decide +kernel
theorem qd_152_65 : decode qm152.2.2.1 65 = .ok (.putfield 128, 3) := by decide +kernel
theorem qd_152_68 : decode qm152.2.2.1 68 = .ok (.aload_n 0, 1) := by decide +kernel
theorem qd_152_69 : decode qm152.2.2.1 69 = .ok (.iload_n 1, 1) := by decide +kernel
theorem qd_152_70 : decode qm152.2.2.1 70 = .ok (.iload_n 2, 1) := by decide +kernel
theorem qd_152_71 : decode qm152.2.2.1 71 = .ok (.invokevirtual 125, 3) := by decide +kernel
theorem qd_152_74 : decode qm152.2.2.1 74 = .ok (.istore_n 2, 1) := by decide +kernel
theorem qd_152_75 : decode qm152.2.2.1 75 = .ok (.goto (-55), 3) := by decide +kernel
theorem qd_152_78 : decode qm152.2.2.1 78 = .ok (.iload_n 2, 1) := by decide +kernel
theorem qd_152_79 : decode qm152.2.2.1 79 = .ok (.ifCond .ge 5, 3) := by decide +kernel
theorem qd_152_82 : decode qm152.2.2.1 82 = .ok (.iconst 0, 1) := by decide +kernel
theorem qd_152_83 : decode qm152.2.2.1 83 = .ok (.ireturn, 1) := by decide +kernel
theorem qd_152_84 : decode qm152.2.2.1 84 = .ok (.aload_n 0, 1) := by decide +kernel
theorem qd_152_85 : decode qm152.2.2.1 85 = .ok (.iload_n 2, 1) := by decide +kernel
theorem qd_152_86 : decode qm152.2.2.1 86 = .ok (.putfield 131, 3) := by decide +kernel
theorem qd_152_89 : decode qm152.2.2.1 89 = .ok (.aload_n 0, 1) := by decide +kernel
theorem qd_152_90 : decode qm152.2.2.1 90 = .ok (.iload_n 1, 1) := by decide +kernel
theorem qd_152_91 : decode qm152.2.2.1 91 = .ok (.iload_n 2, 1) := by decide +kernel
theorem qd_152_92 : decode qm152.2.2.1 92 = .ok (.iconst 1, 1) := by decide +kernel
theorem qd_152_93 : decode qm152.2.2.1 93 = .ok (.iadd, 1) := by decide +kernel
theorem qd_152_94 : decode qm152.2.2.1 94 = .ok (.invokevirtual 107, 3) := by decide +kernel
theorem qd_152_97 : decode qm152.2.2.1 97 = .ok (.bipush 86, 2) := by decide +kernel
theorem qd_152_99 : decode qm152.2.2.1 99 = .ok (.if_icmp .ne 9, 3) := by decide +kernel
theorem qd_152_102 : decode qm152.2.2.1 102 = .ok (.iload_n 2, 1) := by decide +kernel
theorem qd_152_103 : decode qm152.2.2.1 103 = .ok (.iconst 2, 1) := by decide +kernel
theorem qd_152_104 : decode qm152.2.2.1 104 = .ok (.iadd, 1) := by decide +kernel
theorem qd_152_105 : decode qm152.2.2.1 105 = .ok (.goto 11, 3) := by decide +kernel
theorem qd_152_108 : decode qm152.2.2.1 108 = .ok (.aload_n 0, 1) := by decide +kernel
theorem qd_152_109 : decode qm152.2.2.1 109 = .ok (.iload_n 1, 1) := by decide +kernel
theorem qd_152_110 : decode qm152.2.2.1 110 = .ok (.iload_n 2, 1) := by decide +kernel
theorem qd_152_111 : decode qm152.2.2.1 111 = .ok (.iconst 1, 1) := by decide +kernel
theorem qd_152_112 : decode qm152.2.2.1 112 = .ok (.iadd, 1) := by decide +kernel
theorem qd_152_113 : decode qm152.2.2.1 113 = .ok (.invokevirtual 125, 3) := by decide +kernel
theorem qd_152_116 : decode qm152.2.2.1 116 = .ok (.istore_n 3, 1) := by decide +kernel
theorem qd_152_117 : decode qm152.2.2.1 117 = .ok (.iload_n 3, 1) := by decide +kernel
theorem qd_152_118 : decode qm152.2.2.1 118 = .ok (.ifCond .le 16, 3) := by decide +kernel
theorem qd_152_121 : decode qm152.2.2.1 121 = .ok (.iload_n 3, 1) := by decide +kernel
theorem qd_152_122 : decode qm152.2.2.1 122 = .ok (.aload_n 0, 1) := by decide +kernel
theorem qd_152_123 : decode qm152.2.2.1 123 = .ok (.iload_n 1, 1) := by decide +kernel
theorem qd_152_124 : decode qm152.2.2.1 124 = .ok (.invokevirtual 104, 3) := by decide +kernel
theorem qd_152_127 : decode qm152.2.2.1 127 = .ok (.if_icmp .ne 7, 3) := by decide +kernel
theorem qd_152_130 : decode qm152.2.2.1 130 = .ok (.iconst 1, 1) := by decide +kernel
theorem qd_152_131 : decode qm152.2.2.1 131 = .ok (.goto 4, 3) := by decide +kernel
theorem qd_152_134 : decode qm152.2.2.1 134 = .ok (.iconst 0, 1) := by decide +kernel
theorem qd_152_135 : decode qm152.2.2.1 135 = .ok (.ireturn, 1) := by decide +kernel
theorem qd_153_0 : decode qm153.2.2.1 0 = .ok (.aload_n 0, 1) := by decide +kernel
theorem qd_153_1 : decode qm153.2.2.1 1 = .ok (.iload_n 1, 1) := by decide +kernel
theorem qd_153_2 : decode qm153.2.2.1 2 = .ok (.invokevirtual 137, 3) := by decide +kernel
theorem qd_153_5 : decode qm153.2.2.1 5 = .ok (.bipush 12, 2) := by decide +kernel
theorem qd_153_7 : decode qm153.2.2.1 7 = .ok (.if_icmp .eq 5, 3) := by decide +kernel
theorem qd_153_10 : decode qm153.2.2.1 10 = .ok (.iconst 0, 1) := by decide +kernel
theorem qd_153_11 : decode qm153.2.2.1 11 = .ok (.ireturn, 1) := by decide +kernel
theorem qd_153_12 : decode qm153.2.2.1 12 = .ok (.aload_n 0, 1) := by decide +kernel
theorem qd_153_13 : decode qm153.2.2.1 13 = .ok (.iload_n 1, 1) := by decide +kernel
theorem qd_153_14 : decode qm153.2.2.1 14 = .ok (.invokevirtual 140, 3) := by decide +kernel
theorem qd_153_17 : decode qm153.2.2.1 17 = .ok (.istore_n 3, 1) := by decide +kernel
theorem qd_153_18 : decode qm153.2.2.1 18 = .ok (.aload_n 0, 1) := by decide +kernel
theorem qd_153_19 : decode qm153.2.2.1 19 = .ok (.iload_n 3, 1) := by decide +kernel
theorem qd_153_20 : decode qm153.2.2.1 20 = .ok (.invokevirtual 143, 3) := by decide +kernel
theorem qd_153_23 : decode qm153.2.2.1 23 = .ok (.ifCond .eq 30, 3) := by decide +kernel
theorem qd_153_26 : decode qm153.2.2.1 26 = .ok (.iload_n 2, 1) := by decide +kernel
theorem qd_153_27 : decode qm153.2.2.1 27 = .ok (.ifCond .eq 14, 3) := by decide +kernel
theorem qd_153_30 : decode qm153.2.2.1 30 = .ok (.aload_n 0, 1) := by decide +kernel
theorem qd_153_31 : decode qm153.2.2.1 31 = .ok (.iload_n 3, 1) := by decide +kernel
theorem qd_153_32 : decode qm153.2.2.1 32 = .ok (.invokevirtual 146, 3) := by decide +kernel
theorem qd_153_35 : decode qm153.2.2.1 35 = .ok (.ifCond .eq 18, 3) := by decide +kernel
theorem qd_153_38 : decode qm153.2.2.1 38 = .ok (.goto 11, 3) := by decide +kernel
theorem qd_153_41 : decode qm153.2.2.1 41 = .ok (.aload_n 0, 1) := by decide +kernel
theorem qd_153_42 : decode qm153.2.2.1 42 = .ok (.iload_n 3, 1) := by decide +kernel
theorem qd_153_43 : decode qm153.2.2.1 43 = .ok (.invokevirtual 134, 3) := by decide +kernel
theorem qd_153_46 : decode qm153.2.2.1 46 = .ok (.ifCond .eq 7, 3) := by decide +kernel
theorem qd_153_49 : decode qm153.2.2.1 49 = .ok (.iconst 1, 1) := by decide +kernel
theorem qd_153_50 : decode qm153.2.2.1 50 = .ok (.goto 4, 3) := by decide +kernel
theorem qd_153_53 : decode qm153.2.2.1 53 = .ok (.iconst 0, 1) := by decide +kernel
theorem qd_153_54 : decode qm153.2.2.1 54 = .ok (.ireturn, 1) := by decide +kernel
theorem qd_154_0 : decode qm154.2.2.1 0 = .ok (.aload_n 0, 1) := by decide +kernel
theorem qd_154_1 : decode qm154.2.2.1 1 = .ok (.iload_n 1, 1) := by decide +kernel
theorem qd_154_2 : decode qm154.2.2.1 2 = .ok (.bipush 9, 2) := by decide +kernel
theorem qd_154_4 : decode qm154.2.2.1 4 = .ok (.invokevirtual 111, 3) := by decide +kernel
theorem qd_154_7 : decode qm154.2.2.1 7 = .ok (.ifCond .ne 13, 3) := by decide +kernel
theorem qd_154_10 : decode qm154.2.2.1 10 = .ok (.aload_n 0, 1) := by decide +kernel
theorem qd_154_11 : decode qm154.2.2.1 11 = .ok (.iload_n 1, 1) := by decide +kernel
theorem qd_154_12 : decode qm154.2.2.1 12 = .ok (.bipush 10, 2) := by decide +kernel
theorem qd_154_14 : decode qm154.2.2.1 14 = .ok (.invokevirtual 111, 3) := by decide +kernel
theorem qd_154_17 : decode qm154.2.2.1 17 = .ok (.ifCond .eq 5, 3) := by decide +kernel
theorem qd_154_20 : decode qm154.2.2.1 20 = .ok (.iconst 1, 1) := by decide +kernel
theorem qd_154_21 : decode qm154.2.2.1 21 = .ok (.ireturn, 1) := by decide +kernel
theorem qd_154_22 : decode qm154.2.2.1 22 = .ok (.aload_n 0, 1) := by decide +kernel
theorem qd_154_23 : decode qm154.2.2.1 23 = .ok (.iload_n 1, 1) := by decide +kernel
theorem qd_154_24 : decode qm154.2.2.1 24 = .ok (.invokevirtual 104, 3) := by decide +kernel
theorem qd_154_27 : decode qm154.2.2.1 27 = .ok (.istore_n 2, 1) := by decide +kernel
theorem qd_154_28 : decode qm154.2.2.1 28 = .ok (.iconst 0, 1) := by decide +kernel
theorem qd_154_29 : decode qm154.2.2.1 29 = .ok (.istore_n 3, 1) := by decide +kernel
theorem qd_154_30 : decode qm154.2.2.1 30 = .ok (.iload_n 3, 1) := by decide +kernel
theorem qd_154_31 : decode qm154.2.2.1 31 = .ok (.iload_n 2, 1) := by decide +kernel
theorem qd_154_32 : decode qm154.2.2.1 32 = .ok (.if_icmp .ge 33, 3) := by decide +kernel
theorem qd_154_35 : decode qm154.2.2.1 35 = .ok (.aload_n 0, 1) := by decide +kernel
theorem qd_154_36 : decode qm154.2.2.1 36 = .ok (.iload_n 1, 1) := by decide +kernel
theorem qd_154_37 : decode qm154.2.2.1 37 = .ok (.iload_n 3, 1) := by decide +kernel
theorem qd_154_38 : decode qm154.2.2.1 38 = .ok (.invokevirtual 107, 3) := by decide +kernel
theorem qd_154_41 : decode qm154.2.2.1 41 = .ok (.bipush 60, 2) := by decide +kernel
theorem qd_154_43 : decode qm154.2.2.1 43 = .ok (.if_icmp .eq 14, 3) := by decide +kernel
theorem qd_154_46 : decode qm154.2.2.1 46 = .ok (.aload_n 0, 1) := by decide +kernel
theorem qd_154_47 : decode qm154.2.2.1 47 = .ok (.iload_n 1, 1) := by decide +kernel
theorem qd_154_48 : decode qm154.2.2.1 48 = .ok (.iload_n 3, 1) := by decide +kernel
theorem qd_154_49 : decode qm154.2.2.1 49 = .ok (.invokevirtual 107, 3) := by decide +kernel
theorem qd_154_52 : decode qm154.2.2.1 52 = .ok (.bipush 62, 2) := by decide +kernel
theorem qd_154_54 : decode qm154.2.2.1 54 = .ok (.if_icmp .ne 5, 3) := by decide +kernel
theorem qd_154_57 : decode qm154.2.2.1 57 = .ok (.iconst 0, 1) := by decide +kernel
theorem qd_154_58 : decode qm154.2.2.1 58 = .ok (.ireturn, 1) := by decide +kernel
theorem qd_154_59 : decode qm154.2.2.1 59 = .ok (.iinc 3 1, 3) := by decide +kernel
theorem qd_154_62 : decode qm154.2.2.1 62 = .ok (.goto (-32), 3) := by decide +kernel
theorem qd_154_65 : decode qm154.2.2.1 65 = .ok (.aload_n 0, 1) := by decide +kernel
theorem qd_154_66 : decode qm154.2.2.1 66 = .ok (.iload_n 1, 1) := by decide +kernel
theorem qd_154_67 : decode qm154.2.2.1 67 = .ok (.invokevirtual 115, 3) := by decide +kernel
theorem qd_154_70 : decode qm154.2.2.1 70 = .ok (.ireturn, 1) := by decide +kernel
theorem qd_155_0 : decode qm155.2.2.1 0 = .ok (.aload_n 0, 1) := by decide +kernel
theorem qd_155_1 : decode qm155.2.2.1 1 = .ok (.iload_n 2, 1) := by decide +kernel
theorem qd_155_2 : decode qm155.2.2.1 2 = .ok (.invokevirtual 101, 3) := by decide +kernel
theorem qd_155_5 : decode qm155.2.2.1 5 = .ok (.istore_n 3, 1) := by decide +kernel
theorem qd_155_6 : decode qm155.2.2.1 6 = .ok (.aload_n 0, 1) := by decide +kernel
theorem qd_155_7 : decode qm155.2.2.1 7 = .ok (.iload_n 1, 1) := by decide +kernel
theorem qd_155_8 : decode qm155.2.2.1 8 = .ok (.invokevirtual 104, 3) := by decide +kernel
theorem qd_155_11 : decode qm155.2.2.1 11 = .ok (.istore 4, 2) := by decide +kernel
theorem qd_155_13 : decode qm155.2.2.1 13 = .ok (.iconst 0, 1) := by decide +kernel
theorem qd_155_14 : decode qm155.2.2.1 14 = .ok (.istore 5, 2) := by decide +kernel
theorem qd_155_16 : decode qm155.2.2.1 16 = .ok (.iload 5, 2) := by decide +kernel
theorem qd_155_18 : decode qm155.2.2.1 18 = .ok (.iload 4, 2) := by decide +kernel
theorem qd_155_20 : decode qm155.2.2.1 20 = .ok (.if_icmp .ge 42, 3) := by decide +kernel
theorem qd_155_23 : decode qm155.2.2.1 23 = .ok (.aload_n 0, 1) := by decide +kernel
theorem qd_155_24 : decode qm155.2.2.1 24 = .ok (.getfield 7, 3) := by decide +kernel
theorem qd_155_27 : decode qm155.2.2.1 27 = .ok (.iload_n 3, 1) := by decide +kernel
theorem qd_155_28 : decode qm155.2.2.1 28 = .ok (.iload 5, 2) := by decide +kernel
theorem qd_155_30 : decode qm155.2.2.1 30 = .ok (.iadd, 1) := by decide +kernel
theorem qd_155_31 : decode qm155.2.2.1 31 = .ok (.iaload, 1) := by decide +kernel
theorem qd_155_32 : decode qm155.2.2.1 32 = .ok (.ifCond .eq 22, 3) := by decide +kernel
theorem qd_155_35 : decode qm155.2.2.1 35 = .ok (.aload_n 0, 1) := by decide +kernel
theorem qd_155_36 : decode qm155.2.2.1 36 = .ok (.getfield 7, 3) := by decide +kernel
theorem qd_155_39 : decode qm155.2.2.1 39 = .ok (.iload_n 3, 1) := by decide +kernel
theorem qd_155_40 : decode qm155.2.2.1 40 = .ok (.iload 5, 2) := by decide +kernel
theorem qd_155_42 : decode qm155.2.2.1 42 = .ok (.iadd, 1) := by decide +kernel
theorem qd_155_43 : decode qm155.2.2.1 43 = .ok (.iaload, 1) := by decide +kernel
theorem qd_155_44 : decode qm155.2.2.1 44 = .ok (.aload_n 0, 1) := by decide +kernel
theorem qd_155_45 : decode qm155.2.2.1 45 = .ok (.iload_n 1, 1) := by decide +kernel
theorem qd_155_46 : decode qm155.2.2.1 46 = .ok (.iload 5, 2) := by decide +kernel
theorem qd_155_48 : decode qm155.2.2.1 48 = .ok (.invokevirtual 107, 3) := by decide +kernel
theorem qd_155_51 : decode qm155.2.2.1 51 = .ok (.if_icmp .eq 5, 3) := by decide +kernel
theorem qd_155_54 : decode qm155.2.2.1 54 = .ok (.iconst 0, 1) := by decide +kernel
theorem qd_155_55 : decode qm155.2.2.1 55 = .ok (.ireturn, 1) := by decide +kernel
theorem qd_155_56 : decode qm155.2.2.1 56 = .ok (.iinc 5 1, 3) := by decide +kernel
theorem qd_155_59 : decode qm155.2.2.1 59 = .ok (.goto (-43), 3) := by decide +kernel
theorem qd_155_62 : decode qm155.2.2.1 62 = .ok (.aload_n 0, 1) := by decide +kernel
theorem qd_155_63 : decode qm155.2.2.1 63 = .ok (.getfield 7, 3) := by decide +kernel
theorem qd_155_66 : decode qm155.2.2.1 66 = .ok (.iload_n 3, 1) := by decide +kernel
theorem qd_155_67 : decode qm155.2.2.1 67 = .ok (.iload 4, 2) := by decide +kernel
theorem qd_155_69 : decode qm155.2.2.1 69 = .ok (.iadd, 1) := by decide +kernel
theorem qd_155_70 : decode qm155.2.2.1 70 = .ok (.iaload, 1) := by decide +kernel
theorem qd_155_71 : decode qm155.2.2.1 71 = .ok (.ifCond .ne 7, 3) := by decide +kernel
theorem qd_155_74 : decode qm155.2.2.1 74 = .ok (.iconst 1, 1) := by decide +kernel
theorem qd_155_75 : decode qm155.2.2.1 75 = .ok (.goto 4, 3) := by decide +kernel
theorem qd_155_78 : decode qm155.2.2.1 78 = .ok (.iconst 0, 1) := by decide +kernel
theorem qd_155_79 : decode qm155.2.2.1 79 = .ok (.ireturn, 1) := by decide +kernel
theorem qd_156_0 : decode qm156.2.2.1 0 = .ok (.iconst 0, 1) := by decide +kernel
theorem qd_156_1 : decode qm156.2.2.1 1 = .ok (.istore_n 2, 1) := by decide +kernel
theorem qd_156_2 : decode qm156.2.2.1 2 = .ok (.iconst 0, 1) := by decide +kernel
theorem qd_156_3 : decode qm156.2.2.1 3 = .ok (.istore_n 3, 1) := by decide +kernel
theorem qd_156_4 : decode qm156.2.2.1 4 = .ok (.iload_n 3, 1) := by decide +kernel
theorem qd_156_5 : decode qm156.2.2.1 5 = .ok (.iload_n 1, 1) := by decide +kernel
theorem qd_156_6 : decode qm156.2.2.1 6 = .ok (.if_icmp .ge 21, 3) := by decide +kernel
theorem qd_156_9 : decode qm156.2.2.1 9 = .ok (.aload_n 0, 1) := by decide +kernel
theorem qd_156_10 : decode qm156.2.2.1 10 = .ok (.getfield 7, 3) := by decide +kernel
theorem qd_156_13 : decode qm156.2.2.1 13 = .ok (.iload_n 2, 1) := by decide +kernel
theorem qd_156_14 : decode qm156.2.2.1 14 = .ok (.iaload, 1) := by decide +kernel
theorem qd_156_15 : decode qm156.2.2.1 15 = .ok (.ifCond .ne 6, 3) := by decide +kernel
theorem qd_156_18 : decode qm156.2.2.1 18 = .ok (.iinc 3 1, 3) := by decide +kernel
theorem qd_156_21 : decode qm156.2.2.1 21 = .ok (.iinc 2 1, 3) := by decide +kernel
theorem qd_156_24 : decode qm156.2.2.1 24 = .ok (.goto (-20), 3) := by decide +kernel
theorem qd_156_27 : decode qm156.2.2.1 27 = .ok (.iload_n 2, 1) := by decide +kernel
theorem qd_156_28 : decode qm156.2.2.1 28 = .ok (.ireturn, 1) := by decide +kernel
theorem qd_157_0 : decode qm157.2.2.1 0 = .ok (.aload_n 0, 1) := by decide +kernel
theorem qd_157_1 : decode qm157.2.2.1 1 = .ok (.iload_n 1, 1) := by decide +kernel
theorem qd_157_2 : decode qm157.2.2.1 2 = .ok (.invokevirtual 104, 3) := by decide +kernel
theorem qd_157_5 : decode qm157.2.2.1 5 = .ok (.istore_n 2, 1) := by decide +kernel
theorem qd_157_6 : decode qm157.2.2.1 6 = .ok (.iconst 0, 1) := by decide +kernel
theorem qd_157_7 : decode qm157.2.2.1 7 = .ok (.istore_n 3, 1) := by decide +kernel
theorem qd_157_8 : decode qm157.2.2.1 8 = .ok (.iload_n 3, 1) := by decide +kernel
theorem qd_157_9 : decode qm157.2.2.1 9 = .ok (.iload_n 2, 1) := by decide +kernel
theorem qd_157_10 : decode qm157.2.2.1 10 = .ok (.if_icmp .ge 47, 3) := by decide +kernel
theorem qd_157_13 : decode qm157.2.2.1 13 = .ok (.aload_n 0, 1) := by decide +kernel
theorem qd_157_14 : decode qm157.2.2.1 14 = .ok (.iload_n 1, 1) := by decide +kernel
theorem qd_157_15 : decode qm157.2.2.1 15 = .ok (.iload_n 3, 1) := by decide +kernel
theorem qd_157_16 : decode qm157.2.2.1 16 = .ok (.invokevirtual 107, 3) := by decide +kernel
theorem qd_157_19 : decode qm157.2.2.1 19 = .ok (.istore 4, 2) := by decide +kernel
theorem qd_157_21 : decode qm157.2.2.1 21 = .ok (.iload 4, 2) := by decide +kernel
theorem qd_157_23 : decode qm157.2.2.1 23 = .ok (.bipush 46, 2) := by decide +kernel
theorem qd_157_25 : decode qm157.2.2.1 25 = .ok (.if_icmp .eq 24, 3) := by decide +kernel
theorem qd_157_28 : decode qm157.2.2.1 28 = .ok (.iload 4, 2) := by decide +kernel
theorem qd_157_30 : decode qm157.2.2.1 30 = .ok (.bipush 59, 2) := by decide +kernel
theorem qd_157_32 : decode qm157.2.2.1 32 = .ok (.if_icmp .eq 17, 3) := by decide +kernel
theorem qd_157_35 : decode qm157.2.2.1 35 = .ok (.iload 4, 2) := by decide +kernel
theorem qd_157_37 : decode qm157.2.2.1 37 = .ok (.bipush 91, 2) := by decide +kernel
theorem qd_157_39 : decode qm157.2.2.1 39 = .ok (.if_icmp .eq 10, 3) := by decide +kernel
theorem qd_157_42 : decode qm157.2.2.1 42 = .ok (.iload 4, 2) := by decide +kernel
theorem qd_157_44 : decode qm157.2.2.1 44 = .ok (.bipush 47, 2) := by decide +kernel
theorem qd_157_46 : decode qm157.2.2.1 46 = .ok (.if_icmp .ne 5, 3) := by decide +kernel
theorem qd_157_49 : decode qm157.2.2.1 49 = .ok (.iconst 0, 1) := by decide +kernel
theorem qd_157_50 : decode qm157.2.2.1 50 = .ok (.ireturn, 1) := by decide +kernel
theorem qd_157_51 : decode qm157.2.2.1 51 = .ok (.iinc 3 1, 3) := by decide +kernel
theorem qd_157_54 : decode qm157.2.2.1 54 = .ok (.goto (-46), 3) := by decide +kernel
theorem qd_157_57 : decode qm157.2.2.1 57 = .ok (.iload_n 2, 1) := by decide +kernel
theorem qd_157_58 : decode qm157.2.2.1 58 = .ok (.ifCond .le 7, 3) := by decide +kernel
theorem qd_157_61 : decode qm157.2.2.1 61 = .ok (.iconst 1, 1) := by decide +kernel
theorem qd_157_62 : decode qm157.2.2.1 62 = .ok (.goto 4, 3) := by decide +kernel
theorem qd_157_65 : decode qm157.2.2.1 65 = .ok (.iconst 0, 1) := by decide +kernel
theorem qd_157_66 : decode qm157.2.2.1 66 = .ok (.ireturn, 1) := by decide +kernel
theorem qd_158_0 : decode qm158.2.2.1 0 = .ok (.aload_n 0, 1) := by decide +kernel
theorem qd_158_1 : decode qm158.2.2.1 1 = .ok (.getfield 70, 3) := by decide +kernel
theorem qd_158_4 : decode qm158.2.2.1 4 = .ok (.istore_n 1, 1) := by decide +kernel
theorem qd_158_5 : decode qm158.2.2.1 5 = .ok (.aload_n 0, 1) := by decide +kernel
theorem qd_158_6 : decode qm158.2.2.1 6 = .ok (.aload_n 0, 1) := by decide +kernel
theorem qd_158_7 : decode qm158.2.2.1 7 = .ok (.invokevirtual 88, 3) := by decide +kernel
theorem qd_158_10 : decode qm158.2.2.1 10 = .ok (.putfield 174, 3) := by decide +kernel
theorem qd_158_13 : decode qm158.2.2.1 13 = .ok (.aload_n 0, 1) := by decide +kernel
theorem qd_158_14 : decode qm158.2.2.1 14 = .ok (.getfield 174, 3) := by decide +kernel
theorem qd_158_17 : decode qm158.2.2.1 17 = .ok (.sipush 512, 3) := by decide +kernel
theorem qd_158_20 : decode qm158.2.2.1 20 = .ok (.iand, 1) := by decide +kernel
theorem qd_158_21 : decode qm158.2.2.1 21 = .ok (.ifCond .eq 7, 3) := by decide +kernel
theorem qd_158_24 : decode qm158.2.2.1 24 = .ok (.iconst 1, 1) := by decide +kernel
theorem qd_158_25 : decode qm158.2.2.1 25 = .ok (.goto 4, 3) := by decide +kernel
theorem qd_158_28 : decode qm158.2.2.1 28 = .ok (.iconst 0, 1) := by decide +kernel
theorem qd_158_29 : decode qm158.2.2.1 29 = .ok (.istore_n 2, 1) := by decide +kernel
theorem qd_158_30 : decode qm158.2.2.1 30 = .ok (.aload_n 0, 1) := by decide +kernel
theorem qd_158_31 : decode qm158.2.2.1 31 = .ok (.getfield 174, 3) := by decide +kernel
theorem qd_158_34 : decode qm158.2.2.1 34 = .ok (.sipush 1040, 3) := by decide +kernel
theorem qd_158_37 : decode qm158.2.2.1 37 = .ok (.iand, 1) := by decide +kernel
theorem qd_158_38 : decode qm158.2.2.1 38 = .ok (.sipush 1040, 3) := by decide +kernel
theorem qd_158_41 : decode qm158.2.2.1 41 = .ok (.if_icmp .ne 7, 3) := by decide +kernel
theorem qd_158_44 : decode qm158.2.2.1 44 = .ok (.iconst 1, 1) := by decide +kernel
theorem qd_158_45 : decode qm158.2.2.1 45 = .ok (.goto 4, 3) := by decide +kernel
theorem qd_158_48 : decode qm158.2.2.1 48 = .ok (.iconst 0, 1) := by decide +kernel
theorem qd_158_49 : decode qm158.2.2.1 49 = .ok (.istore_n 3, 1) := by decide +kernel
theorem qd_158_50 : decode qm158.2.2.1 50 = .ok (.aload_n 0, 1) := by decide +kernel
theorem qd_158_51 : decode qm158.2.2.1 51 = .ok (.invokevirtual 80, 3) := by decide +kernel
theorem qd_158_54 : decode qm158.2.2.1 54 = .ok (.ifCond .eq 34, 3) := by decide +kernel
theorem qd_158_57 : decode qm158.2.2.1 57 = .ok (.iload_n 2, 1) := by decide +kernel
theorem qd_158_58 : decode qm158.2.2.1 58 = .ok (.ifCond .eq 20, 3) := by decide +kernel
theorem qd_158_61 : decode qm158.2.2.1 61 = .ok (.aload_n 0, 1) := by decide +kernel
theorem qd_158_62 : decode qm158.2.2.1 62 = .ok (.getfield 174, 3) := by decide +kernel
theorem qd_158_65 : decode qm158.2.2.1 65 = .ok (.sipush 1040, 3) := by decide +kernel
theorem qd_158_68 : decode qm158.2.2.1 68 = .ok (.iand, 1) := by decide +kernel
theorem qd_158_69 : decode qm158.2.2.1 69 = .ok (.sipush 1024, 3) := by decide +kernel
theorem qd_158_72 : decode qm158.2.2.1 72 = .ok (.if_icmp .eq 16, 3) := by decide +kernel
theorem qd_158_75 : decode qm158.2.2.1 75 = .ok (.goto 7, 3) := by decide +kernel
theorem qd_158_78 : decode qm158.2.2.1 78 = .ok (.iload_n 3, 1) := by decide +kernel
theorem qd_158_79 : decode qm158.2.2.1 79 = .ok (.ifCond .eq 9, 3) := by decide +kernel
theorem qd_158_82 : decode qm158.2.2.1 82 = .ok (.aload_n 0, 1) := by decide +kernel
theorem qd_158_83 : decode qm158.2.2.1 83 = .ok (.iload_n 1, 1) := by decide +kernel
theorem qd_158_84 : decode qm158.2.2.1 84 = .ok (.invokevirtual 76, 3) := by decide +kernel
theorem qd_158_87 : decode qm158.2.2.1 87 = .ok (.pop, 1) := by decide +kernel
theorem qd_158_88 : decode qm158.2.2.1 88 = .ok (.aload_n 0, 1) := by decide +kernel
theorem qd_158_89 : decode qm158.2.2.1 89 = .ok (.aload_n 0, 1) := by decide +kernel
theorem qd_158_90 : decode qm158.2.2.1 90 = .ok (.iconst 0, 1) := by decide +kernel
theorem qd_158_91 : decode qm158.2.2.1 91 = .ok (.invokevirtual 177, 3) := by decide +kernel
theorem qd_158_94 : decode qm158.2.2.1 94 = .ok (.putfield 181, 3) := by decide +kernel
theorem qd_158_97 : decode qm158.2.2.1 97 = .ok (.aload_n 0, 1) := by decide +kernel
theorem qd_158_98 : decode qm158.2.2.1 98 = .ok (.aload_n 0, 1) := by decide +kernel
theorem qd_158_99 : decode qm158.2.2.1 99 = .ok (.iload_n 2, 1) := by decide +kernel
theorem qd_158_100 : decode qm158.2.2.1 100 = .ok (.ifCond .ne 7, 3) := by decide +kernel
theorem qd_158_103 : decode qm158.2.2.1 103 = .ok (.iconst 1, 1) := by decide +kernel
theorem qd_158_104 : decode qm158.2.2.1 104 = .ok (.goto 4, 3) := by decide +kernel
theorem qd_158_107 : decode qm158.2.2.1 107 = .ok (.iconst 0, 1) := by decide +kernel
theorem qd_158_108 : decode qm158.2.2.1 108 = .ok (.invokevirtual 177, 3) := by decide +kernel
theorem qd_158_111 : decode qm158.2.2.1 111 = .ok (.putfield 184, 3) := by decide +kernel
theorem qd_158_114 : decode qm158.2.2.1 114 = .ok (.aload_n 0, 1) := by decide +kernel
theorem qd_158_115 : decode qm158.2.2.1 115 = .ok (.aload_n 0, 1) := by decide +kernel
theorem qd_158_116 : decode qm158.2.2.1 116 = .ok (.invokevirtual 88, 3) := by decide +kernel
theorem qd_158_119 : decode qm158.2.2.1 119 = .ok (.putfield 187, 3) := by decide +kernel
theorem qd_158_122 : decode qm158.2.2.1 122 = .ok (.aload_n 0, 1) := by decide +kernel
theorem qd_158_123 : decode qm158.2.2.1 123 = .ok (.aload_n 0, 1) := by decide +kernel
theorem qd_158_124 : decode qm158.2.2.1 124 = .ok (.getfield 70, 3) := by decide +kernel
theorem qd_158_127 : decode qm158.2.2.1 127 = .ok (.putfield 190, 3) := by decide +kernel
theorem qd_158_130 : decode qm158.2.2.1 130 = .ok (.iconst 0, 1) := by decide +kernel
theorem qd_158_131 : decode qm158.2.2.1 131 = .ok (.istore 4, 2) := by decide +kernel
theorem qd_158_133 : decode qm158.2.2.1 133 = .ok (.iload 4, 2) := by decide +kernel
theorem qd_158_135 : decode qm158.2.2.1 135 = .ok (.aload_n 0, 1) := by decide +kernel
theorem qd_158_136 : decode qm158.2.2.1 136 = .ok (.getfield 187, 3) := by decide +kernel
theorem qd_158_139 : decode qm158.2.2.1 139 = .ok (.if_icmp .ge 22, 3) := by decide +kernel
theorem qd_158_142 : decode qm158.2.2.1 142 = .ok (.aload_n 0, 1) := by decide +kernel
theorem qd_158_143 : decode qm158.2.2.1 143 = .ok (.invokevirtual 80, 3) := by decide +kernel
theorem qd_158_146 : decode qm158.2.2.1 146 = .ok (.ifCond .eq 15, 3) := by decide +kernel
theorem qd_158_149 : decode qm158.2.2.1 149 = .ok (.aload_n 0, 1) := by decide +kernel
theorem qd_158_150 : decode qm158.2.2.1 150 = .ok (.iconst 0, 1) := by decide +kernel
theorem qd_158_151 : decode qm158.2.2.1 151 = .ok (.invokevirtual 177, 3) := by decide +kernel
theorem qd_158_154 : decode qm158.2.2.1 154 = .ok (.pop, 1) := by decide +kernel
theorem qd_158_155 : decode qm158.2.2.1 155 = .ok (.iinc 4 1, 3) := by decide +kernel
theorem qd_158_158 : decode qm158.2.2.1 158 = .ok (.goto (-25), 3) := by decide +kernel
theorem qd_158_161 : decode qm158.2.2.1 161 = .ok (.return_, 1) := by decide +kernel
theorem qd_159_0 : decode qm159.2.2.1 0 = .ok (.aload_n 0, 1) := by decide +kernel
theorem qd_159_1 : decode qm159.2.2.1 1 = .ok (.getfield 70, 3) := by decide +kernel
theorem qd_159_4 : decode qm159.2.2.1 4 = .ok (.istore_n 2, 1) := by decide +kernel
theorem qd_159_5 : decode qm159.2.2.1 5 = .ok (.aload_n 0, 1) := by decide +kernel
theorem qd_159_6 : decode qm159.2.2.1 6 = .ok (.invokevirtual 88, 3) := by decide +kernel
theorem qd_159_9 : decode qm159.2.2.1 9 = .ok (.istore_n 3, 1) := by decide +kernel
theorem qd_159_10 : decode qm159.2.2.1 10 = .ok (.aload_n 0, 1) := by decide +kernel
theorem qd_159_11 : decode qm159.2.2.1 11 = .ok (.invokevirtual 80, 3) := by decide +kernel
theorem qd_159_14 : decode qm159.2.2.1 14 = .ok (.ifCond .eq 25, 3) := by decide +kernel
theorem qd_159_17 : decode qm159.2.2.1 17 = .ok (.iload_n 1, 1) := by decide +kernel
theorem qd_159_18 : decode qm159.2.2.1 18 = .ok (.ifCond .eq 7, 3) := by decide +kernel
theorem qd_159_21 : decode qm159.2.2.1 21 = .ok (.iload_n 3, 1) := by decide +kernel
theorem qd_159_22 : decode qm159.2.2.1 22 = .ok (.ifCond .eq 17, 3) := by decide +kernel
theorem qd_159_25 : decode qm159.2.2.1 25 = .ok (.aload_n 0, 1) := by decide +kernel
theorem qd_159_26 : decode qm159.2.2.1 26 = .ok (.iload_n 3, 1) := by decide +kernel
theorem qd_159_27 : decode qm159.2.2.1 27 = .ok (.invokevirtual 171, 3) := by decide +kernel
theorem qd_159_30 : decode qm159.2.2.1 30 = .ok (.ifCond .ne 9, 3) := by decide +kernel
theorem qd_159_33 : decode qm159.2.2.1 33 = .ok (.aload_n 0, 1) := by decide +kernel
theorem qd_159_34 : decode qm159.2.2.1 34 = .ok (.iload_n 2, 1) := by decide +kernel
theorem qd_159_35 : decode qm159.2.2.1 35 = .ok (.invokevirtual 76, 3) := by decide +kernel
theorem qd_159_38 : decode qm159.2.2.1 38 = .ok (.pop, 1) := by decide +kernel
theorem qd_159_39 : decode qm159.2.2.1 39 = .ok (.iload_n 3, 1) := by decide +kernel
theorem qd_159_40 : decode qm159.2.2.1 40 = .ok (.ireturn, 1) := by decide +kernel
theorem qd_160_0 : decode qm160.2.2.1 0 = .ok (.aload_n 0, 1) := by decide +kernel
theorem qd_160_1 : decode qm160.2.2.1 1 = .ok (.iload_n 1, 1) := by decide +kernel
theorem qd_160_2 : decode qm160.2.2.1 2 = .ok (.invokevirtual 137, 3) := by decide +kernel
theorem qd_160_5 : decode qm160.2.2.1 5 = .ok (.bipush 7, 2) := by decide +kernel
theorem qd_160_7 : decode qm160.2.2.1 7 = .ok (.if_icmp .ne 21, 3) := by decide +kernel
theorem qd_160_10 : decode qm160.2.2.1 10 = .ok (.aload_n 0, 1) := by decide +kernel
theorem qd_160_11 : decode qm160.2.2.1 11 = .ok (.aload_n 0, 1) := by decide +kernel
theorem qd_160_12 : decode qm160.2.2.1 12 = .ok (.iload_n 1, 1) := by decide +kernel
theorem qd_160_13 : decode qm160.2.2.1 13 = .ok (.invokevirtual 149, 3) := by decide +kernel
theorem qd_160_16 : decode qm160.2.2.1 16 = .ok (.iconst 0, 1) := by decide +kernel
theorem qd_160_17 : decode qm160.2.2.1 17 = .ok (.iconst 0, 1) := by decide +kernel
theorem qd_160_18 : decode qm160.2.2.1 18 = .ok (.invokevirtual 121, 3) := by decide +kernel
theorem qd_160_21 : decode qm160.2.2.1 21 = .ok (.ifCond .le 7, 3) := by decide +kernel
theorem qd_160_24 : decode qm160.2.2.1 24 = .ok (.iconst 1, 1) := by decide +kernel
theorem qd_160_25 : decode qm160.2.2.1 25 = .ok (.goto 4, 3) := by decide +kernel
theorem qd_160_28 : decode qm160.2.2.1 28 = .ok (.iconst 0, 1) := by decide +kernel
theorem qd_160_29 : decode qm160.2.2.1 29 = .ok (.ireturn, 1) := by decide +kernel
