/-! facts of the tables that the rows want: printed by a program of mine (wip/whole/gen_blocks.py, emit.py) -/
theorem qfl_0_10 (w : qE) : zTfl w.T 0 10 = some (0, 0) := by show qfind (qfl ++ qfn) 0 10 = _; decide +kernel
theorem qfl_0_21 (w : qE) : zTfl w.T 0 21 = some (0, 1) := by show qfind (qfl ++ qfn) 0 21 = _; decide +kernel
theorem qfl_0_30 (w : qE) : zTfl w.T 0 30 = some (0, 2) := by show qfind (qfl ++ qfn) 0 30 = _; decide +kernel
theorem qfl_0_37 (w : qE) : zTfl w.T 0 37 = some (0, 3) := by show qfind (qfl ++ qfn) 0 37 = _; decide +kernel
theorem qfl_0_46 (w : qE) : zTfl w.T 0 46 = some (0, 4) := by show qfind (qfl ++ qfn) 0 46 = _; decide +kernel
theorem qfl_0_55 (w : qE) : zTfl w.T 0 55 = some (0, 5) := by show qfind (qfl ++ qfn) 0 55 = _; decide +kernel
theorem qfl_0_59 (w : qE) : zTfl w.T 0 59 = some (0, 6) := by show qfind (qfl ++ qfn) 0 59 = _; decide +kernel
theorem qfl_0_105 (w : qE) : zTfl w.T 0 105 = some (5, 11) := by show qfind (qfl ++ qfn) 0 105 = _; decide +kernel
theorem qfl_0_119 (w : qE) : zTfl w.T 0 119 = some (2, 1) := by show qfind (qfl ++ qfn) 0 119 = _; decide +kernel
theorem qfl_0_167 (w : qE) : zTfl w.T 0 167 = some (6, 8) := by show qfind (qfl ++ qfn) 0 167 = _; decide +kernel
theorem qfl_0_171 (w : qE) : zTfl w.T 0 171 = some (6, 9) := by show qfind (qfl ++ qfn) 0 171 = _; decide +kernel
theorem qfl_0_174 (w : qE) : zTfl w.T 0 174 = some (6, 10) := by show qfind (qfl ++ qfn) 0 174 = _; decide +kernel
theorem qfl_0_177 (w : qE) : zTfl w.T 0 177 = some (6, 3) := by show qfind (qfl ++ qfn) 0 177 = _; decide +kernel
theorem qfl_0_180 (w : qE) : zTfl w.T 0 180 = some (6, 4) := by show qfind (qfl ++ qfn) 0 180 = _; decide +kernel
theorem qfl_0_183 (w : qE) : zTfl w.T 0 183 = some (6, 5) := by show qfind (qfl ++ qfn) 0 183 = _; decide +kernel
theorem qfl_0_186 (w : qE) : zTfl w.T 0 186 = some (6, 7) := by show qfind (qfl ++ qfn) 0 186 = _; decide +kernel
theorem qfl_0_189 (w : qE) : zTfl w.T 0 189 = some (6, 6) := by show qfind (qfl ++ qfn) 0 189 = _; decide +kernel
theorem qfl_0_195 (w : qE) : zTfl w.T 0 195 = some (5, 5) := by show qfind (qfl ++ qfn) 0 195 = _; decide +kernel
theorem qfl_0_198 (w : qE) : zTfl w.T 0 198 = some (5, 6) := by show qfind (qfl ++ qfn) 0 198 = _; decide +kernel
theorem qfl_0_201 (w : qE) : zTfl w.T 0 201 = some (5, 7) := by show qfind (qfl ++ qfn) 0 201 = _; decide +kernel
theorem qfl_0_204 (w : qE) : zTfl w.T 0 204 = some (5, 8) := by show qfind (qfl ++ qfn) 0 204 = _; decide +kernel
theorem qfl_0_211 (w : qE) : zTfl w.T 0 211 = some (5, 9) := by show qfind (qfl ++ qfn) 0 211 = _; decide +kernel
theorem qfl_0_214 (w : qE) : zTfl w.T 0 214 = some (5, 10) := by show qfind (qfl ++ qfn) 0 214 = _; decide +kernel
theorem qfl_1_9 (w : qE) : zTfl w.T 1 9 = some (1, 0) := by show qfind (qfl ++ qfn) 1 9 = _; decide +kernel
theorem qfl_1_15 (w : qE) : zTfl w.T 1 15 = some (1, 1) := by show qfind (qfl ++ qfn) 1 15 = _; decide +kernel
theorem qfl_1_19 (w : qE) : zTfl w.T 1 19 = some (1, 2) := by show qfind (qfl ++ qfn) 1 19 = _; decide +kernel
theorem qfl_1_22 (w : qE) : zTfl w.T 1 22 = some (1, 3) := by show qfind (qfl ++ qfn) 1 22 = _; decide +kernel
theorem qfl_2_9 (w : qE) : zTfl w.T 2 9 = some (2, 0) := by show qfind (qfl ++ qfn) 2 9 = _; decide +kernel
theorem qfl_2_20 (w : qE) : zTfl w.T 2 20 = some (2, 1) := by show qfind (qfl ++ qfn) 2 20 = _; decide +kernel
theorem qfl_2_24 (w : qE) : zTfl w.T 2 24 = some (2, 2) := by show qfind (qfl ++ qfn) 2 24 = _; decide +kernel
theorem qfl_2_28 (w : qE) : zTfl w.T 2 28 = some (2, 3) := by show qfind (qfl ++ qfn) 2 28 = _; decide +kernel
theorem qfl_3_9 (w : qE) : zTfl w.T 3 9 = some (3, 0) := by show qfind (qfl ++ qfn) 3 9 = _; decide +kernel
theorem qfl_3_15 (w : qE) : zTfl w.T 3 15 = some (3, 1) := by show qfind (qfl ++ qfn) 3 15 = _; decide +kernel
theorem qfl_3_19 (w : qE) : zTfl w.T 3 19 = some (3, 2) := by show qfind (qfl ++ qfn) 3 19 = _; decide +kernel
theorem qfl_4_9 (w : qE) : zTfl w.T 4 9 = some (4, 0) := by show qfind (qfl ++ qfn) 4 9 = _; decide +kernel
theorem qfl_4_15 (w : qE) : zTfl w.T 4 15 = some (4, 1) := by show qfind (qfl ++ qfn) 4 15 = _; decide +kernel
theorem qfl_4_19 (w : qE) : zTfl w.T 4 19 = some (2, 1) := by show qfind (qfl ++ qfn) 4 19 = _; decide +kernel
theorem qfl_5_9 (w : qE) : zTfl w.T 5 9 = some (5, 0) := by show qfind (qfl ++ qfn) 5 9 = _; decide +kernel
theorem qfl_5_15 (w : qE) : zTfl w.T 5 15 = some (5, 1) := by show qfind (qfl ++ qfn) 5 15 = _; decide +kernel
theorem qfl_5_24 (w : qE) : zTfl w.T 5 24 = some (5, 8) := by show qfind (qfl ++ qfn) 5 24 = _; decide +kernel
theorem qfl_5_28 (w : qE) : zTfl w.T 5 28 = some (5, 9) := by show qfind (qfl ++ qfn) 5 28 = _; decide +kernel
theorem qfl_5_31 (w : qE) : zTfl w.T 5 31 = some (5, 10) := by show qfind (qfl ++ qfn) 5 31 = _; decide +kernel
theorem qfl_5_34 (w : qE) : zTfl w.T 5 34 = some (5, 11) := by show qfind (qfl ++ qfn) 5 34 = _; decide +kernel
theorem qfl_5_37 (w : qE) : zTfl w.T 5 37 = some (5, 5) := by show qfind (qfl ++ qfn) 5 37 = _; decide +kernel
theorem qfl_5_41 (w : qE) : zTfl w.T 5 41 = some (5, 6) := by show qfind (qfl ++ qfn) 5 41 = _; decide +kernel
theorem qfl_5_44 (w : qE) : zTfl w.T 5 44 = some (5, 7) := by show qfind (qfl ++ qfn) 5 44 = _; decide +kernel
theorem qfl_5_56 (w : qE) : zTfl w.T 5 56 = some (5, 2) := by show qfind (qfl ++ qfn) 5 56 = _; decide +kernel
theorem qfl_5_59 (w : qE) : zTfl w.T 5 59 = some (5, 3) := by show qfind (qfl ++ qfn) 5 59 = _; decide +kernel
theorem qfl_5_62 (w : qE) : zTfl w.T 5 62 = some (5, 4) := by show qfind (qfl ++ qfn) 5 62 = _; decide +kernel
theorem qfl_6_9 (w : qE) : zTfl w.T 6 9 = some (6, 0) := by show qfind (qfl ++ qfn) 6 9 = _; decide +kernel
theorem qfl_6_15 (w : qE) : zTfl w.T 6 15 = some (6, 1) := by show qfind (qfl ++ qfn) 6 15 = _; decide +kernel
theorem qfl_6_19 (w : qE) : zTfl w.T 6 19 = some (6, 2) := by show qfind (qfl ++ qfn) 6 19 = _; decide +kernel
theorem qfl_6_28 (w : qE) : zTfl w.T 6 28 = some (6, 3) := by show qfind (qfl ++ qfn) 6 28 = _; decide +kernel
theorem qfl_6_32 (w : qE) : zTfl w.T 6 32 = some (6, 4) := by show qfind (qfl ++ qfn) 6 32 = _; decide +kernel
theorem qfl_6_35 (w : qE) : zTfl w.T 6 35 = some (6, 5) := by show qfind (qfl ++ qfn) 6 35 = _; decide +kernel
theorem qfl_6_49 (w : qE) : zTfl w.T 6 49 = some (6, 6) := by show qfind (qfl ++ qfn) 6 49 = _; decide +kernel
theorem qfl_6_53 (w : qE) : zTfl w.T 6 53 = some (6, 7) := by show qfind (qfl ++ qfn) 6 53 = _; decide +kernel
theorem qfl_6_64 (w : qE) : zTfl w.T 6 64 = some (6, 8) := by show qfind (qfl ++ qfn) 6 64 = _; decide +kernel
theorem qfl_6_74 (w : qE) : zTfl w.T 6 74 = some (6, 9) := by show qfind (qfl ++ qfn) 6 74 = _; decide +kernel
theorem qfl_6_77 (w : qE) : zTfl w.T 6 77 = some (6, 10) := by show qfind (qfl ++ qfn) 6 77 = _; decide +kernel
theorem qfl_6_148 (w : qE) : zTfl w.T 6 148 = some (2, 2) := by show qfind (qfl ++ qfn) 6 148 = _; decide +kernel
theorem qfl_6_175 (w : qE) : zTfl w.T 6 175 = some (5, 2) := by show qfind (qfl ++ qfn) 6 175 = _; decide +kernel
theorem qfl_6_178 (w : qE) : zTfl w.T 6 178 = some (5, 3) := by show qfind (qfl ++ qfn) 6 178 = _; decide +kernel
theorem qfl_6_181 (w : qE) : zTfl w.T 6 181 = some (5, 4) := by show qfind (qfl ++ qfn) 6 181 = _; decide +kernel
theorem qfl_7_9 (w : qE) : zTfl w.T 7 9 = some (7, 0) := by show qfind (qfl ++ qfn) 7 9 = _; decide +kernel
theorem qfl_7_15 (w : qE) : zTfl w.T 7 15 = some (7, 1) := by show qfind (qfl ++ qfn) 7 15 = _; decide +kernel
theorem qfl_7_19 (w : qE) : zTfl w.T 7 19 = some (7, 2) := by show qfind (qfl ++ qfn) 7 19 = _; decide +kernel
theorem qfl_7_22 (w : qE) : zTfl w.T 7 22 = some (7, 3) := by show qfind (qfl ++ qfn) 7 22 = _; decide +kernel
theorem qfl_7_76 (w : qE) : zTfl w.T 7 76 = some (2, 2) := by show qfind (qfl ++ qfn) 7 76 = _; decide +kernel
theorem qfl_8_7 (w : qE) : zTfl w.T 8 7 = some (8, 0) := by show qfind (qfl ++ qfn) 8 7 = _; decide +kernel
theorem qfl_8_13 (w : qE) : zTfl w.T 8 13 = some (8, 1) := by show qfind (qfl ++ qfn) 8 13 = _; decide +kernel
theorem qfl_8_16 (w : qE) : zTfl w.T 8 16 = some (8, 2) := by show qfind (qfl ++ qfn) 8 16 = _; decide +kernel
theorem qfl_8_19 (w : qE) : zTfl w.T 8 19 = some (8, 6) := by show qfind (qfl ++ qfn) 8 19 = _; decide +kernel
theorem qfl_8_23 (w : qE) : zTfl w.T 8 23 = some (8, 10) := by show qfind (qfl ++ qfn) 8 23 = _; decide +kernel
theorem qfl_8_26 (w : qE) : zTfl w.T 8 26 = some (8, 17) := by show qfind (qfl ++ qfn) 8 26 = _; decide +kernel
theorem qfl_8_29 (w : qE) : zTfl w.T 8 29 = some (8, 18) := by show qfind (qfl ++ qfn) 8 29 = _; decide +kernel
theorem qfl_8_32 (w : qE) : zTfl w.T 8 32 = some (8, 19) := by show qfind (qfl ++ qfn) 8 32 = _; decide +kernel
theorem qfl_8_35 (w : qE) : zTfl w.T 8 35 = some (8, 20) := by show qfind (qfl ++ qfn) 8 35 = _; decide +kernel
theorem qfl_8_38 (w : qE) : zTfl w.T 8 38 = some (8, 21) := by show qfind (qfl ++ qfn) 8 38 = _; decide +kernel
theorem qfl_8_41 (w : qE) : zTfl w.T 8 41 = some (8, 22) := by show qfind (qfl ++ qfn) 8 41 = _; decide +kernel
theorem qfl_8_44 (w : qE) : zTfl w.T 8 44 = some (8, 23) := by show qfind (qfl ++ qfn) 8 44 = _; decide +kernel
theorem qfl_8_47 (w : qE) : zTfl w.T 8 47 = some (8, 24) := by show qfind (qfl ++ qfn) 8 47 = _; decide +kernel
theorem qfl_8_50 (w : qE) : zTfl w.T 8 50 = some (8, 25) := by show qfind (qfl ++ qfn) 8 50 = _; decide +kernel
theorem qfl_8_53 (w : qE) : zTfl w.T 8 53 = some (8, 26) := by show qfind (qfl ++ qfn) 8 53 = _; decide +kernel
theorem qfl_8_57 (w : qE) : zTfl w.T 8 57 = some (8, 29) := by show qfind (qfl ++ qfn) 8 57 = _; decide +kernel
theorem qfl_8_60 (w : qE) : zTfl w.T 8 60 = some (8, 7) := by show qfind (qfl ++ qfn) 8 60 = _; decide +kernel
theorem qfl_8_67 (w : qE) : zTfl w.T 8 67 = some (8, 3) := by show qfind (qfl ++ qfn) 8 67 = _; decide +kernel
theorem qfl_8_70 (w : qE) : zTfl w.T 8 70 = some (8, 5) := by show qfind (qfl ++ qfn) 8 70 = _; decide +kernel
theorem qfl_8_73 (w : qE) : zTfl w.T 8 73 = some (8, 4) := by show qfind (qfl ++ qfn) 8 73 = _; decide +kernel
theorem qfl_8_95 (w : qE) : zTfl w.T 8 95 = some (8, 11) := by show qfind (qfl ++ qfn) 8 95 = _; decide +kernel
theorem qfl_8_128 (w : qE) : zTfl w.T 8 128 = some (8, 27) := by show qfind (qfl ++ qfn) 8 128 = _; decide +kernel
theorem qfl_8_131 (w : qE) : zTfl w.T 8 131 = some (8, 28) := by show qfind (qfl ++ qfn) 8 131 = _; decide +kernel
theorem qfl_8_174 (w : qE) : zTfl w.T 8 174 = some (8, 12) := by show qfind (qfl ++ qfn) 8 174 = _; decide +kernel
theorem qfl_8_181 (w : qE) : zTfl w.T 8 181 = some (8, 13) := by show qfind (qfl ++ qfn) 8 181 = _; decide +kernel
theorem qfl_8_184 (w : qE) : zTfl w.T 8 184 = some (8, 14) := by show qfind (qfl ++ qfn) 8 184 = _; decide +kernel
theorem qfl_8_187 (w : qE) : zTfl w.T 8 187 = some (8, 15) := by show qfind (qfl ++ qfn) 8 187 = _; decide +kernel
theorem qfl_8_190 (w : qE) : zTfl w.T 8 190 = some (8, 16) := by show qfind (qfl ++ qfn) 8 190 = _; decide +kernel
theorem qfl_8_239 (w : qE) : zTfl w.T 8 239 = some (8, 8) := by show qfind (qfl ++ qfn) 8 239 = _; decide +kernel
theorem qfl_8_259 (w : qE) : zTfl w.T 8 259 = some (8, 9) := by show qfind (qfl ++ qfn) 8 259 = _; decide +kernel
theorem qkl_0_156 (w : qE) : zTkl w.T 0 156 = some (.double 13830554455654793216) := by show qfind qkl 0 156 = _; decide +kernel
theorem qkl_2_107 (w : qE) : zTkl w.T 2 107 = some (.long 4294967295) := by show qfind qkl 2 107 = _; decide +kernel
theorem qkl_5_158 (w : qE) : zTkl w.T 5 158 = some (qI 65535) := by show qfind qkl 5 158 = _; decide +kernel
theorem qkl_6_44 (w : qE) : zTkl w.T 6 44 = some (qI (-889275714)) := by show qfind qkl 6 44 = _; decide +kernel
theorem qkl_6_56 (w : qE) : zTkl w.T 6 56 = some (qI 65535) := by show qfind qkl 6 56 = _; decide +kernel
theorem qkl_8_231 (w : qE) : zTkl w.T 8 231 = some (qI 65535) := by show qfind qkl 8 231 = _; decide +kernel
theorem qkl_8_238 (w : qE) : zTkl w.T 8 238 = some (qI (-889275714)) := by show qfind qkl 8 238 = _; decide +kernel
theorem qkl_8_268 (w : qE) : zTkl w.T 8 268 = some (.double 4611686018427387904) := by show qfind qkl 8 268 = _; decide +kernel
theorem qkl_8_270 (w : qE) : zTkl w.T 8 270 = some (.double 13830554455654793216) := by show qfind qkl 8 270 = _; decide +kernel
theorem qkl_8_272 (w : qE) : zTkl w.T 8 272 = some (qI 8388607) := by show qfind qkl 8 272 = _; decide +kernel
theorem qkl_8_273 (w : qE) : zTkl w.T 8 273 = some (qI 8388608) := by show qfind qkl 8 273 = _; decide +kernel
theorem qkl_8_278 (w : qE) : zTkl w.T 8 278 = some (.long 4294967295) := by show qfind qkl 8 278 = _; decide +kernel
theorem qkl_8_280 (w : qE) : zTkl w.T 8 280 = some (.long 4503599627370495) := by show qfind qkl 8 280 = _; decide +kernel
theorem qkl_8_282 (w : qE) : zTkl w.T 8 282 = some (.long 4503599627370496) := by show qfind qkl 8 282 = _; decide +kernel
theorem qkl_10_13 (w : qE) : zTkl w.T 10 13 = some (qI 8388607) := by show qfind qkl 10 13 = _; decide +kernel
theorem qkl_10_18 (w : qE) : zTkl w.T 10 18 = some (.long 8388608) := by show qfind qkl 10 18 = _; decide +kernel
theorem qkl_10_20 (w : qE) : zTkl w.T 10 20 = some (.long 4503599627370495) := by show qfind qkl 10 20 = _; decide +kernel
theorem qkl_10_22 (w : qE) : zTkl w.T 10 22 = some (.long 4503599627370496) := by show qfind qkl 10 22 = _; decide +kernel
theorem qkl_13_265 (w : qE) : zTkl w.T 13 265 = some (qI 1431655765) := by show qfind qkl 13 265 = _; decide +kernel
theorem qkl_13_266 (w : qE) : zTkl w.T 13 266 = some (qI 858993459) := by show qfind qkl 13 266 = _; decide +kernel
theorem qkl_13_267 (w : qE) : zTkl w.T 13 267 = some (qI 252645135) := by show qfind qkl 13 267 = _; decide +kernel
theorem qml_0_63 (w : qE) : zTml w.T 0 63 = some (9, 1, 2) := by show qfind qml 0 63 = _; decide +kernel
theorem qml_0_67 (w : qE) : zTml w.T 0 67 = some (11, 1, 2) := by show qfind qml 0 67 = _; decide +kernel
theorem qml_0_71 (w : qE) : zTml w.T 0 71 = some (13, 1, 1) := by show qfind qml 0 71 = _; decide +kernel
theorem qml_0_75 (w : qE) : zTml w.T 0 75 = some (17, 1, 0) := by show qfind qml 0 75 = _; decide +kernel
theorem qml_0_78 (w : qE) : zTml w.T 0 78 = some (18, 1, 0) := by show qfind qml 0 78 = _; decide +kernel
theorem qml_0_81 (w : qE) : zTml w.T 0 81 = some (23, 1, 0) := by show qfind qml 0 81 = _; decide +kernel
theorem qml_0_84 (w : qE) : zTml w.T 0 84 = some (33, 1, 0) := by show qfind qml 0 84 = _; decide +kernel
theorem qml_0_87 (w : qE) : zTml w.T 0 87 = some (47, 1, 0) := by show qfind qml 0 87 = _; decide +kernel
theorem qml_0_90 (w : qE) : zTml w.T 0 90 = some (56, 1, 0) := by show qfind qml 0 90 = _; decide +kernel
theorem qml_0_93 (w : qE) : zTml w.T 0 93 = some (60, 1, 0) := by show qfind qml 0 93 = _; decide +kernel
theorem qml_0_96 (w : qE) : zTml w.T 0 96 = some (86, 1, 0) := by show qfind qml 0 96 = _; decide +kernel
theorem qml_0_99 (w : qE) : zTml w.T 0 99 = some (91, 1, 0) := by show qfind qml 0 99 = _; decide +kernel
theorem qml_0_102 (w : qE) : zTml w.T 0 102 = some (92, 1, 0) := by show qfind qml 0 102 = _; decide +kernel
theorem qml_0_109 (w : qE) : zTml w.T 0 109 = some (34, 1, 0) := by show qfind qml 0 109 = _; decide +kernel
theorem qml_0_115 (w : qE) : zTml w.T 0 115 = some (93, 1, 1) := by show qfind qml 0 115 = _; decide +kernel
theorem qml_0_122 (w : qE) : zTml w.T 0 122 = some (15, 1, 0) := by show qfind qml 0 122 = _; decide +kernel
theorem qml_0_125 (w : qE) : zTml w.T 0 125 = some (95, 1, 0) := by show qfind qml 0 125 = _; decide +kernel
theorem qml_0_128 (w : qE) : zTml w.T 0 128 = some (96, 1, 1) := by show qfind qml 0 128 = _; decide +kernel
theorem qml_0_132 (w : qE) : zTml w.T 0 132 = some (36, 1, 2) := by show qfind qml 0 132 = _; decide +kernel
theorem qml_0_136 (w : qE) : zTml w.T 0 136 = some (35, 1, 1) := by show qfind qml 0 136 = _; decide +kernel
theorem qml_0_139 (w : qE) : zTml w.T 0 139 = some (49, 1, 1) := by show qfind qml 0 139 = _; decide +kernel
theorem qml_0_142 (w : qE) : zTml w.T 0 142 = some (98, 1, 1) := by show qfind qml 0 142 = _; decide +kernel
theorem qml_0_146 (w : qE) : zTml w.T 0 146 = some (99, 0, 1) := by show qfind qml 0 146 = _; decide +kernel
theorem qml_0_152 (w : qE) : zTml w.T 0 152 = some (102, 0, 1) := by show qfind qml 0 152 = _; decide +kernel
theorem qml_0_158 (w : qE) : zTml w.T 0 158 = some (104, 1, 1) := by show qfind qml 0 158 = _; decide +kernel
theorem qml_0_161 (w : qE) : zTml w.T 0 161 = some (65, 1, 2) := by show qfind qml 0 161 = _; decide +kernel
theorem qml_0_164 (w : qE) : zTml w.T 0 164 = some (106, 1, 2) := by show qfind qml 0 164 = _; decide +kernel
theorem qml_0_192 (w : qE) : zTml w.T 0 192 = some (118, 1, 0) := by show qfind qml 0 192 = _; decide +kernel
theorem qml_0_207 (w : qE) : zTml w.T 0 207 = some (121, 0, 3) := by show qfind qml 0 207 = _; decide +kernel
theorem qml_1_31 (w : qE) : zTml w.T 1 31 = some (20, 1, 2) := by show qfind qml 1 31 = _; decide +kernel
theorem qml_1_35 (w : qE) : zTml w.T 1 35 = some (19, 1, 1) := by show qfind qml 1 35 = _; decide +kernel
theorem qml_1_39 (w : qE) : zTml w.T 1 39 = some (29, 1, 1) := by show qfind qml 1 39 = _; decide +kernel
theorem qml_2_32 (w : qE) : zTml w.T 2 32 = some (24, 1, 0) := by show qfind qml 2 32 = _; decide +kernel
theorem qml_2_35 (w : qE) : zTml w.T 2 35 = some (19, 1, 1) := by show qfind qml 2 35 = _; decide +kernel
theorem qml_2_41 (w : qE) : zTml w.T 2 41 = some (21, 1, 0) := by show qfind qml 2 41 = _; decide +kernel
theorem qml_2_45 (w : qE) : zTml w.T 2 45 = some (20, 1, 2) := by show qfind qml 2 45 = _; decide +kernel
theorem qml_2_49 (w : qE) : zTml w.T 2 49 = some (25, 1, 1) := by show qfind qml 2 49 = _; decide +kernel
theorem qml_2_52 (w : qE) : zTml w.T 2 52 = some (26, 1, 3) := by show qfind qml 2 52 = _; decide +kernel
theorem qml_2_56 (w : qE) : zTml w.T 2 56 = some (27, 1, 3) := by show qfind qml 2 56 = _; decide +kernel
theorem qml_2_59 (w : qE) : zTml w.T 2 59 = some (28, 1, 1) := by show qfind qml 2 59 = _; decide +kernel
theorem qml_2_63 (w : qE) : zTml w.T 2 63 = some (32, 1, 3) := by show qfind qml 2 63 = _; decide +kernel
theorem qml_2_66 (w : qE) : zTml w.T 2 66 = some (29, 1, 1) := by show qfind qml 2 66 = _; decide +kernel
theorem qml_2_69 (w : qE) : zTml w.T 2 69 = some (30, 1, 1) := by show qfind qml 2 69 = _; decide +kernel
theorem qml_2_72 (w : qE) : zTml w.T 2 72 = some (31, 0, 1) := by show qfind qml 2 72 = _; decide +kernel
theorem qml_2_75 (w : qE) : zTml w.T 2 75 = some (34, 1, 0) := by show qfind qml 2 75 = _; decide +kernel
theorem qml_2_78 (w : qE) : zTml w.T 2 78 = some (35, 1, 1) := by show qfind qml 2 78 = _; decide +kernel
theorem qml_2_81 (w : qE) : zTml w.T 2 81 = some (37, 1, 1) := by show qfind qml 2 81 = _; decide +kernel
theorem qml_2_84 (w : qE) : zTml w.T 2 84 = some (38, 1, 1) := by show qfind qml 2 84 = _; decide +kernel
theorem qml_2_87 (w : qE) : zTml w.T 2 87 = some (39, 0, 3) := by show qfind qml 2 87 = _; decide +kernel
theorem qml_2_93 (w : qE) : zTml w.T 2 93 = some (36, 1, 2) := by show qfind qml 2 93 = _; decide +kernel
theorem qml_2_97 (w : qE) : zTml w.T 2 97 = some (51, 1, 2) := by show qfind qml 2 97 = _; decide +kernel
theorem qml_2_101 (w : qE) : zTml w.T 2 101 = some (49, 1, 1) := by show qfind qml 2 101 = _; decide +kernel
theorem qml_2_104 (w : qE) : zTml w.T 2 104 = some (50, 1, 1) := by show qfind qml 2 104 = _; decide +kernel
theorem qml_2_109 (w : qE) : zTml w.T 2 109 = some (96, 1, 1) := by show qfind qml 2 109 = _; decide +kernel
theorem qml_2_113 (w : qE) : zTml w.T 2 113 = some (41, 0, 4) := by show qfind qml 2 113 = _; decide +kernel
theorem qml_3_22 (w : qE) : zTml w.T 3 22 = some (203, 0, 4) := by show qfind qml 3 22 = _; decide +kernel
theorem qml_4_25 (w : qE) : zTml w.T 4 25 = some (34, 1, 0) := by show qfind qml 4 25 = _; decide +kernel
theorem qml_4_31 (w : qE) : zTml w.T 4 31 = some (48, 1, 1) := by show qfind qml 4 31 = _; decide +kernel
theorem qml_4_35 (w : qE) : zTml w.T 4 35 = some (36, 1, 2) := by show qfind qml 4 35 = _; decide +kernel
theorem qml_4_39 (w : qE) : zTml w.T 4 39 = some (20, 1, 2) := by show qfind qml 4 39 = _; decide +kernel
theorem qml_4_45 (w : qE) : zTml w.T 4 45 = some (35, 1, 1) := by show qfind qml 4 45 = _; decide +kernel
theorem qml_4_49 (w : qE) : zTml w.T 4 49 = some (49, 1, 1) := by show qfind qml 4 49 = _; decide +kernel
theorem qml_4_52 (w : qE) : zTml w.T 4 52 = some (50, 1, 1) := by show qfind qml 4 52 = _; decide +kernel
theorem qml_4_57 (w : qE) : zTml w.T 4 57 = some (51, 1, 2) := by show qfind qml 4 57 = _; decide +kernel
theorem qml_4_61 (w : qE) : zTml w.T 4 61 = some (52, 1, 2) := by show qfind qml 4 61 = _; decide +kernel
theorem qml_4_64 (w : qE) : zTml w.T 4 64 = some (53, 1, 1) := by show qfind qml 4 64 = _; decide +kernel
theorem qml_4_67 (w : qE) : zTml w.T 4 67 = some (54, 1, 2) := by show qfind qml 4 67 = _; decide +kernel
theorem qml_4_70 (w : qE) : zTml w.T 4 70 = some (55, 0, 2) := by show qfind qml 4 70 = _; decide +kernel
theorem qml_5_47 (w : qE) : zTml w.T 5 47 = some (24, 1, 0) := by show qfind qml 5 47 = _; decide +kernel
theorem qml_5_52 (w : qE) : zTml w.T 5 52 = some (69, 1, 2) := by show qfind qml 5 52 = _; decide +kernel
theorem qml_5_65 (w : qE) : zTml w.T 5 65 = some (19, 1, 1) := by show qfind qml 5 65 = _; decide +kernel
theorem qml_5_71 (w : qE) : zTml w.T 5 71 = some (21, 1, 0) := by show qfind qml 5 71 = _; decide +kernel
theorem qml_5_75 (w : qE) : zTml w.T 5 75 = some (70, 1, 1) := by show qfind qml 5 75 = _; decide +kernel
theorem qml_5_80 (w : qE) : zTml w.T 5 80 = some (71, 1, 2) := by show qfind qml 5 80 = _; decide +kernel
theorem qml_5_87 (w : qE) : zTml w.T 5 87 = some (20, 1, 2) := by show qfind qml 5 87 = _; decide +kernel
theorem qml_5_94 (w : qE) : zTml w.T 5 94 = some (73, 1, 0) := by show qfind qml 5 94 = _; decide +kernel
theorem qml_5_106 (w : qE) : zTml w.T 5 106 = some (74, 1, 1) := by show qfind qml 5 106 = _; decide +kernel
theorem qml_5_109 (w : qE) : zTml w.T 5 109 = some (75, 1, 0) := by show qfind qml 5 109 = _; decide +kernel
theorem qml_5_112 (w : qE) : zTml w.T 5 112 = some (80, 1, 0) := by show qfind qml 5 112 = _; decide +kernel
theorem qml_5_115 (w : qE) : zTml w.T 5 115 = some (81, 1, 0) := by show qfind qml 5 115 = _; decide +kernel
theorem qml_5_118 (w : qE) : zTml w.T 5 118 = some (78, 1, 1) := by show qfind qml 5 118 = _; decide +kernel
theorem qml_5_121 (w : qE) : zTml w.T 5 121 = some (82, 1, 1) := by show qfind qml 5 121 = _; decide +kernel
theorem qml_5_125 (w : qE) : zTml w.T 5 125 = some (83, 1, 0) := by show qfind qml 5 125 = _; decide +kernel
theorem qml_5_128 (w : qE) : zTml w.T 5 128 = some (76, 1, 1) := by show qfind qml 5 128 = _; decide +kernel
theorem qml_5_143 (w : qE) : zTml w.T 5 143 = some (72, 1, 2) := by show qfind qml 5 143 = _; decide +kernel
theorem qml_5_152 (w : qE) : zTml w.T 5 152 = some (49, 1, 1) := by show qfind qml 5 152 = _; decide +kernel
theorem qml_5_155 (w : qE) : zTml w.T 5 155 = some (65, 1, 2) := by show qfind qml 5 155 = _; decide +kernel
theorem qml_5_159 (w : qE) : zTml w.T 5 159 = some (77, 1, 1) := by show qfind qml 5 159 = _; decide +kernel
theorem qml_5_162 (w : qE) : zTml w.T 5 162 = some (79, 1, 0) := by show qfind qml 5 162 = _; decide +kernel
theorem qml_5_165 (w : qE) : zTml w.T 5 165 = some (25, 1, 1) := by show qfind qml 5 165 = _; decide +kernel
theorem qml_5_168 (w : qE) : zTml w.T 5 168 = some (27, 1, 3) := by show qfind qml 5 168 = _; decide +kernel
theorem qml_5_172 (w : qE) : zTml w.T 5 172 = some (35, 1, 1) := by show qfind qml 5 172 = _; decide +kernel
theorem qml_5_175 (w : qE) : zTml w.T 5 175 = some (84, 0, 1) := by show qfind qml 5 175 = _; decide +kernel
theorem qml_6_38 (w : qE) : zTml w.T 6 38 = some (19, 1, 1) := by show qfind qml 6 38 = _; decide +kernel
theorem qml_6_45 (w : qE) : zTml w.T 6 45 = some (20, 1, 2) := by show qfind qml 6 45 = _; decide +kernel
theorem qml_6_57 (w : qE) : zTml w.T 6 57 = some (21, 1, 0) := by show qfind qml 6 57 = _; decide +kernel
theorem qml_6_61 (w : qE) : zTml w.T 6 61 = some (22, 1, 2) := by show qfind qml 6 61 = _; decide +kernel
theorem qml_6_67 (w : qE) : zTml w.T 6 67 = some (57, 0, 1) := by show qfind qml 6 67 = _; decide +kernel
theorem qml_6_71 (w : qE) : zTml w.T 6 71 = some (58, 1, 0) := by show qfind qml 6 71 = _; decide +kernel
theorem qml_6_80 (w : qE) : zTml w.T 6 80 = some (59, 1, 1) := by show qfind qml 6 80 = _; decide +kernel
theorem qml_6_85 (w : qE) : zTml w.T 6 85 = some (24, 1, 0) := by show qfind qml 6 85 = _; decide +kernel
theorem qml_6_88 (w : qE) : zTml w.T 6 88 = some (25, 1, 1) := by show qfind qml 6 88 = _; decide +kernel
theorem qml_6_91 (w : qE) : zTml w.T 6 91 = some (61, 1, 0) := by show qfind qml 6 91 = _; decide +kernel
theorem qml_6_96 (w : qE) : zTml w.T 6 96 = some (36, 1, 2) := by show qfind qml 6 96 = _; decide +kernel
theorem qml_6_100 (w : qE) : zTml w.T 6 100 = some (69, 1, 2) := by show qfind qml 6 100 = _; decide +kernel
theorem qml_6_105 (w : qE) : zTml w.T 6 105 = some (85, 1, 3) := by show qfind qml 6 105 = _; decide +kernel
theorem qml_6_109 (w : qE) : zTml w.T 6 109 = some (62, 0, 1) := by show qfind qml 6 109 = _; decide +kernel
theorem qml_6_114 (w : qE) : zTml w.T 6 114 = some (63, 1, 1) := by show qfind qml 6 114 = _; decide +kernel
theorem qml_6_117 (w : qE) : zTml w.T 6 117 = some (64, 0, 4) := by show qfind qml 6 117 = _; decide +kernel
theorem qml_6_121 (w : qE) : zTml w.T 6 121 = some (65, 1, 2) := by show qfind qml 6 121 = _; decide +kernel
theorem qml_6_124 (w : qE) : zTml w.T 6 124 = some (66, 0, 1) := by show qfind qml 6 124 = _; decide +kernel
theorem qml_6_127 (w : qE) : zTml w.T 6 127 = some (27, 1, 3) := by show qfind qml 6 127 = _; decide +kernel
theorem qml_6_131 (w : qE) : zTml w.T 6 131 = some (67, 1, 2) := by show qfind qml 6 131 = _; decide +kernel
theorem qml_6_135 (w : qE) : zTml w.T 6 135 = some (87, 1, 0) := by show qfind qml 6 135 = _; decide +kernel
theorem qml_6_138 (w : qE) : zTml w.T 6 138 = some (88, 0, 1) := by show qfind qml 6 138 = _; decide +kernel
theorem qml_6_141 (w : qE) : zTml w.T 6 141 = some (89, 1, 2) := by show qfind qml 6 141 = _; decide +kernel
theorem qml_6_145 (w : qE) : zTml w.T 6 145 = some (37, 1, 1) := by show qfind qml 6 145 = _; decide +kernel
theorem qml_6_152 (w : qE) : zTml w.T 6 152 = some (38, 1, 1) := by show qfind qml 6 152 = _; decide +kernel
theorem qml_6_155 (w : qE) : zTml w.T 6 155 = some (90, 0, 3) := by show qfind qml 6 155 = _; decide +kernel
theorem qml_6_159 (w : qE) : zTml w.T 6 159 = some (205, 0, 1) := by show qfind qml 6 159 = _; decide +kernel
theorem qml_6_164 (w : qE) : zTml w.T 6 164 = some (51, 1, 2) := by show qfind qml 6 164 = _; decide +kernel
theorem qml_6_168 (w : qE) : zTml w.T 6 168 = some (72, 1, 2) := by show qfind qml 6 168 = _; decide +kernel
theorem qml_6_172 (w : qE) : zTml w.T 6 172 = some (49, 1, 1) := by show qfind qml 6 172 = _; decide +kernel
theorem qml_6_184 (w : qE) : zTml w.T 6 184 = some (68, 1, 2) := by show qfind qml 6 184 = _; decide +kernel
theorem qml_7_25 (w : qE) : zTml w.T 7 25 = some (35, 1, 1) := by show qfind qml 7 25 = _; decide +kernel
theorem qml_7_31 (w : qE) : zTml w.T 7 31 = some (107, 1, 1) := by show qfind qml 7 31 = _; decide +kernel
theorem qml_7_35 (w : qE) : zTml w.T 7 35 = some (49, 1, 1) := by show qfind qml 7 35 = _; decide +kernel
theorem qml_7_38 (w : qE) : zTml w.T 7 38 = some (113, 1, 1) := by show qfind qml 7 38 = _; decide +kernel
theorem qml_7_41 (w : qE) : zTml w.T 7 41 = some (114, 1, 1) := by show qfind qml 7 41 = _; decide +kernel
theorem qml_7_44 (w : qE) : zTml w.T 7 44 = some (115, 1, 2) := by show qfind qml 7 44 = _; decide +kernel
theorem qml_7_48 (w : qE) : zTml w.T 7 48 = some (50, 1, 1) := by show qfind qml 7 48 = _; decide +kernel
theorem qml_7_53 (w : qE) : zTml w.T 7 53 = some (51, 1, 2) := by show qfind qml 7 53 = _; decide +kernel
theorem qml_7_57 (w : qE) : zTml w.T 7 57 = some (37, 1, 1) := by show qfind qml 7 57 = _; decide +kernel
theorem qml_7_60 (w : qE) : zTml w.T 7 60 = some (38, 1, 1) := by show qfind qml 7 60 = _; decide +kernel
theorem qml_7_63 (w : qE) : zTml w.T 7 63 = some (110, 1, 2) := by show qfind qml 7 63 = _; decide +kernel
theorem qml_7_67 (w : qE) : zTml w.T 7 67 = some (109, 1, 1) := by show qfind qml 7 67 = _; decide +kernel
theorem qml_7_70 (w : qE) : zTml w.T 7 70 = some (116, 1, 2) := by show qfind qml 7 70 = _; decide +kernel
theorem qml_7_73 (w : qE) : zTml w.T 7 73 = some (108, 1, 2) := by show qfind qml 7 73 = _; decide +kernel
theorem qml_7_80 (w : qE) : zTml w.T 7 80 = some (46, 0, 3) := by show qfind qml 7 80 = _; decide +kernel
theorem qml_7_84 (w : qE) : zTml w.T 7 84 = some (43, 0, 3) := by show qfind qml 7 84 = _; decide +kernel
theorem qml_7_87 (w : qE) : zTml w.T 7 87 = some (111, 0, 1) := by show qfind qml 7 87 = _; decide +kernel
theorem qml_7_91 (w : qE) : zTml w.T 7 91 = some (112, 1, 1) := by show qfind qml 7 91 = _; decide +kernel
theorem qml_7_115 (w : qE) : zTml w.T 7 115 = some (206, 1, 0) := by show qfind qml 7 115 = _; decide +kernel
theorem qml_7_121 (w : qE) : zTml w.T 7 121 = some (208, 1, 1) := by show qfind qml 7 121 = _; decide +kernel
theorem qml_8_63 (w : qE) : zTml w.T 8 63 = some (125, 0, 3) := by show qfind qml 8 63 = _; decide +kernel
theorem qml_8_76 (w : qE) : zTml w.T 8 76 = some (133, 1, 1) := by show qfind qml 8 76 = _; decide +kernel
theorem qml_8_80 (w : qE) : zTml w.T 8 80 = some (134, 1, 0) := by show qfind qml 8 80 = _; decide +kernel
theorem qml_8_84 (w : qE) : zTml w.T 8 84 = some (132, 1, 0) := by show qfind qml 8 84 = _; decide +kernel
theorem qml_8_88 (w : qE) : zTml w.T 8 88 = some (131, 1, 0) := by show qfind qml 8 88 = _; decide +kernel
theorem qml_8_91 (w : qE) : zTml w.T 8 91 = some (142, 1, 1) := by show qfind qml 8 91 = _; decide +kernel
theorem qml_8_98 (w : qE) : zTml w.T 8 98 = some (137, 0, 1) := by show qfind qml 8 98 = _; decide +kernel
theorem qml_8_101 (w : qE) : zTml w.T 8 101 = some (156, 1, 1) := by show qfind qml 8 101 = _; decide +kernel
theorem qml_8_104 (w : qE) : zTml w.T 8 104 = some (151, 1, 1) := by show qfind qml 8 104 = _; decide +kernel
theorem qml_8_107 (w : qE) : zTml w.T 8 107 = some (146, 1, 2) := by show qfind qml 8 107 = _; decide +kernel
theorem qml_8_111 (w : qE) : zTml w.T 8 111 = some (155, 1, 2) := by show qfind qml 8 111 = _; decide +kernel
theorem qml_8_115 (w : qE) : zTml w.T 8 115 = some (157, 1, 1) := by show qfind qml 8 115 = _; decide +kernel
theorem qml_8_118 (w : qE) : zTml w.T 8 118 = some (149, 0, 1) := by show qfind qml 8 118 = _; decide +kernel
theorem qml_8_121 (w : qE) : zTml w.T 8 121 = some (150, 1, 3) := by show qfind qml 8 121 = _; decide +kernel
theorem qml_8_125 (w : qE) : zTml w.T 8 125 = some (148, 1, 2) := by show qfind qml 8 125 = _; decide +kernel
theorem qml_8_134 (w : qE) : zTml w.T 8 134 = some (147, 1, 1) := by show qfind qml 8 134 = _; decide +kernel
theorem qml_8_137 (w : qE) : zTml w.T 8 137 = some (139, 1, 1) := by show qfind qml 8 137 = _; decide +kernel
theorem qml_8_140 (w : qE) : zTml w.T 8 140 = some (143, 1, 1) := by show qfind qml 8 140 = _; decide +kernel
theorem qml_8_143 (w : qE) : zTml w.T 8 143 = some (144, 1, 1) := by show qfind qml 8 143 = _; decide +kernel
theorem qml_8_146 (w : qE) : zTml w.T 8 146 = some (152, 1, 1) := by show qfind qml 8 146 = _; decide +kernel
theorem qml_8_149 (w : qE) : zTml w.T 8 149 = some (141, 1, 1) := by show qfind qml 8 149 = _; decide +kernel
theorem qml_8_152 (w : qE) : zTml w.T 8 152 = some (136, 1, 0) := by show qfind qml 8 152 = _; decide +kernel
theorem qml_8_155 (w : qE) : zTml w.T 8 155 = some (130, 1, 0) := by show qfind qml 8 155 = _; decide +kernel
theorem qml_8_158 (w : qE) : zTml w.T 8 158 = some (145, 1, 1) := by show qfind qml 8 158 = _; decide +kernel
theorem qml_8_161 (w : qE) : zTml w.T 8 161 = some (153, 1, 2) := by show qfind qml 8 161 = _; decide +kernel
theorem qml_8_165 (w : qE) : zTml w.T 8 165 = some (154, 1, 1) := by show qfind qml 8 165 = _; decide +kernel
theorem qml_8_168 (w : qE) : zTml w.T 8 168 = some (140, 1, 1) := by show qfind qml 8 168 = _; decide +kernel
theorem qml_8_171 (w : qE) : zTml w.T 8 171 = some (160, 1, 1) := by show qfind qml 8 171 = _; decide +kernel
theorem qml_8_177 (w : qE) : zTml w.T 8 177 = some (159, 1, 1) := by show qfind qml 8 177 = _; decide +kernel
theorem qml_8_193 (w : qE) : zTml w.T 8 193 = some (162, 1, 3) := by show qfind qml 8 193 = _; decide +kernel
theorem qml_8_197 (w : qE) : zTml w.T 8 197 = some (163, 0, 1) := by show qfind qml 8 197 = _; decide +kernel
theorem qml_8_200 (w : qE) : zTml w.T 8 200 = some (164, 1, 3) := by show qfind qml 8 200 = _; decide +kernel
theorem qml_8_204 (w : qE) : zTml w.T 8 204 = some (165, 1, 2) := by show qfind qml 8 204 = _; decide +kernel
theorem qml_8_207 (w : qE) : zTml w.T 8 207 = some (166, 1, 2) := by show qfind qml 8 207 = _; decide +kernel
theorem qml_8_210 (w : qE) : zTml w.T 8 210 = some (167, 1, 2) := by show qfind qml 8 210 = _; decide +kernel
theorem qml_8_213 (w : qE) : zTml w.T 8 213 = some (168, 1, 2) := by show qfind qml 8 213 = _; decide +kernel
theorem qml_8_217 (w : qE) : zTml w.T 8 217 = some (169, 1, 1) := by show qfind qml 8 217 = _; decide +kernel
theorem qml_8_221 (w : qE) : zTml w.T 8 221 = some (170, 1, 1) := by show qfind qml 8 221 = _; decide +kernel
theorem qml_8_224 (w : qE) : zTml w.T 8 224 = some (171, 1, 2) := by show qfind qml 8 224 = _; decide +kernel
theorem qml_8_228 (w : qE) : zTml w.T 8 228 = some (173, 1, 1) := by show qfind qml 8 228 = _; decide +kernel
theorem qml_8_232 (w : qE) : zTml w.T 8 232 = some (172, 1, 0) := by show qfind qml 8 232 = _; decide +kernel
theorem qml_8_235 (w : qE) : zTml w.T 8 235 = some (174, 1, 1) := by show qfind qml 8 235 = _; decide +kernel
theorem qml_8_243 (w : qE) : zTml w.T 8 243 = some (135, 1, 0) := by show qfind qml 8 243 = _; decide +kernel
theorem qml_8_246 (w : qE) : zTml w.T 8 246 = some (138, 1, 0) := by show qfind qml 8 246 = _; decide +kernel
theorem qml_8_249 (w : qE) : zTml w.T 8 249 = some (158, 1, 0) := by show qfind qml 8 249 = _; decide +kernel
theorem qml_8_252 (w : qE) : zTml w.T 8 252 = some (161, 1, 1) := by show qfind qml 8 252 = _; decide +kernel
theorem qml_8_256 (w : qE) : zTml w.T 8 256 = some (129, 1, 0) := by show qfind qml 8 256 = _; decide +kernel
theorem qml_8_262 (w : qE) : zTml w.T 8 262 = some (177, 1, 0) := by show qfind qml 8 262 = _; decide +kernel
theorem qml_8_265 (w : qE) : zTml w.T 8 265 = some (178, 1, 1) := by show qfind qml 8 265 = _; decide +kernel
theorem qml_8_274 (w : qE) : zTml w.T 8 274 = some (180, 0, 2) := by show qfind qml 8 274 = _; decide +kernel
theorem qml_8_284 (w : qE) : zTml w.T 8 284 = some (187, 1, 2) := by show qfind qml 8 284 = _; decide +kernel
theorem qml_8_287 (w : qE) : zTml w.T 8 287 = some (186, 1, 4) := by show qfind qml 8 287 = _; decide +kernel
theorem qml_8_291 (w : qE) : zTml w.T 8 291 = some (188, 1, 2) := by show qfind qml 8 291 = _; decide +kernel
theorem qml_8_294 (w : qE) : zTml w.T 8 294 = some (185, 1, 3) := by show qfind qml 8 294 = _; decide +kernel
theorem qml_8_297 (w : qE) : zTml w.T 8 297 = some (184, 1, 2) := by show qfind qml 8 297 = _; decide +kernel
theorem qml_8_300 (w : qE) : zTml w.T 8 300 = some (190, 1, 2) := by show qfind qml 8 300 = _; decide +kernel
theorem qml_8_303 (w : qE) : zTml w.T 8 303 = some (189, 1, 3) := by show qfind qml 8 303 = _; decide +kernel
theorem qml_8_306 (w : qE) : zTml w.T 8 306 = some (183, 1, 1) := by show qfind qml 8 306 = _; decide +kernel
theorem qml_8_309 (w : qE) : zTml w.T 8 309 = some (193, 1, 2) := by show qfind qml 8 309 = _; decide +kernel
theorem qml_9_9 (w : qE) : zTml w.T 9 9 = some (40, 0, 3) := by show qfind qml 9 9 = _; decide +kernel
theorem qml_9_15 (w : qE) : zTml w.T 9 15 = some (42, 0, 3) := by show qfind qml 9 15 = _; decide +kernel
theorem qml_9_19 (w : qE) : zTml w.T 9 19 = some (43, 0, 3) := by show qfind qml 9 19 = _; decide +kernel
theorem qml_9_22 (w : qE) : zTml w.T 9 22 = some (45, 0, 3) := by show qfind qml 9 22 = _; decide +kernel
theorem qml_9_26 (w : qE) : zTml w.T 9 26 = some (41, 0, 4) := by show qfind qml 9 26 = _; decide +kernel
theorem qml_9_32 (w : qE) : zTml w.T 9 32 = some (44, 0, 1) := by show qfind qml 9 32 = _; decide +kernel
theorem qml_9_36 (w : qE) : zTml w.T 9 36 = some (46, 0, 3) := by show qfind qml 9 36 = _; decide +kernel
theorem qml_9_41 (w : qE) : zTml w.T 9 41 = some (66, 0, 1) := by show qfind qml 9 41 = _; decide +kernel
theorem qml_9_44 (w : qE) : zTml w.T 9 44 = some (206, 1, 0) := by show qfind qml 9 44 = _; decide +kernel
theorem qml_9_50 (w : qE) : zTml w.T 9 50 = some (208, 1, 1) := by show qfind qml 9 50 = _; decide +kernel
theorem qml_10_7 (w : qE) : zTml w.T 10 7 = some (100, 0, 1) := by show qfind qml 10 7 = _; decide +kernel
theorem qml_10_14 (w : qE) : zTml w.T 10 14 = some (101, 0, 2) := by show qfind qml 10 14 = _; decide +kernel
theorem qml_12_13 (w : qE) : zTml w.T 12 13 = some (204, 0, 3) := by show qfind qml 12 13 = _; decide +kernel
theorem qtm_8 {w : qE} : zTms w.T 8 = some qm8 := rfl
theorem qtm_9 {w : qE} : zTms w.T 9 = some qm9 := rfl
theorem qtm_10 {w : qE} : zTms w.T 10 = some qm10 := rfl
theorem qtm_11 {w : qE} : zTms w.T 11 = some qm11 := rfl
theorem qtm_12 {w : qE} : zTms w.T 12 = some qm12 := rfl
theorem qtm_13 {w : qE} : zTms w.T 13 = some qm13 := rfl
theorem qtm_14 {w : qE} : zTms w.T 14 = some qm14 := rfl
theorem qtm_15 {w : qE} : zTms w.T 15 = some qm15 := rfl
theorem qtm_16 {w : qE} : zTms w.T 16 = some qm16 := rfl
theorem qtm_17 {w : qE} : zTms w.T 17 = some qm17 := rfl
theorem qtm_18 {w : qE} : zTms w.T 18 = some qm18 := rfl
theorem qtm_19 {w : qE} : zTms w.T 19 = some qm19 := rfl
theorem qtm_20 {w : qE} : zTms w.T 20 = some qm20 := rfl
theorem qtm_21 {w : qE} : zTms w.T 21 = some qm21 := rfl
theorem qtm_22 {w : qE} : zTms w.T 22 = some qm22 := rfl
theorem qtm_23 {w : qE} : zTms w.T 23 = some qm23 := rfl
theorem qtm_24 {w : qE} : zTms w.T 24 = some qm24 := rfl
theorem qtm_25 {w : qE} : zTms w.T 25 = some qm25 := rfl
theorem qtm_26 {w : qE} : zTms w.T 26 = some qm26 := rfl
theorem qtm_27 {w : qE} : zTms w.T 27 = some qm27 := rfl
theorem qtm_28 {w : qE} : zTms w.T 28 = some qm28 := rfl
theorem qtm_29 {w : qE} : zTms w.T 29 = some qm29 := rfl
theorem qtm_30 {w : qE} : zTms w.T 30 = some qm30 := rfl
theorem qtm_31 {w : qE} : zTms w.T 31 = some qm31 := rfl
theorem qtm_32 {w : qE} : zTms w.T 32 = some qm32 := rfl
theorem qtm_33 {w : qE} : zTms w.T 33 = some qm33 := rfl
theorem qtm_34 {w : qE} : zTms w.T 34 = some qm34 := rfl
theorem qtm_35 {w : qE} : zTms w.T 35 = some qm35 := rfl
theorem qtm_36 {w : qE} : zTms w.T 36 = some qm36 := rfl
theorem qtm_37 {w : qE} : zTms w.T 37 = some qm37 := rfl
theorem qtm_38 {w : qE} : zTms w.T 38 = some qm38 := rfl
theorem qtm_39 {w : qE} : zTms w.T 39 = some qm39 := rfl
theorem qtm_40 {w : qE} : zTms w.T 40 = some qm40 := rfl
theorem qtm_41 {w : qE} : zTms w.T 41 = some qm41 := rfl
theorem qtm_42 {w : qE} : zTms w.T 42 = some qm42 := rfl
theorem qtm_43 {w : qE} : zTms w.T 43 = some qm43 := rfl
theorem qtm_44 {w : qE} : zTms w.T 44 = some qm44 := rfl
theorem qtm_45 {w : qE} : zTms w.T 45 = some qm45 := rfl
theorem qtm_46 {w : qE} : zTms w.T 46 = some qm46 := rfl
theorem qtm_47 {w : qE} : zTms w.T 47 = some qm47 := rfl
theorem qtm_48 {w : qE} : zTms w.T 48 = some qm48 := rfl
theorem qtm_49 {w : qE} : zTms w.T 49 = some qm49 := rfl
theorem qtm_50 {w : qE} : zTms w.T 50 = some qm50 := rfl
theorem qtm_51 {w : qE} : zTms w.T 51 = some qm51 := rfl
theorem qtm_52 {w : qE} : zTms w.T 52 = some qm52 := rfl
theorem qtm_53 {w : qE} : zTms w.T 53 = some qm53 := rfl
theorem qtm_54 {w : qE} : zTms w.T 54 = some qm54 := rfl
theorem qtm_55 {w : qE} : zTms w.T 55 = some qm55 := rfl
theorem qtm_56 {w : qE} : zTms w.T 56 = some qm56 := rfl
theorem qtm_57 {w : qE} : zTms w.T 57 = some qm57 := rfl
theorem qtm_58 {w : qE} : zTms w.T 58 = some qm58 := rfl
theorem qtm_59 {w : qE} : zTms w.T 59 = some qm59 := rfl
theorem qtm_60 {w : qE} : zTms w.T 60 = some qm60 := rfl
theorem qtm_61 {w : qE} : zTms w.T 61 = some qm61 := rfl
theorem qtm_62 {w : qE} : zTms w.T 62 = some qm62 := rfl
theorem qtm_63 {w : qE} : zTms w.T 63 = some qm63 := rfl
theorem qtm_64 {w : qE} : zTms w.T 64 = some qm64 := rfl
theorem qtm_65 {w : qE} : zTms w.T 65 = some qm65 := rfl
theorem qtm_66 {w : qE} : zTms w.T 66 = some qm66 := rfl
theorem qtm_67 {w : qE} : zTms w.T 67 = some qm67 := rfl
theorem qtm_68 {w : qE} : zTms w.T 68 = some qm68 := rfl
theorem qtm_69 {w : qE} : zTms w.T 69 = some qm69 := rfl
theorem qtm_70 {w : qE} : zTms w.T 70 = some qm70 := rfl
theorem qtm_71 {w : qE} : zTms w.T 71 = some qm71 := rfl
theorem qtm_72 {w : qE} : zTms w.T 72 = some qm72 := rfl
theorem qtm_73 {w : qE} : zTms w.T 73 = some qm73 := rfl
theorem qtm_74 {w : qE} : zTms w.T 74 = some qm74 := rfl
theorem qtm_75 {w : qE} : zTms w.T 75 = some qm75 := rfl
theorem qtm_76 {w : qE} : zTms w.T 76 = some qm76 := rfl
theorem qtm_77 {w : qE} : zTms w.T 77 = some qm77 := rfl
theorem qtm_78 {w : qE} : zTms w.T 78 = some qm78 := rfl
theorem qtm_79 {w : qE} : zTms w.T 79 = some qm79 := rfl
theorem qtm_80 {w : qE} : zTms w.T 80 = some qm80 := rfl
theorem qtm_81 {w : qE} : zTms w.T 81 = some qm81 := rfl
theorem qtm_82 {w : qE} : zTms w.T 82 = some qm82 := rfl
theorem qtm_83 {w : qE} : zTms w.T 83 = some qm83 := rfl
theorem qtm_84 {w : qE} : zTms w.T 84 = some qm84 := rfl
theorem qtm_85 {w : qE} : zTms w.T 85 = some qm85 := rfl
theorem qtm_86 {w : qE} : zTms w.T 86 = some qm86 := rfl
theorem qtm_87 {w : qE} : zTms w.T 87 = some qm87 := rfl
theorem qtm_88 {w : qE} : zTms w.T 88 = some qm88 := rfl
theorem qtm_89 {w : qE} : zTms w.T 89 = some qm89 := rfl
theorem qtm_90 {w : qE} : zTms w.T 90 = some qm90 := rfl
theorem qtm_91 {w : qE} : zTms w.T 91 = some qm91 := rfl
theorem qtm_92 {w : qE} : zTms w.T 92 = some qm92 := rfl
theorem qtm_93 {w : qE} : zTms w.T 93 = some qm93 := rfl
theorem qtm_94 {w : qE} : zTms w.T 94 = some qm94 := rfl
theorem qtm_95 {w : qE} : zTms w.T 95 = some qm95 := rfl
theorem qtm_96 {w : qE} : zTms w.T 96 = some qm96 := rfl
theorem qtm_97 {w : qE} : zTms w.T 97 = some qm97 := rfl
theorem qtm_98 {w : qE} : zTms w.T 98 = some qm98 := rfl
theorem qtm_99 {w : qE} : zTms w.T 99 = some qm99 := rfl
theorem qtm_100 {w : qE} : zTms w.T 100 = some qm100 := rfl
theorem qtm_101 {w : qE} : zTms w.T 101 = some qm101 := rfl
theorem qtm_102 {w : qE} : zTms w.T 102 = some qm102 := rfl
theorem qtm_103 {w : qE} : zTms w.T 103 = some qm103 := rfl
theorem qtm_104 {w : qE} : zTms w.T 104 = some qm104 := rfl
theorem qtm_105 {w : qE} : zTms w.T 105 = some qm105 := rfl
theorem qtm_106 {w : qE} : zTms w.T 106 = some qm106 := rfl
theorem qtm_107 {w : qE} : zTms w.T 107 = some qm107 := rfl
theorem qtm_108 {w : qE} : zTms w.T 108 = some qm108 := rfl
theorem qtm_109 {w : qE} : zTms w.T 109 = some qm109 := rfl
theorem qtm_110 {w : qE} : zTms w.T 110 = some qm110 := rfl
theorem qtm_111 {w : qE} : zTms w.T 111 = some qm111 := rfl
theorem qtm_112 {w : qE} : zTms w.T 112 = some qm112 := rfl
theorem qtm_113 {w : qE} : zTms w.T 113 = some qm113 := rfl
theorem qtm_114 {w : qE} : zTms w.T 114 = some qm114 := rfl
theorem qtm_115 {w : qE} : zTms w.T 115 = some qm115 := rfl
theorem qtm_116 {w : qE} : zTms w.T 116 = some qm116 := rfl
theorem qtm_117 {w : qE} : zTms w.T 117 = some qm117 := rfl
theorem qtm_118 {w : qE} : zTms w.T 118 = some qm118 := rfl
theorem qtm_119 {w : qE} : zTms w.T 119 = some qm119 := rfl
theorem qtm_120 {w : qE} : zTms w.T 120 = some qm120 := rfl
theorem qtm_121 {w : qE} : zTms w.T 121 = some qm121 := rfl
theorem qtm_123 {w : qE} : zTms w.T 123 = some qm123 := rfl
theorem qtm_124 {w : qE} : zTms w.T 124 = some qm124 := rfl
theorem qtm_125 {w : qE} : zTms w.T 125 = some qm125 := rfl
theorem qtm_126 {w : qE} : zTms w.T 126 = some qm126 := rfl
theorem qtm_127 {w : qE} : zTms w.T 127 = some qm127 := rfl
theorem qtm_128 {w : qE} : zTms w.T 128 = some qm128 := rfl
theorem qtm_129 {w : qE} : zTms w.T 129 = some qm129 := rfl
theorem qtm_130 {w : qE} : zTms w.T 130 = some qm130 := rfl
theorem qtm_131 {w : qE} : zTms w.T 131 = some qm131 := rfl
theorem qtm_132 {w : qE} : zTms w.T 132 = some qm132 := rfl
theorem qtm_133 {w : qE} : zTms w.T 133 = some qm133 := rfl
theorem qtm_134 {w : qE} : zTms w.T 134 = some qm134 := rfl
theorem qtm_135 {w : qE} : zTms w.T 135 = some qm135 := rfl
theorem qtm_136 {w : qE} : zTms w.T 136 = some qm136 := rfl
theorem qtm_137 {w : qE} : zTms w.T 137 = some qm137 := rfl
theorem qtm_138 {w : qE} : zTms w.T 138 = some qm138 := rfl
theorem qtm_139 {w : qE} : zTms w.T 139 = some qm139 := rfl
theorem qtm_140 {w : qE} : zTms w.T 140 = some qm140 := rfl
theorem qtm_141 {w : qE} : zTms w.T 141 = some qm141 := rfl
theorem qtm_142 {w : qE} : zTms w.T 142 = some qm142 := rfl
theorem qtm_143 {w : qE} : zTms w.T 143 = some qm143 := rfl
theorem qtm_144 {w : qE} : zTms w.T 144 = some qm144 := rfl
theorem qtm_145 {w : qE} : zTms w.T 145 = some qm145 := rfl
theorem qtm_146 {w : qE} : zTms w.T 146 = some qm146 := rfl
theorem qtm_147 {w : qE} : zTms w.T 147 = some qm147 := rfl
theorem qtm_148 {w : qE} : zTms w.T 148 = some qm148 := rfl
theorem qtm_149 {w : qE} : zTms w.T 149 = some qm149 := rfl
theorem qtm_150 {w : qE} : zTms w.T 150 = some qm150 := rfl
theorem qtm_151 {w : qE} : zTms w.T 151 = some qm151 := rfl
theorem qtm_152 {w : qE} : zTms w.T 152 = some qm152 := rfl
theorem qtm_153 {w : qE} : zTms w.T 153 = some qm153 := rfl
theorem qtm_154 {w : qE} : zTms w.T 154 = some qm154 := rfl
theorem qtm_155 {w : qE} : zTms w.T 155 = some qm155 := rfl
theorem qtm_156 {w : qE} : zTms w.T 156 = some qm156 := rfl
theorem qtm_157 {w : qE} : zTms w.T 157 = some qm157 := rfl
theorem qtm_158 {w : qE} : zTms w.T 158 = some qm158 := rfl
theorem qtm_159 {w : qE} : zTms w.T 159 = some qm159 := rfl
theorem qtm_160 {w : qE} : zTms w.T 160 = some qm160 := rfl
theorem qtm_161 {w : qE} : zTms w.T 161 = some qm161 := rfl
theorem qtm_162 {w : qE} : zTms w.T 162 = some qm162 := rfl
theorem qtm_163 {w : qE} : zTms w.T 163 = some qm163 := rfl
theorem qtm_164 {w : qE} : zTms w.T 164 = some qm164 := rfl
theorem qtm_165 {w : qE} : zTms w.T 165 = some qm165 := rfl
theorem qtm_166 {w : qE} : zTms w.T 166 = some qm166 := rfl
theorem qtm_167 {w : qE} : zTms w.T 167 = some qm167 := rfl
theorem qtm_168 {w : qE} : zTms w.T 168 = some qm168 := rfl
theorem qtm_169 {w : qE} : zTms w.T 169 = some qm169 := rfl
theorem qtm_170 {w : qE} : zTms w.T 170 = some qm170 := rfl
theorem qtm_171 {w : qE} : zTms w.T 171 = some qm171 := rfl
theorem qtm_172 {w : qE} : zTms w.T 172 = some qm172 := rfl
theorem qtm_173 {w : qE} : zTms w.T 173 = some qm173 := rfl
theorem qtm_174 {w : qE} : zTms w.T 174 = some qm174 := rfl
theorem qtm_175 {w : qE} : zTms w.T 175 = some qm175 := rfl
theorem qtm_176 {w : qE} : zTms w.T 176 = some qm176 := rfl
theorem qtm_177 {w : qE} : zTms w.T 177 = some qm177 := rfl
theorem qtm_178 {w : qE} : zTms w.T 178 = some qm178 := rfl
theorem qtm_179 {w : qE} : zTms w.T 179 = some qm179 := rfl
theorem qtm_180 {w : qE} : zTms w.T 180 = some qm180 := rfl
theorem qtm_181 {w : qE} : zTms w.T 181 = some qm181 := rfl
theorem qtm_182 {w : qE} : zTms w.T 182 = some qm182 := rfl
theorem qtm_183 {w : qE} : zTms w.T 183 = some qm183 := rfl
theorem qtm_184 {w : qE} : zTms w.T 184 = some qm184 := rfl
theorem qtm_185 {w : qE} : zTms w.T 185 = some qm185 := rfl
theorem qtm_186 {w : qE} : zTms w.T 186 = some qm186 := rfl
theorem qtm_187 {w : qE} : zTms w.T 187 = some qm187 := rfl
theorem qtm_188 {w : qE} : zTms w.T 188 = some qm188 := rfl
theorem qtm_189 {w : qE} : zTms w.T 189 = some qm189 := rfl
theorem qtm_190 {w : qE} : zTms w.T 190 = some qm190 := rfl
theorem qtm_191 {w : qE} : zTms w.T 191 = some qm191 := rfl
theorem qtm_192 {w : qE} : zTms w.T 192 = some qm192 := rfl
theorem qtm_193 {w : qE} : zTms w.T 193 = some qm193 := rfl
theorem qtm_194 {w : qE} : zTms w.T 194 = some qm194 := rfl
theorem qtm_203 {w : qE} : zTms w.T 203 = some qm203 := rfl
theorem qtm_204 {w : qE} : zTms w.T 204 = some qm204 := rfl
theorem qtm_205 {w : qE} : zTms w.T 205 = some qm205 := rfl
theorem qtm_206 {w : qE} : zTms w.T 206 = some qm206 := rfl
theorem qtm_208 {w : qE} : zTms w.T 208 = some qm208 := rfl
theorem qxf_5_84 (L : Nat) (X : Nat → Int32) (Y : Value) : zExFl (qX L X Y) 5 84 = some 5 := rfl
theorem qxf_5_91 (L : Nat) (X : Nat → Int32) (Y : Value) : zExFl (qX L X Y) 5 91 = some 4 := rfl
theorem qxf_5_136 (L : Nat) (X : Nat → Int32) (Y : Value) : zExFl (qX L X Y) 5 136 = some 2 := rfl
theorem qxf_5_139 (L : Nat) (X : Nat → Int32) (Y : Value) : zExFl (qX L X Y) 5 139 = some 3 := rfl
theorem qxf_14_9 (L : Nat) (X : Nat → Int32) (Y : Value) : zExFl (qX L X Y) 14 9 = some 1 := rfl
theorem qxf_14_15 (L : Nat) (X : Nat → Int32) (Y : Value) : zExFl (qX L X Y) 14 15 = some 0 := rfl
