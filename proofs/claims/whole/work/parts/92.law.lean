/-! THE LAW'S CODE in blocks: what is to be shown of each (printed by a program of mine: wip/whole/gen_law.py) -/
theorem lg_cmp_0 (x : Int64) : lg_cmp x x = 0 := by
  unfold lg_cmp
  rw [if_neg Int64.lt_irrefl, if_pos rfl]
theorem yS_same {w : qE} {d pc t : Nat} {M : zM} {l : zL} {st : List Value} {Hp : zH} {R : zRs → Prop} {off a b : Int} (hd : decode M.2.2.1 pc = .ok (.if_icmp .eq off, 3)) (ht : ztgt pc off = some t) (e : a = b) (k : yR w d M t l st Hp R) : yR w d M pc l (qI b :: qI a :: st) Hp R := by
  subst e
  refine yS_icmp hd ht ?_
  rw [show zcnd .eq (Int32.ofInt a) (Int32.ofInt a) t (pc + 3) = t from if_pos rfl]
  exact k
theorem qdL_0 : decode qmL.2.2.1 0 = .ok (.new 8, 3) := by decide +kernel
theorem qdL_3 : decode qmL.2.2.1 3 = .ok (.dup, 1) := by decide +kernel
theorem qdL_4 : decode qmL.2.2.1 4 = .ok (.invokespecial 46, 3) := by decide +kernel
theorem qdL_7 : decode qmL.2.2.1 7 = .ok (.astore_n 1, 1) := by decide +kernel
theorem qdL_8 : decode qmL.2.2.1 8 = .ok (.new 47, 3) := by decide +kernel
theorem qdL_11 : decode qmL.2.2.1 11 = .ok (.dup, 1) := by decide +kernel
theorem qdL_12 : decode qmL.2.2.1 12 = .ok (.invokespecial 49, 3) := by decide +kernel
theorem qdL_15 : decode qmL.2.2.1 15 = .ok (.astore_n 2, 1) := by decide +kernel
theorem qdL_16 : decode qmL.2.2.1 16 = .ok (.iconst 1, 1) := by decide +kernel
theorem qdL_17 : decode qmL.2.2.1 17 = .ok (.newarray .long, 2) := by decide +kernel
theorem qdL_19 : decode qmL.2.2.1 19 = .ok (.astore_n 3, 1) := by decide +kernel
theorem qdL_20 : decode qmL.2.2.1 20 = .ok (.iconst 1, 1) := by decide +kernel
theorem qdL_21 : decode qmL.2.2.1 21 = .ok (.newarray .double, 2) := by decide +kernel
theorem qdL_23 : decode qmL.2.2.1 23 = .ok (.astore 4, 2) := by decide +kernel
theorem qdL_25 : decode qmL.2.2.1 25 = .ok (.iconst 0, 1) := by decide +kernel
theorem qdL_26 : decode qmL.2.2.1 26 = .ok (.istore 5, 2) := by decide +kernel
theorem qdL_28 : decode qmL.2.2.1 28 = .ok (.iload 5, 2) := by decide +kernel
theorem qdL_30 : decode qmL.2.2.1 30 = .ok (.aload_n 0, 1) := by decide +kernel
theorem qdL_31 : decode qmL.2.2.1 31 = .ok (.arraylength, 1) := by decide +kernel
theorem qdL_32 : decode qmL.2.2.1 32 = .ok (.iconst 4, 1) := by decide +kernel
theorem qdL_33 : decode qmL.2.2.1 33 = .ok (.isub, 1) := by decide +kernel
theorem qdL_34 : decode qmL.2.2.1 34 = .ok (.if_icmp .gt 769, 3) := by decide +kernel
theorem qdL_37 : decode qmL.2.2.1 37 = .ok (.aload_n 0, 1) := by decide +kernel
theorem qdL_38 : decode qmL.2.2.1 38 = .ok (.iload 5, 2) := by decide +kernel
theorem qdL_40 : decode qmL.2.2.1 40 = .ok (.iaload, 1) := by decide +kernel
theorem qdL_41 : decode qmL.2.2.1 41 = .ok (.bipush 15, 2) := by decide +kernel
theorem qdL_43 : decode qmL.2.2.1 43 = .ok (.iand, 1) := by decide +kernel
theorem qdL_44 : decode qmL.2.2.1 44 = .ok (.tableswitch 753 0 11 #[64, 133, 170, 195, 239, 252, 320, 397, 465, 533, 589, 685], 64) := by decide +kernel
theorem qdL_108 : decode qmL.2.2.1 108 = .ok (.aload_n 1, 1) := by decide +kernel
theorem qdL_109 : decode qmL.2.2.1 109 = .ok (.aload_n 0, 1) := by decide +kernel
theorem qdL_110 : decode qmL.2.2.1 110 = .ok (.iload 5, 2) := by decide +kernel
theorem qdL_112 : decode qmL.2.2.1 112 = .ok (.iconst 1, 1) := by decide +kernel
theorem qdL_113 : decode qmL.2.2.1 113 = .ok (.iadd, 1) := by decide +kernel
theorem qdL_114 : decode qmL.2.2.1 114 = .ok (.iaload, 1) := by decide +kernel
theorem qdL_115 : decode qmL.2.2.1 115 = .ok (.i2l, 1) := by decide +kernel
theorem qdL_116 : decode qmL.2.2.1 116 = .ok (.bipush 32, 2) := by decide +kernel
theorem qdL_118 : decode qmL.2.2.1 118 = .ok (.lshl, 1) := by decide +kernel
theorem qdL_119 : decode qmL.2.2.1 119 = .ok (.aload_n 0, 1) := by decide +kernel
theorem qdL_120 : decode qmL.2.2.1 120 = .ok (.iload 5, 2) := by decide +kernel
theorem qdL_122 : decode qmL.2.2.1 122 = .ok (.iconst 2, 1) := by decide +kernel
theorem qdL_123 : decode qmL.2.2.1 123 = .ok (.iadd, 1) := by decide +kernel
theorem qdL_124 : decode qmL.2.2.1 124 = .ok (.iaload, 1) := by decide +kernel
theorem qdL_125 : decode qmL.2.2.1 125 = .ok (.i2l, 1) := by decide +kernel
theorem qdL_126 : decode qmL.2.2.1 126 = .ok (.ldc2_w 50, 3) := by decide +kernel
theorem qdL_129 : decode qmL.2.2.1 129 = .ok (.land, 1) := by decide +kernel
theorem qdL_130 : decode qmL.2.2.1 130 = .ok (.lor, 1) := by decide +kernel
theorem qdL_131 : decode qmL.2.2.1 131 = .ok (.aload_n 0, 1) := by decide +kernel
theorem qdL_132 : decode qmL.2.2.1 132 = .ok (.iload 5, 2) := by decide +kernel
theorem qdL_134 : decode qmL.2.2.1 134 = .ok (.iconst 3, 1) := by decide +kernel
theorem qdL_135 : decode qmL.2.2.1 135 = .ok (.iadd, 1) := by decide +kernel
theorem qdL_136 : decode qmL.2.2.1 136 = .ok (.iaload, 1) := by decide +kernel
theorem qdL_137 : decode qmL.2.2.1 137 = .ok (.invokevirtual 52, 3) := by decide +kernel
theorem qdL_140 : decode qmL.2.2.1 140 = .ok (.aload_n 2, 1) := by decide +kernel
theorem qdL_141 : decode qmL.2.2.1 141 = .ok (.aload_n 0, 1) := by decide +kernel
theorem qdL_142 : decode qmL.2.2.1 142 = .ok (.iload 5, 2) := by decide +kernel
theorem qdL_144 : decode qmL.2.2.1 144 = .ok (.iconst 1, 1) := by decide +kernel
theorem qdL_145 : decode qmL.2.2.1 145 = .ok (.iadd, 1) := by decide +kernel
theorem qdL_146 : decode qmL.2.2.1 146 = .ok (.iaload, 1) := by decide +kernel
theorem qdL_147 : decode qmL.2.2.1 147 = .ok (.i2l, 1) := by decide +kernel
theorem qdL_148 : decode qmL.2.2.1 148 = .ok (.bipush 32, 2) := by decide +kernel
theorem qdL_150 : decode qmL.2.2.1 150 = .ok (.lshl, 1) := by decide +kernel
theorem qdL_151 : decode qmL.2.2.1 151 = .ok (.aload_n 0, 1) := by decide +kernel
theorem qdL_152 : decode qmL.2.2.1 152 = .ok (.iload 5, 2) := by decide +kernel
theorem qdL_154 : decode qmL.2.2.1 154 = .ok (.iconst 2, 1) := by decide +kernel
theorem qdL_155 : decode qmL.2.2.1 155 = .ok (.iadd, 1) := by decide +kernel
theorem qdL_156 : decode qmL.2.2.1 156 = .ok (.iaload, 1) := by decide +kernel
theorem qdL_157 : decode qmL.2.2.1 157 = .ok (.i2l, 1) := by decide +kernel
theorem qdL_158 : decode qmL.2.2.1 158 = .ok (.ldc2_w 50, 3) := by decide +kernel
theorem qdL_161 : decode qmL.2.2.1 161 = .ok (.land, 1) := by decide +kernel
theorem qdL_162 : decode qmL.2.2.1 162 = .ok (.lor, 1) := by decide +kernel
theorem qdL_163 : decode qmL.2.2.1 163 = .ok (.aload_n 0, 1) := by decide +kernel
theorem qdL_164 : decode qmL.2.2.1 164 = .ok (.iload 5, 2) := by decide +kernel
theorem qdL_166 : decode qmL.2.2.1 166 = .ok (.iconst 3, 1) := by decide +kernel
theorem qdL_167 : decode qmL.2.2.1 167 = .ok (.iadd, 1) := by decide +kernel
theorem qdL_168 : decode qmL.2.2.1 168 = .ok (.iaload, 1) := by decide +kernel
theorem qdL_169 : decode qmL.2.2.1 169 = .ok (.invokevirtual 56, 3) := by decide +kernel
theorem qdL_172 : decode qmL.2.2.1 172 = .ok (.if_icmp .eq 625, 3) := by decide +kernel
theorem qdL_175 : decode qmL.2.2.1 175 = .ok (.iconst 0, 1) := by decide +kernel
theorem qdL_176 : decode qmL.2.2.1 176 = .ok (.ireturn, 1) := by decide +kernel
theorem qdL_177 : decode qmL.2.2.1 177 = .ok (.aload_n 1, 1) := by decide +kernel
theorem qdL_178 : decode qmL.2.2.1 178 = .ok (.aload_n 0, 1) := by decide +kernel
theorem qdL_179 : decode qmL.2.2.1 179 = .ok (.iload 5, 2) := by decide +kernel
theorem qdL_181 : decode qmL.2.2.1 181 = .ok (.iconst 1, 1) := by decide +kernel
theorem qdL_182 : decode qmL.2.2.1 182 = .ok (.iadd, 1) := by decide +kernel
theorem qdL_183 : decode qmL.2.2.1 183 = .ok (.iaload, 1) := by decide +kernel
theorem qdL_184 : decode qmL.2.2.1 184 = .ok (.aload_n 0, 1) := by decide +kernel
theorem qdL_185 : decode qmL.2.2.1 185 = .ok (.iload 5, 2) := by decide +kernel
theorem qdL_187 : decode qmL.2.2.1 187 = .ok (.iconst 2, 1) := by decide +kernel
theorem qdL_188 : decode qmL.2.2.1 188 = .ok (.iadd, 1) := by decide +kernel
theorem qdL_189 : decode qmL.2.2.1 189 = .ok (.iaload, 1) := by decide +kernel
theorem qdL_190 : decode qmL.2.2.1 190 = .ok (.invokevirtual 57, 3) := by decide +kernel
theorem qdL_193 : decode qmL.2.2.1 193 = .ok (.aload_n 2, 1) := by decide +kernel
theorem qdL_194 : decode qmL.2.2.1 194 = .ok (.aload_n 0, 1) := by decide +kernel
theorem qdL_195 : decode qmL.2.2.1 195 = .ok (.iload 5, 2) := by decide +kernel
theorem qdL_197 : decode qmL.2.2.1 197 = .ok (.iconst 1, 1) := by decide +kernel
theorem qdL_198 : decode qmL.2.2.1 198 = .ok (.iadd, 1) := by decide +kernel
theorem qdL_199 : decode qmL.2.2.1 199 = .ok (.iaload, 1) := by decide +kernel
theorem qdL_200 : decode qmL.2.2.1 200 = .ok (.aload_n 0, 1) := by decide +kernel
theorem qdL_201 : decode qmL.2.2.1 201 = .ok (.iload 5, 2) := by decide +kernel
theorem qdL_203 : decode qmL.2.2.1 203 = .ok (.iconst 2, 1) := by decide +kernel
theorem qdL_204 : decode qmL.2.2.1 204 = .ok (.iadd, 1) := by decide +kernel
theorem qdL_205 : decode qmL.2.2.1 205 = .ok (.iaload, 1) := by decide +kernel
theorem qdL_206 : decode qmL.2.2.1 206 = .ok (.invokevirtual 61, 3) := by decide +kernel
theorem qdL_209 : decode qmL.2.2.1 209 = .ok (.if_icmp .eq 588, 3) := by decide +kernel
theorem qdL_212 : decode qmL.2.2.1 212 = .ok (.iconst 0, 1) := by decide +kernel
theorem qdL_213 : decode qmL.2.2.1 213 = .ok (.ireturn, 1) := by decide +kernel
theorem qdL_214 : decode qmL.2.2.1 214 = .ok (.aload_n 1, 1) := by decide +kernel
theorem qdL_215 : decode qmL.2.2.1 215 = .ok (.aload_n 0, 1) := by decide +kernel
theorem qdL_216 : decode qmL.2.2.1 216 = .ok (.iload 5, 2) := by decide +kernel
theorem qdL_218 : decode qmL.2.2.1 218 = .ok (.iconst 1, 1) := by decide +kernel
theorem qdL_219 : decode qmL.2.2.1 219 = .ok (.iadd, 1) := by decide +kernel
theorem qdL_220 : decode qmL.2.2.1 220 = .ok (.iaload, 1) := by decide +kernel
theorem qdL_221 : decode qmL.2.2.1 221 = .ok (.invokevirtual 62, 3) := by decide +kernel
theorem qdL_224 : decode qmL.2.2.1 224 = .ok (.aload_n 2, 1) := by decide +kernel
theorem qdL_225 : decode qmL.2.2.1 225 = .ok (.aload_n 0, 1) := by decide +kernel
theorem qdL_226 : decode qmL.2.2.1 226 = .ok (.iload 5, 2) := by decide +kernel
theorem qdL_228 : decode qmL.2.2.1 228 = .ok (.iconst 1, 1) := by decide +kernel
theorem qdL_229 : decode qmL.2.2.1 229 = .ok (.iadd, 1) := by decide +kernel
theorem qdL_230 : decode qmL.2.2.1 230 = .ok (.iaload, 1) := by decide +kernel
theorem qdL_231 : decode qmL.2.2.1 231 = .ok (.invokevirtual 65, 3) := by decide +kernel
theorem qdL_234 : decode qmL.2.2.1 234 = .ok (.if_icmp .eq 563, 3) := by decide +kernel
theorem qdL_237 : decode qmL.2.2.1 237 = .ok (.iconst 0, 1) := by decide +kernel
theorem qdL_238 : decode qmL.2.2.1 238 = .ok (.ireturn, 1) := by decide +kernel
theorem qdL_239 : decode qmL.2.2.1 239 = .ok (.aload_n 1, 1) := by decide +kernel
theorem qdL_240 : decode qmL.2.2.1 240 = .ok (.aload_n 3, 1) := by decide +kernel
theorem qdL_241 : decode qmL.2.2.1 241 = .ok (.invokestatic 66, 3) := by decide +kernel
theorem qdL_244 : decode qmL.2.2.1 244 = .ok (.istore 6, 2) := by decide +kernel
theorem qdL_246 : decode qmL.2.2.1 246 = .ok (.aload_n 2, 1) := by decide +kernel
theorem qdL_247 : decode qmL.2.2.1 247 = .ok (.invokevirtual 71, 3) := by decide +kernel
theorem qdL_250 : decode qmL.2.2.1 250 = .ok (.istore 7, 2) := by decide +kernel
theorem qdL_252 : decode qmL.2.2.1 252 = .ok (.aload_n 2, 1) := by decide +kernel
theorem qdL_253 : decode qmL.2.2.1 253 = .ok (.invokevirtual 72, 3) := by decide +kernel
theorem qdL_256 : decode qmL.2.2.1 256 = .ok (.iload 6, 2) := by decide +kernel
theorem qdL_258 : decode qmL.2.2.1 258 = .ok (.if_icmp .eq 5, 3) := by decide +kernel
theorem qdL_261 : decode qmL.2.2.1 261 = .ok (.iconst 0, 1) := by decide +kernel
theorem qdL_262 : decode qmL.2.2.1 262 = .ok (.ireturn, 1) := by decide +kernel
theorem qdL_263 : decode qmL.2.2.1 263 = .ok (.iload 6, 2) := by decide +kernel
theorem qdL_265 : decode qmL.2.2.1 265 = .ok (.ifCond .ne 15, 3) := by decide +kernel
theorem qdL_268 : decode qmL.2.2.1 268 = .ok (.aload_n 3, 1) := by decide +kernel
theorem qdL_269 : decode qmL.2.2.1 269 = .ok (.iconst 0, 1) := by decide +kernel
theorem qdL_270 : decode qmL.2.2.1 270 = .ok (.laload, 1) := by decide +kernel
theorem qdL_271 : decode qmL.2.2.1 271 = .ok (.iload 7, 2) := by decide +kernel
theorem qdL_273 : decode qmL.2.2.1 273 = .ok (.i2l, 1) := by decide +kernel
theorem qdL_274 : decode qmL.2.2.1 274 = .ok (.lcmp, 1) := by decide +kernel
theorem qdL_275 : decode qmL.2.2.1 275 = .ok (.ifCond .eq 5, 3) := by decide +kernel
theorem qdL_278 : decode qmL.2.2.1 278 = .ok (.iconst 0, 1) := by decide +kernel
theorem qdL_279 : decode qmL.2.2.1 279 = .ok (.ireturn, 1) := by decide +kernel
theorem qdL_280 : decode qmL.2.2.1 280 = .ok (.goto 517, 3) := by decide +kernel
theorem qdL_283 : decode qmL.2.2.1 283 = .ok (.aload_n 1, 1) := by decide +kernel
theorem qdL_284 : decode qmL.2.2.1 284 = .ok (.invokevirtual 75, 3) := by decide +kernel
theorem qdL_287 : decode qmL.2.2.1 287 = .ok (.aload_n 2, 1) := by decide +kernel
theorem qdL_288 : decode qmL.2.2.1 288 = .ok (.invokevirtual 78, 3) := by decide +kernel
theorem qdL_291 : decode qmL.2.2.1 291 = .ok (.if_icmp .eq 506, 3) := by decide +kernel
theorem qdL_294 : decode qmL.2.2.1 294 = .ok (.iconst 0, 1) := by decide +kernel
theorem qdL_295 : decode qmL.2.2.1 295 = .ok (.ireturn, 1) := by decide +kernel
theorem qdL_296 : decode qmL.2.2.1 296 = .ok (.aload_n 1, 1) := by decide +kernel
theorem qdL_297 : decode qmL.2.2.1 297 = .ok (.aload_n 0, 1) := by decide +kernel
theorem qdL_298 : decode qmL.2.2.1 298 = .ok (.iload 5, 2) := by decide +kernel
theorem qdL_300 : decode qmL.2.2.1 300 = .ok (.iconst 1, 1) := by decide +kernel
theorem qdL_301 : decode qmL.2.2.1 301 = .ok (.iadd, 1) := by decide +kernel
theorem qdL_302 : decode qmL.2.2.1 302 = .ok (.iaload, 1) := by decide +kernel
theorem qdL_303 : decode qmL.2.2.1 303 = .ok (.aload_n 0, 1) := by decide +kernel
theorem qdL_304 : decode qmL.2.2.1 304 = .ok (.iload 5, 2) := by decide +kernel
theorem qdL_306 : decode qmL.2.2.1 306 = .ok (.iconst 2, 1) := by decide +kernel
theorem qdL_307 : decode qmL.2.2.1 307 = .ok (.iadd, 1) := by decide +kernel
theorem qdL_308 : decode qmL.2.2.1 308 = .ok (.iaload, 1) := by decide +kernel
theorem qdL_309 : decode qmL.2.2.1 309 = .ok (.aload_n 3, 1) := by decide +kernel
theorem qdL_310 : decode qmL.2.2.1 310 = .ok (.invokestatic 79, 3) := by decide +kernel
theorem qdL_313 : decode qmL.2.2.1 313 = .ok (.istore 6, 2) := by decide +kernel
theorem qdL_315 : decode qmL.2.2.1 315 = .ok (.aload_n 2, 1) := by decide +kernel
theorem qdL_316 : decode qmL.2.2.1 316 = .ok (.aload_n 0, 1) := by decide +kernel
theorem qdL_317 : decode qmL.2.2.1 317 = .ok (.iload 5, 2) := by decide +kernel
theorem qdL_319 : decode qmL.2.2.1 319 = .ok (.iconst 1, 1) := by decide +kernel
theorem qdL_320 : decode qmL.2.2.1 320 = .ok (.iadd, 1) := by decide +kernel
theorem qdL_321 : decode qmL.2.2.1 321 = .ok (.iaload, 1) := by decide +kernel
theorem qdL_322 : decode qmL.2.2.1 322 = .ok (.aload_n 0, 1) := by decide +kernel
theorem qdL_323 : decode qmL.2.2.1 323 = .ok (.iload 5, 2) := by decide +kernel
theorem qdL_325 : decode qmL.2.2.1 325 = .ok (.iconst 2, 1) := by decide +kernel
theorem qdL_326 : decode qmL.2.2.1 326 = .ok (.iadd, 1) := by decide +kernel
theorem qdL_327 : decode qmL.2.2.1 327 = .ok (.iaload, 1) := by decide +kernel
theorem qdL_328 : decode qmL.2.2.1 328 = .ok (.invokevirtual 82, 3) := by decide +kernel
theorem qdL_331 : decode qmL.2.2.1 331 = .ok (.istore 7, 2) := by decide +kernel
theorem qdL_333 : decode qmL.2.2.1 333 = .ok (.aload_n 2, 1) := by decide +kernel
theorem qdL_334 : decode qmL.2.2.1 334 = .ok (.invokevirtual 72, 3) := by decide +kernel
theorem qdL_337 : decode qmL.2.2.1 337 = .ok (.iload 6, 2) := by decide +kernel
theorem qdL_339 : decode qmL.2.2.1 339 = .ok (.if_icmp .eq 5, 3) := by decide +kernel
theorem qdL_342 : decode qmL.2.2.1 342 = .ok (.iconst 0, 1) := by decide +kernel
theorem qdL_343 : decode qmL.2.2.1 343 = .ok (.ireturn, 1) := by decide +kernel
theorem qdL_344 : decode qmL.2.2.1 344 = .ok (.iload 6, 2) := by decide +kernel
theorem qdL_346 : decode qmL.2.2.1 346 = .ok (.ifCond .ne 15, 3) := by decide +kernel
theorem qdL_349 : decode qmL.2.2.1 349 = .ok (.aload_n 3, 1) := by decide +kernel
theorem qdL_350 : decode qmL.2.2.1 350 = .ok (.iconst 0, 1) := by decide +kernel
theorem qdL_351 : decode qmL.2.2.1 351 = .ok (.laload, 1) := by decide +kernel
theorem qdL_352 : decode qmL.2.2.1 352 = .ok (.iload 7, 2) := by decide +kernel
theorem qdL_354 : decode qmL.2.2.1 354 = .ok (.i2l, 1) := by decide +kernel
theorem qdL_355 : decode qmL.2.2.1 355 = .ok (.lcmp, 1) := by decide +kernel
theorem qdL_356 : decode qmL.2.2.1 356 = .ok (.ifCond .eq 5, 3) := by decide +kernel
theorem qdL_359 : decode qmL.2.2.1 359 = .ok (.iconst 0, 1) := by decide +kernel
theorem qdL_360 : decode qmL.2.2.1 360 = .ok (.ireturn, 1) := by decide +kernel
theorem qdL_361 : decode qmL.2.2.1 361 = .ok (.goto 436, 3) := by decide +kernel
theorem qdL_364 : decode qmL.2.2.1 364 = .ok (.aload_n 1, 1) := by decide +kernel
theorem qdL_365 : decode qmL.2.2.1 365 = .ok (.aload_n 0, 1) := by decide +kernel
theorem qdL_366 : decode qmL.2.2.1 366 = .ok (.iload 5, 2) := by decide +kernel
theorem qdL_368 : decode qmL.2.2.1 368 = .ok (.iconst 1, 1) := by decide +kernel
theorem qdL_369 : decode qmL.2.2.1 369 = .ok (.iadd, 1) := by decide +kernel
theorem qdL_370 : decode qmL.2.2.1 370 = .ok (.iaload, 1) := by decide +kernel
theorem qdL_371 : decode qmL.2.2.1 371 = .ok (.aload 4, 2) := by decide +kernel
theorem qdL_373 : decode qmL.2.2.1 373 = .ok (.invokestatic 83, 3) := by decide +kernel
theorem qdL_376 : decode qmL.2.2.1 376 = .ok (.istore 6, 2) := by decide +kernel
theorem qdL_378 : decode qmL.2.2.1 378 = .ok (.aload_n 2, 1) := by decide +kernel
theorem qdL_379 : decode qmL.2.2.1 379 = .ok (.aload_n 0, 1) := by decide +kernel
theorem qdL_380 : decode qmL.2.2.1 380 = .ok (.iload 5, 2) := by decide +kernel
theorem qdL_382 : decode qmL.2.2.1 382 = .ok (.iconst 1, 1) := by decide +kernel
theorem qdL_383 : decode qmL.2.2.1 383 = .ok (.iadd, 1) := by decide +kernel
theorem qdL_384 : decode qmL.2.2.1 384 = .ok (.iaload, 1) := by decide +kernel
theorem qdL_385 : decode qmL.2.2.1 385 = .ok (.invokevirtual 86, 3) := by decide +kernel
theorem qdL_388 : decode qmL.2.2.1 388 = .ok (.dstore 7, 2) := by decide +kernel
theorem qdL_390 : decode qmL.2.2.1 390 = .ok (.aload_n 2, 1) := by decide +kernel
theorem qdL_391 : decode qmL.2.2.1 391 = .ok (.invokevirtual 72, 3) := by decide +kernel
theorem qdL_394 : decode qmL.2.2.1 394 = .ok (.iload 6, 2) := by decide +kernel
theorem qdL_396 : decode qmL.2.2.1 396 = .ok (.if_icmp .eq 5, 3) := by decide +kernel
theorem qdL_399 : decode qmL.2.2.1 399 = .ok (.iconst 0, 1) := by decide +kernel
theorem qdL_400 : decode qmL.2.2.1 400 = .ok (.ireturn, 1) := by decide +kernel
theorem qdL_401 : decode qmL.2.2.1 401 = .ok (.iload 6, 2) := by decide +kernel
theorem qdL_403 : decode qmL.2.2.1 403 = .ok (.ifCond .ne 35, 3) := by decide +kernel
theorem qdL_406 : decode qmL.2.2.1 406 = .ok (.aload 4, 2) := by decide +kernel
theorem qdL_408 : decode qmL.2.2.1 408 = .ok (.iconst 0, 1) := by decide +kernel
theorem qdL_409 : decode qmL.2.2.1 409 = .ok (.daload, 1) := by decide +kernel
theorem qdL_410 : decode qmL.2.2.1 410 = .ok (.dload 7, 2) := by decide +kernel
theorem qdL_412 : decode qmL.2.2.1 412 = .ok (.dcmp .l, 1) := by decide +kernel
theorem qdL_413 : decode qmL.2.2.1 413 = .ok (.ifCond .eq 25, 3) := by decide +kernel
theorem qdL_416 : decode qmL.2.2.1 416 = .ok (.aload 4, 2) := by decide +kernel
theorem qdL_418 : decode qmL.2.2.1 418 = .ok (.iconst 0, 1) := by decide +kernel
theorem qdL_419 : decode qmL.2.2.1 419 = .ok (.daload, 1) := by decide +kernel
theorem qdL_420 : decode qmL.2.2.1 420 = .ok (.aload 4, 2) := by decide +kernel
theorem qdL_422 : decode qmL.2.2.1 422 = .ok (.iconst 0, 1) := by decide +kernel
theorem qdL_423 : decode qmL.2.2.1 423 = .ok (.daload, 1) := by decide +kernel
theorem qdL_424 : decode qmL.2.2.1 424 = .ok (.dcmp .l, 1) := by decide +kernel
theorem qdL_425 : decode qmL.2.2.1 425 = .ok (.ifCond .eq 11, 3) := by decide +kernel
theorem qdL_428 : decode qmL.2.2.1 428 = .ok (.dload 7, 2) := by decide +kernel
theorem qdL_430 : decode qmL.2.2.1 430 = .ok (.dload 7, 2) := by decide +kernel
theorem qdL_432 : decode qmL.2.2.1 432 = .ok (.dcmp .l, 1) := by decide +kernel
theorem qdL_433 : decode qmL.2.2.1 433 = .ok (.ifCond .ne 5, 3) := by decide +kernel
theorem qdL_436 : decode qmL.2.2.1 436 = .ok (.iconst 0, 1) := by decide +kernel
theorem qdL_437 : decode qmL.2.2.1 437 = .ok (.ireturn, 1) := by decide +kernel
theorem qdL_438 : decode qmL.2.2.1 438 = .ok (.goto 359, 3) := by decide +kernel
theorem qdL_441 : decode qmL.2.2.1 441 = .ok (.aload_n 1, 1) := by decide +kernel
theorem qdL_442 : decode qmL.2.2.1 442 = .ok (.aload_n 0, 1) := by decide +kernel
theorem qdL_443 : decode qmL.2.2.1 443 = .ok (.iload 5, 2) := by decide +kernel
theorem qdL_445 : decode qmL.2.2.1 445 = .ok (.iconst 1, 1) := by decide +kernel
theorem qdL_446 : decode qmL.2.2.1 446 = .ok (.iadd, 1) := by decide +kernel
theorem qdL_447 : decode qmL.2.2.1 447 = .ok (.iaload, 1) := by decide +kernel
theorem qdL_448 : decode qmL.2.2.1 448 = .ok (.aload_n 0, 1) := by decide +kernel
theorem qdL_449 : decode qmL.2.2.1 449 = .ok (.iload 5, 2) := by decide +kernel
theorem qdL_451 : decode qmL.2.2.1 451 = .ok (.iconst 2, 1) := by decide +kernel
theorem qdL_452 : decode qmL.2.2.1 452 = .ok (.iadd, 1) := by decide +kernel
theorem qdL_453 : decode qmL.2.2.1 453 = .ok (.iaload, 1) := by decide +kernel
theorem qdL_454 : decode qmL.2.2.1 454 = .ok (.aload_n 3, 1) := by decide +kernel
theorem qdL_455 : decode qmL.2.2.1 455 = .ok (.invokestatic 87, 3) := by decide +kernel
theorem qdL_458 : decode qmL.2.2.1 458 = .ok (.istore 6, 2) := by decide +kernel
theorem qdL_460 : decode qmL.2.2.1 460 = .ok (.aload_n 2, 1) := by decide +kernel
theorem qdL_461 : decode qmL.2.2.1 461 = .ok (.aload_n 0, 1) := by decide +kernel
theorem qdL_462 : decode qmL.2.2.1 462 = .ok (.iload 5, 2) := by decide +kernel
theorem qdL_464 : decode qmL.2.2.1 464 = .ok (.iconst 1, 1) := by decide +kernel
theorem qdL_465 : decode qmL.2.2.1 465 = .ok (.iadd, 1) := by decide +kernel
theorem qdL_466 : decode qmL.2.2.1 466 = .ok (.iaload, 1) := by decide +kernel
theorem qdL_467 : decode qmL.2.2.1 467 = .ok (.aload_n 0, 1) := by decide +kernel
theorem qdL_468 : decode qmL.2.2.1 468 = .ok (.iload 5, 2) := by decide +kernel
theorem qdL_470 : decode qmL.2.2.1 470 = .ok (.iconst 2, 1) := by decide +kernel
theorem qdL_471 : decode qmL.2.2.1 471 = .ok (.iadd, 1) := by decide +kernel
theorem qdL_472 : decode qmL.2.2.1 472 = .ok (.iaload, 1) := by decide +kernel
theorem qdL_473 : decode qmL.2.2.1 473 = .ok (.invokevirtual 89, 3) := by decide +kernel
theorem qdL_476 : decode qmL.2.2.1 476 = .ok (.istore 7, 2) := by decide +kernel
theorem qdL_478 : decode qmL.2.2.1 478 = .ok (.aload_n 2, 1) := by decide +kernel
theorem qdL_479 : decode qmL.2.2.1 479 = .ok (.invokevirtual 72, 3) := by decide +kernel
theorem qdL_482 : decode qmL.2.2.1 482 = .ok (.iload 6, 2) := by decide +kernel
theorem qdL_484 : decode qmL.2.2.1 484 = .ok (.if_icmp .eq 5, 3) := by decide +kernel
theorem qdL_487 : decode qmL.2.2.1 487 = .ok (.iconst 0, 1) := by decide +kernel
theorem qdL_488 : decode qmL.2.2.1 488 = .ok (.ireturn, 1) := by decide +kernel
theorem qdL_489 : decode qmL.2.2.1 489 = .ok (.iload 6, 2) := by decide +kernel
theorem qdL_491 : decode qmL.2.2.1 491 = .ok (.ifCond .ne 15, 3) := by decide +kernel
theorem qdL_494 : decode qmL.2.2.1 494 = .ok (.aload_n 3, 1) := by decide +kernel
theorem qdL_495 : decode qmL.2.2.1 495 = .ok (.iconst 0, 1) := by decide +kernel
theorem qdL_496 : decode qmL.2.2.1 496 = .ok (.laload, 1) := by decide +kernel
theorem qdL_497 : decode qmL.2.2.1 497 = .ok (.iload 7, 2) := by decide +kernel
theorem qdL_499 : decode qmL.2.2.1 499 = .ok (.i2l, 1) := by decide +kernel
theorem qdL_500 : decode qmL.2.2.1 500 = .ok (.lcmp, 1) := by decide +kernel
theorem qdL_501 : decode qmL.2.2.1 501 = .ok (.ifCond .eq 5, 3) := by decide +kernel
theorem qdL_504 : decode qmL.2.2.1 504 = .ok (.iconst 0, 1) := by decide +kernel
theorem qdL_505 : decode qmL.2.2.1 505 = .ok (.ireturn, 1) := by decide +kernel
theorem qdL_506 : decode qmL.2.2.1 506 = .ok (.goto 291, 3) := by decide +kernel
theorem qdL_509 : decode qmL.2.2.1 509 = .ok (.aload_n 1, 1) := by decide +kernel
theorem qdL_510 : decode qmL.2.2.1 510 = .ok (.aload_n 0, 1) := by decide +kernel
theorem qdL_511 : decode qmL.2.2.1 511 = .ok (.iload 5, 2) := by decide +kernel
theorem qdL_513 : decode qmL.2.2.1 513 = .ok (.iconst 1, 1) := by decide +kernel
theorem qdL_514 : decode qmL.2.2.1 514 = .ok (.iadd, 1) := by decide +kernel
theorem qdL_515 : decode qmL.2.2.1 515 = .ok (.iaload, 1) := by decide +kernel
theorem qdL_516 : decode qmL.2.2.1 516 = .ok (.aload_n 0, 1) := by decide +kernel
theorem qdL_517 : decode qmL.2.2.1 517 = .ok (.iload 5, 2) := by decide +kernel
theorem qdL_519 : decode qmL.2.2.1 519 = .ok (.iconst 2, 1) := by decide +kernel
theorem qdL_520 : decode qmL.2.2.1 520 = .ok (.iadd, 1) := by decide +kernel
theorem qdL_521 : decode qmL.2.2.1 521 = .ok (.iaload, 1) := by decide +kernel
theorem qdL_522 : decode qmL.2.2.1 522 = .ok (.aload_n 3, 1) := by decide +kernel
theorem qdL_523 : decode qmL.2.2.1 523 = .ok (.invokestatic 90, 3) := by decide +kernel
theorem qdL_526 : decode qmL.2.2.1 526 = .ok (.istore 6, 2) := by decide +kernel
theorem qdL_528 : decode qmL.2.2.1 528 = .ok (.aload_n 2, 1) := by decide +kernel
theorem qdL_529 : decode qmL.2.2.1 529 = .ok (.aload_n 0, 1) := by decide +kernel
theorem qdL_530 : decode qmL.2.2.1 530 = .ok (.iload 5, 2) := by decide +kernel
theorem qdL_532 : decode qmL.2.2.1 532 = .ok (.iconst 1, 1) := by decide +kernel
theorem qdL_533 : decode qmL.2.2.1 533 = .ok (.iadd, 1) := by decide +kernel
theorem qdL_534 : decode qmL.2.2.1 534 = .ok (.iaload, 1) := by decide +kernel
theorem qdL_535 : decode qmL.2.2.1 535 = .ok (.aload_n 0, 1) := by decide +kernel
theorem qdL_536 : decode qmL.2.2.1 536 = .ok (.iload 5, 2) := by decide +kernel
theorem qdL_538 : decode qmL.2.2.1 538 = .ok (.iconst 2, 1) := by decide +kernel
theorem qdL_539 : decode qmL.2.2.1 539 = .ok (.iadd, 1) := by decide +kernel
theorem qdL_540 : decode qmL.2.2.1 540 = .ok (.iaload, 1) := by decide +kernel
theorem qdL_541 : decode qmL.2.2.1 541 = .ok (.invokevirtual 92, 3) := by decide +kernel
theorem qdL_544 : decode qmL.2.2.1 544 = .ok (.istore 7, 2) := by decide +kernel
theorem qdL_546 : decode qmL.2.2.1 546 = .ok (.aload_n 2, 1) := by decide +kernel
theorem qdL_547 : decode qmL.2.2.1 547 = .ok (.invokevirtual 72, 3) := by decide +kernel
theorem qdL_550 : decode qmL.2.2.1 550 = .ok (.iload 6, 2) := by decide +kernel
theorem qdL_552 : decode qmL.2.2.1 552 = .ok (.if_icmp .eq 5, 3) := by decide +kernel
theorem qdL_555 : decode qmL.2.2.1 555 = .ok (.iconst 0, 1) := by decide +kernel
theorem qdL_556 : decode qmL.2.2.1 556 = .ok (.ireturn, 1) := by decide +kernel
theorem qdL_557 : decode qmL.2.2.1 557 = .ok (.iload 6, 2) := by decide +kernel
theorem qdL_559 : decode qmL.2.2.1 559 = .ok (.ifCond .ne 15, 3) := by decide +kernel
theorem qdL_562 : decode qmL.2.2.1 562 = .ok (.aload_n 3, 1) := by decide +kernel
theorem qdL_563 : decode qmL.2.2.1 563 = .ok (.iconst 0, 1) := by decide +kernel
theorem qdL_564 : decode qmL.2.2.1 564 = .ok (.laload, 1) := by decide +kernel
theorem qdL_565 : decode qmL.2.2.1 565 = .ok (.iload 7, 2) := by decide +kernel
theorem qdL_567 : decode qmL.2.2.1 567 = .ok (.i2l, 1) := by decide +kernel
theorem qdL_568 : decode qmL.2.2.1 568 = .ok (.lcmp, 1) := by decide +kernel
theorem qdL_569 : decode qmL.2.2.1 569 = .ok (.ifCond .eq 5, 3) := by decide +kernel
theorem qdL_572 : decode qmL.2.2.1 572 = .ok (.iconst 0, 1) := by decide +kernel
theorem qdL_573 : decode qmL.2.2.1 573 = .ok (.ireturn, 1) := by decide +kernel
theorem qdL_574 : decode qmL.2.2.1 574 = .ok (.goto 223, 3) := by decide +kernel
theorem qdL_577 : decode qmL.2.2.1 577 = .ok (.aload_n 1, 1) := by decide +kernel
theorem qdL_578 : decode qmL.2.2.1 578 = .ok (.aload_n 0, 1) := by decide +kernel
theorem qdL_579 : decode qmL.2.2.1 579 = .ok (.iload 5, 2) := by decide +kernel
theorem qdL_581 : decode qmL.2.2.1 581 = .ok (.iconst 1, 1) := by decide +kernel
theorem qdL_582 : decode qmL.2.2.1 582 = .ok (.iadd, 1) := by decide +kernel
theorem qdL_583 : decode qmL.2.2.1 583 = .ok (.iaload, 1) := by decide +kernel
theorem qdL_584 : decode qmL.2.2.1 584 = .ok (.aload_n 3, 1) := by decide +kernel
theorem qdL_585 : decode qmL.2.2.1 585 = .ok (.invokestatic 93, 3) := by decide +kernel
theorem qdL_588 : decode qmL.2.2.1 588 = .ok (.istore 6, 2) := by decide +kernel
theorem qdL_590 : decode qmL.2.2.1 590 = .ok (.aload_n 2, 1) := by decide +kernel
theorem qdL_591 : decode qmL.2.2.1 591 = .ok (.aload_n 0, 1) := by decide +kernel
theorem qdL_592 : decode qmL.2.2.1 592 = .ok (.iload 5, 2) := by decide +kernel
theorem qdL_594 : decode qmL.2.2.1 594 = .ok (.iconst 1, 1) := by decide +kernel
theorem qdL_595 : decode qmL.2.2.1 595 = .ok (.iadd, 1) := by decide +kernel
theorem qdL_596 : decode qmL.2.2.1 596 = .ok (.iaload, 1) := by decide +kernel
theorem qdL_597 : decode qmL.2.2.1 597 = .ok (.invokevirtual 96, 3) := by decide +kernel
theorem qdL_600 : decode qmL.2.2.1 600 = .ok (.istore 7, 2) := by decide +kernel
theorem qdL_602 : decode qmL.2.2.1 602 = .ok (.aload_n 2, 1) := by decide +kernel
theorem qdL_603 : decode qmL.2.2.1 603 = .ok (.invokevirtual 72, 3) := by decide +kernel
theorem qdL_606 : decode qmL.2.2.1 606 = .ok (.iload 6, 2) := by decide +kernel
theorem qdL_608 : decode qmL.2.2.1 608 = .ok (.if_icmp .eq 5, 3) := by decide +kernel
theorem qdL_611 : decode qmL.2.2.1 611 = .ok (.iconst 0, 1) := by decide +kernel
theorem qdL_612 : decode qmL.2.2.1 612 = .ok (.ireturn, 1) := by decide +kernel
theorem qdL_613 : decode qmL.2.2.1 613 = .ok (.iload 6, 2) := by decide +kernel
theorem qdL_615 : decode qmL.2.2.1 615 = .ok (.ifCond .ne 15, 3) := by decide +kernel
theorem qdL_618 : decode qmL.2.2.1 618 = .ok (.aload_n 3, 1) := by decide +kernel
theorem qdL_619 : decode qmL.2.2.1 619 = .ok (.iconst 0, 1) := by decide +kernel
theorem qdL_620 : decode qmL.2.2.1 620 = .ok (.laload, 1) := by decide +kernel
theorem qdL_621 : decode qmL.2.2.1 621 = .ok (.iload 7, 2) := by decide +kernel
theorem qdL_623 : decode qmL.2.2.1 623 = .ok (.i2l, 1) := by decide +kernel
theorem qdL_624 : decode qmL.2.2.1 624 = .ok (.lcmp, 1) := by decide +kernel
theorem qdL_625 : decode qmL.2.2.1 625 = .ok (.ifCond .eq 5, 3) := by decide +kernel
theorem qdL_628 : decode qmL.2.2.1 628 = .ok (.iconst 0, 1) := by decide +kernel
theorem qdL_629 : decode qmL.2.2.1 629 = .ok (.ireturn, 1) := by decide +kernel
theorem qdL_630 : decode qmL.2.2.1 630 = .ok (.goto 167, 3) := by decide +kernel
theorem qdL_633 : decode qmL.2.2.1 633 = .ok (.aload_n 1, 1) := by decide +kernel
theorem qdL_634 : decode qmL.2.2.1 634 = .ok (.aload_n 0, 1) := by decide +kernel
theorem qdL_635 : decode qmL.2.2.1 635 = .ok (.iload 5, 2) := by decide +kernel
theorem qdL_637 : decode qmL.2.2.1 637 = .ok (.iconst 1, 1) := by decide +kernel
theorem qdL_638 : decode qmL.2.2.1 638 = .ok (.iadd, 1) := by decide +kernel
theorem qdL_639 : decode qmL.2.2.1 639 = .ok (.iaload, 1) := by decide +kernel
theorem qdL_640 : decode qmL.2.2.1 640 = .ok (.ifCond .eq 7, 3) := by decide +kernel
theorem qdL_643 : decode qmL.2.2.1 643 = .ok (.iconst 1, 1) := by decide +kernel
theorem qdL_644 : decode qmL.2.2.1 644 = .ok (.goto 4, 3) := by decide +kernel
theorem qdL_647 : decode qmL.2.2.1 647 = .ok (.iconst 0, 1) := by decide +kernel
theorem qdL_648 : decode qmL.2.2.1 648 = .ok (.aload_n 0, 1) := by decide +kernel
theorem qdL_649 : decode qmL.2.2.1 649 = .ok (.iload 5, 2) := by decide +kernel
theorem qdL_651 : decode qmL.2.2.1 651 = .ok (.iconst 2, 1) := by decide +kernel
theorem qdL_652 : decode qmL.2.2.1 652 = .ok (.iadd, 1) := by decide +kernel
theorem qdL_653 : decode qmL.2.2.1 653 = .ok (.iaload, 1) := by decide +kernel
theorem qdL_654 : decode qmL.2.2.1 654 = .ok (.aload_n 0, 1) := by decide +kernel
theorem qdL_655 : decode qmL.2.2.1 655 = .ok (.iload 5, 2) := by decide +kernel
theorem qdL_657 : decode qmL.2.2.1 657 = .ok (.iconst 3, 1) := by decide +kernel
theorem qdL_658 : decode qmL.2.2.1 658 = .ok (.iadd, 1) := by decide +kernel
theorem qdL_659 : decode qmL.2.2.1 659 = .ok (.iaload, 1) := by decide +kernel
theorem qdL_660 : decode qmL.2.2.1 660 = .ok (.aload_n 3, 1) := by decide +kernel
theorem qdL_661 : decode qmL.2.2.1 661 = .ok (.invokestatic 97, 3) := by decide +kernel
theorem qdL_664 : decode qmL.2.2.1 664 = .ok (.istore 6, 2) := by decide +kernel
theorem qdL_666 : decode qmL.2.2.1 666 = .ok (.aload_n 2, 1) := by decide +kernel
theorem qdL_667 : decode qmL.2.2.1 667 = .ok (.aload_n 0, 1) := by decide +kernel
theorem qdL_668 : decode qmL.2.2.1 668 = .ok (.iload 5, 2) := by decide +kernel
theorem qdL_670 : decode qmL.2.2.1 670 = .ok (.iconst 1, 1) := by decide +kernel
theorem qdL_671 : decode qmL.2.2.1 671 = .ok (.iadd, 1) := by decide +kernel
theorem qdL_672 : decode qmL.2.2.1 672 = .ok (.iaload, 1) := by decide +kernel
theorem qdL_673 : decode qmL.2.2.1 673 = .ok (.ifCond .eq 7, 3) := by decide +kernel
theorem qdL_676 : decode qmL.2.2.1 676 = .ok (.iconst 1, 1) := by decide +kernel
theorem qdL_677 : decode qmL.2.2.1 677 = .ok (.goto 4, 3) := by decide +kernel
theorem qdL_680 : decode qmL.2.2.1 680 = .ok (.iconst 0, 1) := by decide +kernel
theorem qdL_681 : decode qmL.2.2.1 681 = .ok (.aload_n 0, 1) := by decide +kernel
theorem qdL_682 : decode qmL.2.2.1 682 = .ok (.iload 5, 2) := by decide +kernel
theorem qdL_684 : decode qmL.2.2.1 684 = .ok (.iconst 2, 1) := by decide +kernel
theorem qdL_685 : decode qmL.2.2.1 685 = .ok (.iadd, 1) := by decide +kernel
theorem qdL_686 : decode qmL.2.2.1 686 = .ok (.iaload, 1) := by decide +kernel
theorem qdL_687 : decode qmL.2.2.1 687 = .ok (.aload_n 0, 1) := by decide +kernel
theorem qdL_688 : decode qmL.2.2.1 688 = .ok (.iload 5, 2) := by decide +kernel
theorem qdL_690 : decode qmL.2.2.1 690 = .ok (.iconst 3, 1) := by decide +kernel
theorem qdL_691 : decode qmL.2.2.1 691 = .ok (.iadd, 1) := by decide +kernel
theorem qdL_692 : decode qmL.2.2.1 692 = .ok (.iaload, 1) := by decide +kernel
theorem qdL_693 : decode qmL.2.2.1 693 = .ok (.invokevirtual 100, 3) := by decide +kernel
theorem qdL_696 : decode qmL.2.2.1 696 = .ok (.istore 7, 2) := by decide +kernel
theorem qdL_698 : decode qmL.2.2.1 698 = .ok (.aload_n 2, 1) := by decide +kernel
theorem qdL_699 : decode qmL.2.2.1 699 = .ok (.invokevirtual 72, 3) := by decide +kernel
theorem qdL_702 : decode qmL.2.2.1 702 = .ok (.iload 6, 2) := by decide +kernel
theorem qdL_704 : decode qmL.2.2.1 704 = .ok (.if_icmp .eq 5, 3) := by decide +kernel
theorem qdL_707 : decode qmL.2.2.1 707 = .ok (.iconst 0, 1) := by decide +kernel
theorem qdL_708 : decode qmL.2.2.1 708 = .ok (.ireturn, 1) := by decide +kernel
theorem qdL_709 : decode qmL.2.2.1 709 = .ok (.iload 6, 2) := by decide +kernel
theorem qdL_711 : decode qmL.2.2.1 711 = .ok (.ifCond .ne 15, 3) := by decide +kernel
theorem qdL_714 : decode qmL.2.2.1 714 = .ok (.aload_n 3, 1) := by decide +kernel
theorem qdL_715 : decode qmL.2.2.1 715 = .ok (.iconst 0, 1) := by decide +kernel
theorem qdL_716 : decode qmL.2.2.1 716 = .ok (.laload, 1) := by decide +kernel
theorem qdL_717 : decode qmL.2.2.1 717 = .ok (.iload 7, 2) := by decide +kernel
theorem qdL_719 : decode qmL.2.2.1 719 = .ok (.i2l, 1) := by decide +kernel
theorem qdL_720 : decode qmL.2.2.1 720 = .ok (.lcmp, 1) := by decide +kernel
theorem qdL_721 : decode qmL.2.2.1 721 = .ok (.ifCond .eq 5, 3) := by decide +kernel
theorem qdL_724 : decode qmL.2.2.1 724 = .ok (.iconst 0, 1) := by decide +kernel
theorem qdL_725 : decode qmL.2.2.1 725 = .ok (.ireturn, 1) := by decide +kernel
theorem qdL_726 : decode qmL.2.2.1 726 = .ok (.goto 71, 3) := by decide +kernel
theorem qdL_729 : decode qmL.2.2.1 729 = .ok (.aload_n 1, 1) := by decide +kernel
theorem qdL_730 : decode qmL.2.2.1 730 = .ok (.aload_n 0, 1) := by decide +kernel
theorem qdL_731 : decode qmL.2.2.1 731 = .ok (.iload 5, 2) := by decide +kernel
theorem qdL_733 : decode qmL.2.2.1 733 = .ok (.iconst 1, 1) := by decide +kernel
theorem qdL_734 : decode qmL.2.2.1 734 = .ok (.iadd, 1) := by decide +kernel
theorem qdL_735 : decode qmL.2.2.1 735 = .ok (.iaload, 1) := by decide +kernel
theorem qdL_736 : decode qmL.2.2.1 736 = .ok (.aload_n 0, 1) := by decide +kernel
theorem qdL_737 : decode qmL.2.2.1 737 = .ok (.iload 5, 2) := by decide +kernel
theorem qdL_739 : decode qmL.2.2.1 739 = .ok (.iconst 2, 1) := by decide +kernel
theorem qdL_740 : decode qmL.2.2.1 740 = .ok (.iadd, 1) := by decide +kernel
theorem qdL_741 : decode qmL.2.2.1 741 = .ok (.iaload, 1) := by decide +kernel
theorem qdL_742 : decode qmL.2.2.1 742 = .ok (.aload_n 3, 1) := by decide +kernel
theorem qdL_743 : decode qmL.2.2.1 743 = .ok (.invokestatic 101, 3) := by decide +kernel
theorem qdL_746 : decode qmL.2.2.1 746 = .ok (.istore 6, 2) := by decide +kernel
theorem qdL_748 : decode qmL.2.2.1 748 = .ok (.aload_n 2, 1) := by decide +kernel
theorem qdL_749 : decode qmL.2.2.1 749 = .ok (.aload_n 0, 1) := by decide +kernel
theorem qdL_750 : decode qmL.2.2.1 750 = .ok (.iload 5, 2) := by decide +kernel
theorem qdL_752 : decode qmL.2.2.1 752 = .ok (.iconst 1, 1) := by decide +kernel
theorem qdL_753 : decode qmL.2.2.1 753 = .ok (.iadd, 1) := by decide +kernel
theorem qdL_754 : decode qmL.2.2.1 754 = .ok (.iaload, 1) := by decide +kernel
theorem qdL_755 : decode qmL.2.2.1 755 = .ok (.aload_n 0, 1) := by decide +kernel
theorem qdL_756 : decode qmL.2.2.1 756 = .ok (.iload 5, 2) := by decide +kernel
theorem qdL_758 : decode qmL.2.2.1 758 = .ok (.iconst 2, 1) := by decide +kernel
theorem qdL_759 : decode qmL.2.2.1 759 = .ok (.iadd, 1) := by decide +kernel
theorem qdL_760 : decode qmL.2.2.1 760 = .ok (.iaload, 1) := by decide +kernel
theorem qdL_761 : decode qmL.2.2.1 761 = .ok (.invokevirtual 103, 3) := by decide +kernel
theorem qdL_764 : decode qmL.2.2.1 764 = .ok (.istore 7, 2) := by decide +kernel
theorem qdL_766 : decode qmL.2.2.1 766 = .ok (.aload_n 2, 1) := by decide +kernel
theorem qdL_767 : decode qmL.2.2.1 767 = .ok (.invokevirtual 72, 3) := by decide +kernel
theorem qdL_770 : decode qmL.2.2.1 770 = .ok (.iload 6, 2) := by decide +kernel
theorem qdL_772 : decode qmL.2.2.1 772 = .ok (.if_icmp .eq 5, 3) := by decide +kernel
theorem qdL_775 : decode qmL.2.2.1 775 = .ok (.iconst 0, 1) := by decide +kernel
theorem qdL_776 : decode qmL.2.2.1 776 = .ok (.ireturn, 1) := by decide +kernel
theorem qdL_777 : decode qmL.2.2.1 777 = .ok (.iload 6, 2) := by decide +kernel
theorem qdL_779 : decode qmL.2.2.1 779 = .ok (.ifCond .ne 15, 3) := by decide +kernel
theorem qdL_782 : decode qmL.2.2.1 782 = .ok (.aload_n 3, 1) := by decide +kernel
theorem qdL_783 : decode qmL.2.2.1 783 = .ok (.iconst 0, 1) := by decide +kernel
theorem qdL_784 : decode qmL.2.2.1 784 = .ok (.laload, 1) := by decide +kernel
theorem qdL_785 : decode qmL.2.2.1 785 = .ok (.iload 7, 2) := by decide +kernel
theorem qdL_787 : decode qmL.2.2.1 787 = .ok (.i2l, 1) := by decide +kernel
theorem qdL_788 : decode qmL.2.2.1 788 = .ok (.lcmp, 1) := by decide +kernel
theorem qdL_789 : decode qmL.2.2.1 789 = .ok (.ifCond .eq 5, 3) := by decide +kernel
theorem qdL_792 : decode qmL.2.2.1 792 = .ok (.iconst 0, 1) := by decide +kernel
theorem qdL_793 : decode qmL.2.2.1 793 = .ok (.ireturn, 1) := by decide +kernel
theorem qdL_794 : decode qmL.2.2.1 794 = .ok (.goto 3, 3) := by decide +kernel
theorem qdL_797 : decode qmL.2.2.1 797 = .ok (.iinc 5 4, 3) := by decide +kernel
theorem qdL_800 : decode qmL.2.2.1 800 = .ok (.goto (-772), 3) := by decide +kernel
theorem qdL_803 : decode qmL.2.2.1 803 = .ok (.iconst 1, 1) := by decide +kernel
theorem qdL_804 : decode qmL.2.2.1 804 = .ok (.ireturn, 1) := by decide +kernel
theorem qkl_11_50 (w : qE) : zTkl w.T 11 50 = some (.long 4294967295) := by show qfind qkl 11 50 = _; decide +kernel
theorem qml_11_52 (w : qE) : zTml w.T 11 52 = some (8, 1, 2) := by show qfind qml 11 52 = _; decide +kernel
theorem qml_11_56 (w : qE) : zTml w.T 11 56 = some (124, 1, 2) := by show qfind qml 11 56 = _; decide +kernel
theorem qml_11_57 (w : qE) : zTml w.T 11 57 = some (10, 1, 2) := by show qfind qml 11 57 = _; decide +kernel
theorem qml_11_61 (w : qE) : zTml w.T 11 61 = some (126, 1, 2) := by show qfind qml 11 61 = _; decide +kernel
theorem qml_11_62 (w : qE) : zTml w.T 11 62 = some (12, 1, 1) := by show qfind qml 11 62 = _; decide +kernel
theorem qml_11_65 (w : qE) : zTml w.T 11 65 = some (127, 1, 1) := by show qfind qml 11 65 = _; decide +kernel
theorem qml_11_66 (w : qE) : zTml w.T 11 66 = some (195, 0, 2) := by show qfind qml 11 66 = _; decide +kernel
theorem qml_11_71 (w : qE) : zTml w.T 11 71 = some (128, 1, 0) := by show qfind qml 11 71 = _; decide +kernel
theorem qml_11_72 (w : qE) : zTml w.T 11 72 = some (123, 1, 0) := by show qfind qml 11 72 = _; decide +kernel
theorem qml_11_75 (w : qE) : zTml w.T 11 75 = some (14, 1, 0) := by show qfind qml 11 75 = _; decide +kernel
theorem qml_11_78 (w : qE) : zTml w.T 11 78 = some (175, 1, 0) := by show qfind qml 11 78 = _; decide +kernel
theorem qml_11_79 (w : qE) : zTml w.T 11 79 = some (196, 0, 4) := by show qfind qml 11 79 = _; decide +kernel
theorem qml_11_82 (w : qE) : zTml w.T 11 82 = some (176, 1, 2) := by show qfind qml 11 82 = _; decide +kernel
theorem qml_11_83 (w : qE) : zTml w.T 11 83 = some (197, 0, 3) := by show qfind qml 11 83 = _; decide +kernel
theorem qml_11_86 (w : qE) : zTml w.T 11 86 = some (179, 1, 1) := by show qfind qml 11 86 = _; decide +kernel
theorem qml_11_87 (w : qE) : zTml w.T 11 87 = some (198, 0, 4) := by show qfind qml 11 87 = _; decide +kernel
theorem qml_11_89 (w : qE) : zTml w.T 11 89 = some (181, 1, 2) := by show qfind qml 11 89 = _; decide +kernel
theorem qml_11_90 (w : qE) : zTml w.T 11 90 = some (199, 0, 4) := by show qfind qml 11 90 = _; decide +kernel
theorem qml_11_92 (w : qE) : zTml w.T 11 92 = some (182, 1, 2) := by show qfind qml 11 92 = _; decide +kernel
theorem qml_11_93 (w : qE) : zTml w.T 11 93 = some (200, 0, 3) := by show qfind qml 11 93 = _; decide +kernel
theorem qml_11_96 (w : qE) : zTml w.T 11 96 = some (191, 1, 1) := by show qfind qml 11 96 = _; decide +kernel
theorem qml_11_97 (w : qE) : zTml w.T 11 97 = some (201, 0, 5) := by show qfind qml 11 97 = _; decide +kernel
theorem qml_11_100 (w : qE) : zTml w.T 11 100 = some (192, 1, 3) := by show qfind qml 11 100 = _; decide +kernel
theorem qml_11_101 (w : qE) : zTml w.T 11 101 = some (202, 0, 4) := by show qfind qml 11 101 = _; decide +kernel
theorem qml_11_103 (w : qE) : zTml w.T 11 103 = some (194, 1, 2) := by show qfind qml 11 103 = _; decide +kernel
set_option maxRecDepth 100000 in
theorem kL_28 {w : qE} {s : qS} {A : Nat → Int64} {D : Nat → UInt64} {K : Nat} {v5 : Int} (hL : w.1 ≤ 2048) (h5 : 0 ≤ v5 ∧ v5 ≤ 4000) (H : (v5 ≤ ((w.1 : Int)) - 4 → (qand (scr w v5) 15 = 0 → yR w 20 qmL 108 [(0, .retAddr 1), (1, .ref 0), (2, .ref 25), (3, .ref 41), (4, .ref 42), (5, qI v5)] [] (hp s (xo A D)) (LK K)) ∧ (qand (scr w v5) 15 = 1 → yR w 20 qmL 177 [(0, .retAddr 1), (1, .ref 0), (2, .ref 25), (3, .ref 41), (4, .ref 42), (5, qI v5)] [] (hp s (xo A D)) (LK K)) ∧ (qand (scr w v5) 15 = 2 → yR w 20 qmL 214 [(0, .retAddr 1), (1, .ref 0), (2, .ref 25), (3, .ref 41), (4, .ref 42), (5, qI v5)] [] (hp s (xo A D)) (LK K)) ∧ (qand (scr w v5) 15 = 3 → yR w 20 qmL 239 [(0, .retAddr 1), (1, .ref 0), (2, .ref 25), (3, .ref 41), (4, .ref 42), (5, qI v5)] [] (hp s (xo A D)) (LK K)) ∧ (qand (scr w v5) 15 = 4 → yR w 20 qmL 283 [(0, .retAddr 1), (1, .ref 0), (2, .ref 25), (3, .ref 41), (4, .ref 42), (5, qI v5)] [] (hp s (xo A D)) (LK K)) ∧ (qand (scr w v5) 15 = 5 → yR w 20 qmL 296 [(0, .retAddr 1), (1, .ref 0), (2, .ref 25), (3, .ref 41), (4, .ref 42), (5, qI v5)] [] (hp s (xo A D)) (LK K)) ∧ (qand (scr w v5) 15 = 6 → yR w 20 qmL 364 [(0, .retAddr 1), (1, .ref 0), (2, .ref 25), (3, .ref 41), (4, .ref 42), (5, qI v5)] [] (hp s (xo A D)) (LK K)) ∧ (qand (scr w v5) 15 = 7 → yR w 20 qmL 441 [(0, .retAddr 1), (1, .ref 0), (2, .ref 25), (3, .ref 41), (4, .ref 42), (5, qI v5)] [] (hp s (xo A D)) (LK K)) ∧ (qand (scr w v5) 15 = 8 → yR w 20 qmL 509 [(0, .retAddr 1), (1, .ref 0), (2, .ref 25), (3, .ref 41), (4, .ref 42), (5, qI v5)] [] (hp s (xo A D)) (LK K)) ∧ (qand (scr w v5) 15 = 9 → yR w 20 qmL 577 [(0, .retAddr 1), (1, .ref 0), (2, .ref 25), (3, .ref 41), (4, .ref 42), (5, qI v5)] [] (hp s (xo A D)) (LK K)) ∧ (qand (scr w v5) 15 = 10 → yR w 20 qmL 633 [(0, .retAddr 1), (1, .ref 0), (2, .ref 25), (3, .ref 41), (4, .ref 42), (5, qI v5)] [] (hp s (xo A D)) (LK K)) ∧ (qand (scr w v5) 15 = 11 → yR w 20 qmL 729 [(0, .retAddr 1), (1, .ref 0), (2, .ref 25), (3, .ref 41), (4, .ref 42), (5, qI v5)] [] (hp s (xo A D)) (LK K)) ∧ ((qand (scr w v5) 15 < 0 ∨ 11 < qand (scr w v5) 15) → yR w 20 qmL 797 [(0, .retAddr 1), (1, .ref 0), (2, .ref 25), (3, .ref 41), (4, .ref 42), (5, qI v5)] [] (hp s (xo A D)) (LK K)))) : yR w 20 qmL 28 [(0, .retAddr 1), (1, .ref 0), (2, .ref 25), (3, .ref 41), (4, .ref 42), (5, qI v5)] [] (hp s (xo A D)) (LK K) := by
  refine yS_iload qdL_28 rfl ?_
  refine yS_oload_n qdL_30 rfl ?_
  refine yS_slen qdL_31 ?_
  refine yS_iconst qdL_32 ?_
  refine yS_isub (a := (w.1 : Int)) (b := 4) qdL_33 ?_
  refine yS_icmp qdL_34 rfl (zcnd_gt (a := v5) (b := ((w.1 : Int)) - 4) ⟨by omega, by omega⟩ ⟨by omega, by omega⟩ (fun t => yR w _ _ t _ _ _ _) (fun hc => ?_) (fun hc => ?_))
  · refine yS_iconst qdL_803 ?_
    exact yS_zreturn qdL_804 rfl (Or.inr rfl) ⟨rfl, Nat.zero_le _, Nat.zero_le _⟩
  · have H := H hc
    refine yS_oload_n qdL_37 rfl ?_
    refine yS_iload qdL_38 rfl ?_
    refine yS_scr qdL_40 (by omega) (by omega) hL ?_
    refine yS_bipush qdL_41 (by decide) ?_
    refine yS_iand (a := scr w v5) (b := 15) qdL_43 ?_
    have hg : Rg (qand (scr w v5) 15) := qi_rg _
    obtain ⟨H0, H1, H2, H3, H4, H5, H6, H7, H8, H9, H10, H11, Hd⟩ := H
    by_cases hc0 : qand (scr w v5) 15 = 0
    · refine yS_tsw qdL_44 (t := 108) hg (by rw [hc0]; rfl) ?_
      have H := H0 hc0
      exact yS_sub (zsub_c rfl (zsub_c rfl (zsub_c rfl (zsub_c rfl (zsub_c rfl (zsub_c rfl zsub_n)))))) H
    by_cases hc1 : qand (scr w v5) 15 = 1
    · refine yS_tsw qdL_44 (t := 177) hg (by rw [hc1]; rfl) ?_
      have H := H1 hc1
      exact yS_sub (zsub_c rfl (zsub_c rfl (zsub_c rfl (zsub_c rfl (zsub_c rfl (zsub_c rfl zsub_n)))))) H
    by_cases hc2 : qand (scr w v5) 15 = 2
    · refine yS_tsw qdL_44 (t := 214) hg (by rw [hc2]; rfl) ?_
      have H := H2 hc2
      exact yS_sub (zsub_c rfl (zsub_c rfl (zsub_c rfl (zsub_c rfl (zsub_c rfl (zsub_c rfl zsub_n)))))) H
    by_cases hc3 : qand (scr w v5) 15 = 3
    · refine yS_tsw qdL_44 (t := 239) hg (by rw [hc3]; rfl) ?_
      have H := H3 hc3
      exact yS_sub (zsub_c rfl (zsub_c rfl (zsub_c rfl (zsub_c rfl (zsub_c rfl (zsub_c rfl zsub_n)))))) H
    by_cases hc4 : qand (scr w v5) 15 = 4
    · refine yS_tsw qdL_44 (t := 283) hg (by rw [hc4]; rfl) ?_
      have H := H4 hc4
      exact yS_sub (zsub_c rfl (zsub_c rfl (zsub_c rfl (zsub_c rfl (zsub_c rfl (zsub_c rfl zsub_n)))))) H
    by_cases hc5 : qand (scr w v5) 15 = 5
    · refine yS_tsw qdL_44 (t := 296) hg (by rw [hc5]; rfl) ?_
      have H := H5 hc5
      exact yS_sub (zsub_c rfl (zsub_c rfl (zsub_c rfl (zsub_c rfl (zsub_c rfl (zsub_c rfl zsub_n)))))) H
    by_cases hc6 : qand (scr w v5) 15 = 6
    · refine yS_tsw qdL_44 (t := 364) hg (by rw [hc6]; rfl) ?_
      have H := H6 hc6
      exact yS_sub (zsub_c rfl (zsub_c rfl (zsub_c rfl (zsub_c rfl (zsub_c rfl (zsub_c rfl zsub_n)))))) H
    by_cases hc7 : qand (scr w v5) 15 = 7
    · refine yS_tsw qdL_44 (t := 441) hg (by rw [hc7]; rfl) ?_
      have H := H7 hc7
      exact yS_sub (zsub_c rfl (zsub_c rfl (zsub_c rfl (zsub_c rfl (zsub_c rfl (zsub_c rfl zsub_n)))))) H
    by_cases hc8 : qand (scr w v5) 15 = 8
    · refine yS_tsw qdL_44 (t := 509) hg (by rw [hc8]; rfl) ?_
      have H := H8 hc8
      exact yS_sub (zsub_c rfl (zsub_c rfl (zsub_c rfl (zsub_c rfl (zsub_c rfl (zsub_c rfl zsub_n)))))) H
    by_cases hc9 : qand (scr w v5) 15 = 9
    · refine yS_tsw qdL_44 (t := 577) hg (by rw [hc9]; rfl) ?_
      have H := H9 hc9
      exact yS_sub (zsub_c rfl (zsub_c rfl (zsub_c rfl (zsub_c rfl (zsub_c rfl (zsub_c rfl zsub_n)))))) H
    by_cases hc10 : qand (scr w v5) 15 = 10
    · refine yS_tsw qdL_44 (t := 633) hg (by rw [hc10]; rfl) ?_
      have H := H10 hc10
      exact yS_sub (zsub_c rfl (zsub_c rfl (zsub_c rfl (zsub_c rfl (zsub_c rfl (zsub_c rfl zsub_n)))))) H
    by_cases hc11 : qand (scr w v5) 15 = 11
    · refine yS_tsw qdL_44 (t := 729) hg (by rw [hc11]; rfl) ?_
      have H := H11 hc11
      exact yS_sub (zsub_c rfl (zsub_c rfl (zsub_c rfl (zsub_c rfl (zsub_c rfl (zsub_c rfl zsub_n)))))) H
    have hz : qand (scr w v5) 15 < 0 ∨ 11 < qand (scr w v5) 15 := by omega
    refine yS_tsw qdL_44 (t := 797) hg (by unfold ztsw; rw [if_pos hz]; rfl) ?_
    have H := Hd hz
    exact yS_sub (zsub_c rfl (zsub_c rfl (zsub_c rfl (zsub_c rfl (zsub_c rfl (zsub_c rfl zsub_n)))))) H
set_option maxRecDepth 100000 in
theorem kL_108 {w : qE} {s : qS} {A : Nat → Int64} {D : Nat → UInt64} {K : Nat} {v5 : Int} (hL : w.1 ≤ 2048) (h5 : 0 ≤ v5 ∧ v5 + 4 ≤ (w.1 : Int)) (H : qW (wx w (xo A D)) 2 8 [.ref 0, .long ((((Int32.ofInt (scr w (v5 + 1))).toInt64) <<< ((Int32.ofInt 32).toInt64 &&& 63)) ||| (((Int32.ofInt (scr w (v5 + 2))).toInt64) &&& ((4294967295 : Int64)))), qI (scr w (v5 + 3))] s (qPI (fun r1 s1 => qW (wx w (xo A D)) 2 124 [.ref 25, .long ((((Int32.ofInt (scr w (v5 + 1))).toInt64) <<< ((Int32.ofInt 32).toInt64 &&& 63)) ||| (((Int32.ofInt (scr w (v5 + 2))).toInt64) &&& ((4294967295 : Int64)))), qI (scr w (v5 + 3))] s1 (qPI (fun r2 s2 => r1 = r2 ∧ yR w 20 qmL 797 [(0, .retAddr 1), (1, .ref 0), (2, .ref 25), (3, .ref 41), (4, .ref 42), (5, qI v5)] [] (hp s2 (xo A D)) (LK K)) (fun _ _ => False))) (fun _ _ => False))) : yR w 20 qmL 108 [(0, .retAddr 1), (1, .ref 0), (2, .ref 25), (3, .ref 41), (4, .ref 42), (5, qI v5)] [] (hp s (xo A D)) (LK (K + 1)) := by
  refine yS_aload_n qdL_108 rfl ?_
  refine yS_oload_n qdL_109 rfl ?_
  refine yS_iload qdL_110 rfl ?_
  refine yS_iconst qdL_112 ?_
  refine yS_iadd (a := v5) (b := 1) qdL_113 ?_
  refine yS_scr qdL_114 (by omega) (by omega) hL ?_
  refine yS_p1 (u := .long ((Int32.ofInt (scr w (v5 + 1))).toInt64)) qdL_115 rfl rfl (fun _ => rfl) ?_
  refine yS_bipush qdL_116 (by decide) ?_
  refine yS_p2 (u := .long (((Int32.ofInt (scr w (v5 + 1))).toInt64) <<< ((Int32.ofInt 32).toInt64 &&& 63))) qdL_118 rfl rfl (fun _ => rfl) ?_
  refine yS_oload_n qdL_119 rfl ?_
  refine yS_iload qdL_120 rfl ?_
  refine yS_iconst qdL_122 ?_
  refine yS_iadd (a := v5) (b := 2) qdL_123 ?_
  refine yS_scr qdL_124 (by omega) (by omega) hL ?_
  refine yS_p1 (u := .long ((Int32.ofInt (scr w (v5 + 2))).toInt64)) qdL_125 rfl rfl (fun _ => rfl) ?_
  refine yS_ldc (v := .long ((4294967295 : Int64))) qdL_126 rfl rfl (fun _ => rfl) (fun _ => qS_k2 (qkl_11_50 w)) ?_
  refine yS_p2 (u := .long (((Int32.ofInt (scr w (v5 + 2))).toInt64) &&& ((4294967295 : Int64)))) qdL_129 rfl rfl (fun _ => rfl) ?_
  refine yS_p2 (u := .long ((((Int32.ofInt (scr w (v5 + 1))).toInt64) <<< ((Int32.ofInt 32).toInt64 &&& 63)) ||| (((Int32.ofInt (scr w (v5 + 2))).toInt64) &&& ((4294967295 : Int64))))) qdL_130 rfl rfl (fun _ => rfl) ?_
  refine yS_oload_n qdL_131 rfl ?_
  refine yS_iload qdL_132 rfl ?_
  refine yS_iconst qdL_134 ?_
  refine yS_iadd (a := v5) (b := 3) qdL_135 ?_
  refine yS_scr qdL_136 (by omega) (by omega) hL ?_
  refine yS_vI qdL_137 (qml_11_52 w) rfl qtm_8 (hpc_0 _ _) (Nat.le_of_ble_eq_true rfl) (Nat.le_of_ble_eq_true rfl) H (fun r1 s1 H => ?_) (fun _ _ h => h.elim)
  refine yS_aload_n qdL_140 rfl ?_
  refine yS_oload_n qdL_141 rfl ?_
  refine yS_iload qdL_142 rfl ?_
  refine yS_iconst qdL_144 ?_
  refine yS_iadd (a := v5) (b := 1) qdL_145 ?_
  refine yS_scr qdL_146 (by omega) (by omega) hL ?_
  refine yS_p1 (u := .long ((Int32.ofInt (scr w (v5 + 1))).toInt64)) qdL_147 rfl rfl (fun _ => rfl) ?_
  refine yS_bipush qdL_148 (by decide) ?_
  refine yS_p2 (u := .long (((Int32.ofInt (scr w (v5 + 1))).toInt64) <<< ((Int32.ofInt 32).toInt64 &&& 63))) qdL_150 rfl rfl (fun _ => rfl) ?_
  refine yS_oload_n qdL_151 rfl ?_
  refine yS_iload qdL_152 rfl ?_
  refine yS_iconst qdL_154 ?_
  refine yS_iadd (a := v5) (b := 2) qdL_155 ?_
  refine yS_scr qdL_156 (by omega) (by omega) hL ?_
  refine yS_p1 (u := .long ((Int32.ofInt (scr w (v5 + 2))).toInt64)) qdL_157 rfl rfl (fun _ => rfl) ?_
  refine yS_ldc (v := .long ((4294967295 : Int64))) qdL_158 rfl rfl (fun _ => rfl) (fun _ => qS_k2 (qkl_11_50 w)) ?_
  refine yS_p2 (u := .long (((Int32.ofInt (scr w (v5 + 2))).toInt64) &&& ((4294967295 : Int64)))) qdL_161 rfl rfl (fun _ => rfl) ?_
  refine yS_p2 (u := .long ((((Int32.ofInt (scr w (v5 + 1))).toInt64) <<< ((Int32.ofInt 32).toInt64 &&& 63)) ||| (((Int32.ofInt (scr w (v5 + 2))).toInt64) &&& ((4294967295 : Int64))))) qdL_162 rfl rfl (fun _ => rfl) ?_
  refine yS_oload_n qdL_163 rfl ?_
  refine yS_iload qdL_164 rfl ?_
  refine yS_iconst qdL_166 ?_
  refine yS_iadd (a := v5) (b := 3) qdL_167 ?_
  refine yS_scr qdL_168 (by omega) (by omega) hL ?_
  refine yS_vI qdL_169 (qml_11_56 w) rfl qtm_124 (hpc_25 _ _) (Nat.le_of_ble_eq_true rfl) (Nat.le_of_ble_eq_true rfl) H (fun r2 s2 H => ?_) (fun _ _ h => h.elim)
  obtain ⟨e, H⟩ := H
  refine yS_same qdL_172 rfl e ?_
  exact (yS_sub (zsub_c rfl (zsub_c rfl (zsub_c rfl (zsub_c rfl (zsub_c rfl (zsub_c rfl zsub_n)))))) H).up
set_option maxRecDepth 100000 in
theorem kL_177 {w : qE} {s : qS} {A : Nat → Int64} {D : Nat → UInt64} {K : Nat} {v5 : Int} (hL : w.1 ≤ 2048) (h5 : 0 ≤ v5 ∧ v5 + 4 ≤ (w.1 : Int)) (H : qW (wx w (xo A D)) 2 10 [.ref 0, qI (scr w (v5 + 1)), qI (scr w (v5 + 2))] s (qPI (fun r1 s1 => qW (wx w (xo A D)) 2 126 [.ref 25, qI (scr w (v5 + 1)), qI (scr w (v5 + 2))] s1 (qPI (fun r2 s2 => r1 = r2 ∧ yR w 20 qmL 797 [(0, .retAddr 1), (1, .ref 0), (2, .ref 25), (3, .ref 41), (4, .ref 42), (5, qI v5)] [] (hp s2 (xo A D)) (LK K)) (fun _ _ => False))) (fun _ _ => False))) : yR w 20 qmL 177 [(0, .retAddr 1), (1, .ref 0), (2, .ref 25), (3, .ref 41), (4, .ref 42), (5, qI v5)] [] (hp s (xo A D)) (LK (K + 1)) := by
  refine yS_aload_n qdL_177 rfl ?_
  refine yS_oload_n qdL_178 rfl ?_
  refine yS_iload qdL_179 rfl ?_
  refine yS_iconst qdL_181 ?_
  refine yS_iadd (a := v5) (b := 1) qdL_182 ?_
  refine yS_scr qdL_183 (by omega) (by omega) hL ?_
  refine yS_oload_n qdL_184 rfl ?_
  refine yS_iload qdL_185 rfl ?_
  refine yS_iconst qdL_187 ?_
  refine yS_iadd (a := v5) (b := 2) qdL_188 ?_
  refine yS_scr qdL_189 (by omega) (by omega) hL ?_
  refine yS_vI qdL_190 (qml_11_57 w) rfl qtm_10 (hpc_0 _ _) (Nat.le_of_ble_eq_true rfl) (Nat.le_of_ble_eq_true rfl) H (fun r1 s1 H => ?_) (fun _ _ h => h.elim)
  refine yS_aload_n qdL_193 rfl ?_
  refine yS_oload_n qdL_194 rfl ?_
  refine yS_iload qdL_195 rfl ?_
  refine yS_iconst qdL_197 ?_
  refine yS_iadd (a := v5) (b := 1) qdL_198 ?_
  refine yS_scr qdL_199 (by omega) (by omega) hL ?_
  refine yS_oload_n qdL_200 rfl ?_
  refine yS_iload qdL_201 rfl ?_
  refine yS_iconst qdL_203 ?_
  refine yS_iadd (a := v5) (b := 2) qdL_204 ?_
  refine yS_scr qdL_205 (by omega) (by omega) hL ?_
  refine yS_vI qdL_206 (qml_11_61 w) rfl qtm_126 (hpc_25 _ _) (Nat.le_of_ble_eq_true rfl) (Nat.le_of_ble_eq_true rfl) H (fun r2 s2 H => ?_) (fun _ _ h => h.elim)
  obtain ⟨e, H⟩ := H
  refine yS_same qdL_209 rfl e ?_
  exact (yS_sub (zsub_c rfl (zsub_c rfl (zsub_c rfl (zsub_c rfl (zsub_c rfl (zsub_c rfl zsub_n)))))) H).up
set_option maxRecDepth 100000 in
theorem kL_214 {w : qE} {s : qS} {A : Nat → Int64} {D : Nat → UInt64} {K : Nat} {v5 : Int} (hL : w.1 ≤ 2048) (h5 : 0 ≤ v5 ∧ v5 + 4 ≤ (w.1 : Int)) (H : qW (wx w (xo A D)) 2 12 [.ref 0, qI (scr w (v5 + 1))] s (qPI (fun r1 s1 => qW (wx w (xo A D)) 2 127 [.ref 25, qI (scr w (v5 + 1))] s1 (qPI (fun r2 s2 => r1 = r2 ∧ yR w 20 qmL 797 [(0, .retAddr 1), (1, .ref 0), (2, .ref 25), (3, .ref 41), (4, .ref 42), (5, qI v5)] [] (hp s2 (xo A D)) (LK K)) (fun _ _ => False))) (fun _ _ => False))) : yR w 20 qmL 214 [(0, .retAddr 1), (1, .ref 0), (2, .ref 25), (3, .ref 41), (4, .ref 42), (5, qI v5)] [] (hp s (xo A D)) (LK (K + 1)) := by
  refine yS_aload_n qdL_214 rfl ?_
  refine yS_oload_n qdL_215 rfl ?_
  refine yS_iload qdL_216 rfl ?_
  refine yS_iconst qdL_218 ?_
  refine yS_iadd (a := v5) (b := 1) qdL_219 ?_
  refine yS_scr qdL_220 (by omega) (by omega) hL ?_
  refine yS_vI qdL_221 (qml_11_62 w) rfl qtm_12 (hpc_0 _ _) (Nat.le_of_ble_eq_true rfl) (Nat.le_of_ble_eq_true rfl) H (fun r1 s1 H => ?_) (fun _ _ h => h.elim)
  refine yS_aload_n qdL_224 rfl ?_
  refine yS_oload_n qdL_225 rfl ?_
  refine yS_iload qdL_226 rfl ?_
  refine yS_iconst qdL_228 ?_
  refine yS_iadd (a := v5) (b := 1) qdL_229 ?_
  refine yS_scr qdL_230 (by omega) (by omega) hL ?_
  refine yS_vI qdL_231 (qml_11_65 w) rfl qtm_127 (hpc_25 _ _) (Nat.le_of_ble_eq_true rfl) (Nat.le_of_ble_eq_true rfl) H (fun r2 s2 H => ?_) (fun _ _ h => h.elim)
  obtain ⟨e, H⟩ := H
  refine yS_same qdL_234 rfl e ?_
  exact (yS_sub (zsub_c rfl (zsub_c rfl (zsub_c rfl (zsub_c rfl (zsub_c rfl (zsub_c rfl zsub_n)))))) H).up
set_option maxRecDepth 100000 in
theorem kL_239 {w : qE} {s : qS} {A : Nat → Int64} {D : Nat → UInt64} {K : Nat} {v5 : Int} (hL : w.1 ≤ 2048) (h5 : 0 ≤ v5 ∧ v5 + 4 ≤ (w.1 : Int)) (H : hW w 11 195 [.ref 0, .ref 41] s A D (fun r1 s1 A1 D1 => qW (wx w (xo A1 D1)) 12 128 [.ref 25] s1 (qPI (fun r2 s2 => qW (wx w (xo A1 D1)) 1 123 [.ref 25] s2 (qPI (fun r3 s3 => r3 = r1 ∧ Rg r1 ∧ (r1 = 0 → A1 0 = (Int32.ofInt r2).toInt64 ∧ yR w 20 qmL 797 [(0, .retAddr 1), (1, .ref 0), (2, .ref 25), (3, .ref 41), (4, .ref 42), (5, qI v5)] [] (hp s3 (xo A1 D1)) (LK K)) ∧ (r1 ≠ 0 → yR w 20 qmL 797 [(0, .retAddr 1), (1, .ref 0), (2, .ref 25), (3, .ref 41), (4, .ref 42), (5, qI v5)] [] (hp s3 (xo A1 D1)) (LK K))) (fun _ _ => False))) (fun _ _ => False)))) : yR w 20 qmL 239 [(0, .retAddr 1), (1, .ref 0), (2, .ref 25), (3, .ref 41), (4, .ref 42), (5, qI v5)] [] (hp s (xo A D)) (LK (K + 1)) := by
  refine yS_aload_n qdL_239 rfl ?_
  refine yS_aload_n qdL_240 rfl ?_
  refine yS_hW qdL_241 (qml_11_66 w) rfl (Nat.le_of_ble_eq_true rfl) (Nat.le_of_ble_eq_true rfl) (H.mono (fun r1 s1 A1 D1 H => ?_))
  refine yS_istore (a := [(0, .retAddr 1), (1, .ref 0), (2, .ref 25), (3, .ref 41), (4, .ref 42), (5, qI v5)]) qdL_244 (Nat.le_of_ble_eq_true rfl) (zsub_c rfl (zsub_c rfl (zsub_c rfl (zsub_c rfl (zsub_c rfl (zsub_c rfl zsub_n)))))) rfl ?_
  refine yS_aload_n qdL_246 rfl ?_
  refine yS_vI qdL_247 (qml_11_71 w) rfl qtm_128 (hpc_25 _ _) (Nat.le_of_ble_eq_true rfl) (Nat.le_of_ble_eq_true rfl) H (fun r2 s2 H => ?_) (fun _ _ h => h.elim)
  refine yS_istore (a := [(6, qI r1), (0, .retAddr 1), (1, .ref 0), (2, .ref 25), (3, .ref 41), (4, .ref 42), (5, qI v5)]) qdL_250 (Nat.le_of_ble_eq_true rfl) (zsub_c rfl (zsub_c rfl (zsub_c rfl (zsub_c rfl (zsub_c rfl (zsub_c rfl (zsub_c rfl zsub_n))))))) rfl ?_
  refine yS_aload_n qdL_252 rfl ?_
  refine yS_vI qdL_253 (qml_11_72 w) rfl qtm_123 (hpc_25 _ _) (Nat.le_of_ble_eq_true rfl) (Nat.le_of_ble_eq_true rfl) H (fun r3 s3 H => ?_) (fun _ _ h => h.elim)
  refine yS_iload qdL_256 rfl ?_
  obtain ⟨e, H⟩ := H
  refine yS_same qdL_258 rfl e ?_
  refine yS_iload qdL_263 rfl ?_
  obtain ⟨hg, H1, H2⟩ := H
  refine yS_if0 qdL_265 rfl (zcnd_ne (a := r1) (b := 0) hg ⟨by decide, by decide⟩ (fun t => yR w _ _ t _ _ _ _) (fun hc => ?_) (fun hc => ?_))
  · have H := H1 hc; clear H1 H2
    refine yS_aload_n qdL_268 rfl ?_
    refine yS_iconst qdL_269 ?_
    refine yS_laload qdL_270 ?_
    refine yS_iload qdL_271 rfl ?_
    refine yS_p1 (u := .long ((Int32.ofInt r2).toInt64)) qdL_273 rfl rfl (fun _ => rfl) ?_
    obtain ⟨e, H⟩ := H
    rw [e]
    refine yS_p2 (u := .int (lg_cmp ((Int32.ofInt r2).toInt64) ((Int32.ofInt r2).toInt64))) qdL_274 rfl rfl (fun _ => rfl) ?_
    rw [lg_cmp_0]
    refine yS_if qdL_275 rfl ?_
    show yR w _ _ 280 _ _ _ _
    refine yS_goto qdL_280 rfl ?_
    exact yS_sub (zsub_c rfl (zsub_c rfl (zsub_c rfl (zsub_c rfl (zsub_c rfl (zsub_c rfl zsub_n)))))) H
  · have H := H2 hc; clear H1 H2
    refine yS_goto qdL_280 rfl ?_
    exact yS_sub (zsub_c rfl (zsub_c rfl (zsub_c rfl (zsub_c rfl (zsub_c rfl (zsub_c rfl zsub_n)))))) H
set_option maxRecDepth 100000 in
theorem kL_283 {w : qE} {s : qS} {A : Nat → Int64} {D : Nat → UInt64} {K : Nat} {v5 : Int} (hL : w.1 ≤ 2048) (h5 : 0 ≤ v5 ∧ v5 + 4 ≤ (w.1 : Int)) (H : qW (wx w (xo A D)) 2 14 [.ref 0] s (qPI (fun r1 s1 => qW (wx w (xo A D)) 1 175 [.ref 25] s1 (qPI (fun r2 s2 => r1 = r2 ∧ yR w 20 qmL 797 [(0, .retAddr 1), (1, .ref 0), (2, .ref 25), (3, .ref 41), (4, .ref 42), (5, qI v5)] [] (hp s2 (xo A D)) (LK K)) (fun _ _ => False))) (fun _ _ => False))) : yR w 20 qmL 283 [(0, .retAddr 1), (1, .ref 0), (2, .ref 25), (3, .ref 41), (4, .ref 42), (5, qI v5)] [] (hp s (xo A D)) (LK (K + 1)) := by
  refine yS_aload_n qdL_283 rfl ?_
  refine yS_vI qdL_284 (qml_11_75 w) rfl qtm_14 (hpc_0 _ _) (Nat.le_of_ble_eq_true rfl) (Nat.le_of_ble_eq_true rfl) H (fun r1 s1 H => ?_) (fun _ _ h => h.elim)
  refine yS_aload_n qdL_287 rfl ?_
  refine yS_vI qdL_288 (qml_11_78 w) rfl qtm_175 (hpc_25 _ _) (Nat.le_of_ble_eq_true rfl) (Nat.le_of_ble_eq_true rfl) H (fun r2 s2 H => ?_) (fun _ _ h => h.elim)
  obtain ⟨e, H⟩ := H
  refine yS_same qdL_291 rfl e ?_
  exact (yS_sub (zsub_c rfl (zsub_c rfl (zsub_c rfl (zsub_c rfl (zsub_c rfl (zsub_c rfl zsub_n)))))) H).up
set_option maxRecDepth 100000 in
theorem kL_296 {w : qE} {s : qS} {A : Nat → Int64} {D : Nat → UInt64} {K : Nat} {v5 : Int} (hL : w.1 ≤ 2048) (h5 : 0 ≤ v5 ∧ v5 + 4 ≤ (w.1 : Int)) (H : hW w 4 196 [.ref 0, qI (scr w (v5 + 1)), qI (scr w (v5 + 2)), .ref 41] s A D (fun r1 s1 A1 D1 => qW (wx w (xo A1 D1)) 3 176 [.ref 25, qI (scr w (v5 + 1)), qI (scr w (v5 + 2))] s1 (qPI (fun r2 s2 => qW (wx w (xo A1 D1)) 1 123 [.ref 25] s2 (qPI (fun r3 s3 => r3 = r1 ∧ Rg r1 ∧ (r1 = 0 → A1 0 = (Int32.ofInt r2).toInt64 ∧ yR w 20 qmL 797 [(0, .retAddr 1), (1, .ref 0), (2, .ref 25), (3, .ref 41), (4, .ref 42), (5, qI v5)] [] (hp s3 (xo A1 D1)) (LK K)) ∧ (r1 ≠ 0 → yR w 20 qmL 797 [(0, .retAddr 1), (1, .ref 0), (2, .ref 25), (3, .ref 41), (4, .ref 42), (5, qI v5)] [] (hp s3 (xo A1 D1)) (LK K))) (fun _ _ => False))) (fun _ _ => False)))) : yR w 20 qmL 296 [(0, .retAddr 1), (1, .ref 0), (2, .ref 25), (3, .ref 41), (4, .ref 42), (5, qI v5)] [] (hp s (xo A D)) (LK (K + 1)) := by
  refine yS_aload_n qdL_296 rfl ?_
  refine yS_oload_n qdL_297 rfl ?_
  refine yS_iload qdL_298 rfl ?_
  refine yS_iconst qdL_300 ?_
  refine yS_iadd (a := v5) (b := 1) qdL_301 ?_
  refine yS_scr qdL_302 (by omega) (by omega) hL ?_
  refine yS_oload_n qdL_303 rfl ?_
  refine yS_iload qdL_304 rfl ?_
  refine yS_iconst qdL_306 ?_
  refine yS_iadd (a := v5) (b := 2) qdL_307 ?_
  refine yS_scr qdL_308 (by omega) (by omega) hL ?_
  refine yS_aload_n qdL_309 rfl ?_
  refine yS_hW qdL_310 (qml_11_79 w) rfl (Nat.le_of_ble_eq_true rfl) (Nat.le_of_ble_eq_true rfl) (H.mono (fun r1 s1 A1 D1 H => ?_))
  refine yS_istore (a := [(0, .retAddr 1), (1, .ref 0), (2, .ref 25), (3, .ref 41), (4, .ref 42), (5, qI v5)]) qdL_313 (Nat.le_of_ble_eq_true rfl) (zsub_c rfl (zsub_c rfl (zsub_c rfl (zsub_c rfl (zsub_c rfl (zsub_c rfl zsub_n)))))) rfl ?_
  refine yS_aload_n qdL_315 rfl ?_
  refine yS_oload_n qdL_316 rfl ?_
  refine yS_iload qdL_317 rfl ?_
  refine yS_iconst qdL_319 ?_
  refine yS_iadd (a := v5) (b := 1) qdL_320 ?_
  refine yS_scr qdL_321 (by omega) (by omega) hL ?_
  refine yS_oload_n qdL_322 rfl ?_
  refine yS_iload qdL_323 rfl ?_
  refine yS_iconst qdL_325 ?_
  refine yS_iadd (a := v5) (b := 2) qdL_326 ?_
  refine yS_scr qdL_327 (by omega) (by omega) hL ?_
  refine yS_vI qdL_328 (qml_11_82 w) rfl qtm_176 (hpc_25 _ _) (Nat.le_of_ble_eq_true rfl) (Nat.le_of_ble_eq_true rfl) H (fun r2 s2 H => ?_) (fun _ _ h => h.elim)
  refine yS_istore (a := [(6, qI r1), (0, .retAddr 1), (1, .ref 0), (2, .ref 25), (3, .ref 41), (4, .ref 42), (5, qI v5)]) qdL_331 (Nat.le_of_ble_eq_true rfl) (zsub_c rfl (zsub_c rfl (zsub_c rfl (zsub_c rfl (zsub_c rfl (zsub_c rfl (zsub_c rfl zsub_n))))))) rfl ?_
  refine yS_aload_n qdL_333 rfl ?_
  refine yS_vI qdL_334 (qml_11_72 w) rfl qtm_123 (hpc_25 _ _) (Nat.le_of_ble_eq_true rfl) (Nat.le_of_ble_eq_true rfl) H (fun r3 s3 H => ?_) (fun _ _ h => h.elim)
  refine yS_iload qdL_337 rfl ?_
  obtain ⟨e, H⟩ := H
  refine yS_same qdL_339 rfl e ?_
  refine yS_iload qdL_344 rfl ?_
  obtain ⟨hg, H1, H2⟩ := H
  refine yS_if0 qdL_346 rfl (zcnd_ne (a := r1) (b := 0) hg ⟨by decide, by decide⟩ (fun t => yR w _ _ t _ _ _ _) (fun hc => ?_) (fun hc => ?_))
  · have H := H1 hc; clear H1 H2
    refine yS_aload_n qdL_349 rfl ?_
    refine yS_iconst qdL_350 ?_
    refine yS_laload qdL_351 ?_
    refine yS_iload qdL_352 rfl ?_
    refine yS_p1 (u := .long ((Int32.ofInt r2).toInt64)) qdL_354 rfl rfl (fun _ => rfl) ?_
    obtain ⟨e, H⟩ := H
    rw [e]
    refine yS_p2 (u := .int (lg_cmp ((Int32.ofInt r2).toInt64) ((Int32.ofInt r2).toInt64))) qdL_355 rfl rfl (fun _ => rfl) ?_
    rw [lg_cmp_0]
    refine yS_if qdL_356 rfl ?_
    show yR w _ _ 361 _ _ _ _
    refine yS_goto qdL_361 rfl ?_
    exact yS_sub (zsub_c rfl (zsub_c rfl (zsub_c rfl (zsub_c rfl (zsub_c rfl (zsub_c rfl zsub_n)))))) H
  · have H := H2 hc; clear H1 H2
    refine yS_goto qdL_361 rfl ?_
    exact yS_sub (zsub_c rfl (zsub_c rfl (zsub_c rfl (zsub_c rfl (zsub_c rfl (zsub_c rfl zsub_n)))))) H
set_option maxRecDepth 100000 in
theorem kL_364 {w : qE} {s : qS} {A : Nat → Int64} {D : Nat → UInt64} {K : Nat} {v5 : Int} (hL : w.1 ≤ 2048) (h5 : 0 ≤ v5 ∧ v5 + 4 ≤ (w.1 : Int)) (H : hW w 5 197 [.ref 0, qI (scr w (v5 + 1)), .ref 42] s A D (fun r1 s1 A1 D1 => qW (wx w (xo A1 D1)) 3 179 [.ref 25, qI (scr w (v5 + 1))] s1 (qPD (fun r2 s2 => qW (wx w (xo A1 D1)) 1 123 [.ref 25] s2 (qPI (fun r3 s3 => r3 = r1 ∧ Rg r1 ∧ (r1 = 0 → D1 0 = r2 ∧ yR w 20 qmL 797 [(0, .retAddr 1), (1, .ref 0), (2, .ref 25), (3, .ref 41), (4, .ref 42), (5, qI v5)] [] (hp s3 (xo A1 D1)) (LK K)) ∧ (r1 ≠ 0 → yR w 20 qmL 797 [(0, .retAddr 1), (1, .ref 0), (2, .ref 25), (3, .ref 41), (4, .ref 42), (5, qI v5)] [] (hp s3 (xo A1 D1)) (LK K))) (fun _ _ => False))) (fun _ _ => False)))) : yR w 20 qmL 364 [(0, .retAddr 1), (1, .ref 0), (2, .ref 25), (3, .ref 41), (4, .ref 42), (5, qI v5)] [] (hp s (xo A D)) (LK (K + 1)) := by
  refine yS_aload_n qdL_364 rfl ?_
  refine yS_oload_n qdL_365 rfl ?_
  refine yS_iload qdL_366 rfl ?_
  refine yS_iconst qdL_368 ?_
  refine yS_iadd (a := v5) (b := 1) qdL_369 ?_
  refine yS_scr qdL_370 (by omega) (by omega) hL ?_
  refine yS_aload qdL_371 rfl ?_
  refine yS_hW qdL_373 (qml_11_83 w) rfl (Nat.le_of_ble_eq_true rfl) (Nat.le_of_ble_eq_true rfl) (H.mono (fun r1 s1 A1 D1 H => ?_))
  refine yS_istore (a := [(0, .retAddr 1), (1, .ref 0), (2, .ref 25), (3, .ref 41), (4, .ref 42), (5, qI v5)]) qdL_376 (Nat.le_of_ble_eq_true rfl) (zsub_c rfl (zsub_c rfl (zsub_c rfl (zsub_c rfl (zsub_c rfl (zsub_c rfl zsub_n)))))) rfl ?_
  refine yS_aload_n qdL_378 rfl ?_
  refine yS_oload_n qdL_379 rfl ?_
  refine yS_iload qdL_380 rfl ?_
  refine yS_iconst qdL_382 ?_
  refine yS_iadd (a := v5) (b := 1) qdL_383 ?_
  refine yS_scr qdL_384 (by omega) (by omega) hL ?_
  refine yS_vD qdL_385 (qml_11_86 w) rfl qtm_179 (hpc_25 _ _) (Nat.le_of_ble_eq_true rfl) (Nat.le_of_ble_eq_true rfl) H (fun r2 s2 H => ?_) (fun _ _ h => h.elim)
  refine yS_dstore (a := [(6, qI r1), (0, .retAddr 1), (1, .ref 0), (2, .ref 25), (3, .ref 41), (4, .ref 42), (5, qI v5)]) qdL_388 (Nat.le_of_ble_eq_true rfl) (zsub_c rfl (zsub_c rfl (zsub_c rfl (zsub_c rfl (zsub_c rfl (zsub_c rfl (zsub_c rfl zsub_n))))))) rfl ?_
  refine yS_aload_n qdL_390 rfl ?_
  refine yS_vI qdL_391 (qml_11_72 w) rfl qtm_123 (hpc_25 _ _) (Nat.le_of_ble_eq_true rfl) (Nat.le_of_ble_eq_true rfl) H (fun r3 s3 H => ?_) (fun _ _ h => h.elim)
  refine yS_iload qdL_394 rfl ?_
  obtain ⟨e, H⟩ := H
  refine yS_same qdL_396 rfl e ?_
  refine yS_iload qdL_401 rfl ?_
  obtain ⟨hg, H1, H2⟩ := H
  refine yS_if0 qdL_403 rfl (zcnd_ne (a := r1) (b := 0) hg ⟨by decide, by decide⟩ (fun t => yR w _ _ t _ _ _ _) (fun hc => ?_) (fun hc => ?_))
  · have H := H1 hc; clear H1 H2
    refine yS_aload qdL_406 rfl ?_
    refine yS_iconst qdL_408 ?_
    obtain ⟨e, H⟩ := H
    refine yS_daload qdL_409 ?_
    rw [e]
    refine yS_dload qdL_410 rfl ?_
    refine yS_p2 (u := .int (Op.cmpValue (FP.dcmp r2 r2) .l)) qdL_412 rfl rfl (fun _ => rfl) ?_
    obtain ⟨c, hc⟩ : ∃ c, Op.cmpValue (FP.dcmp r2 r2) .l = c := ⟨_, rfl⟩
    rw [hc]
    have H : yR w 20 qmL 438 [(7, .double r2), (6, qI r1), (0, .retAddr 1), (1, .ref 0), (2, .ref 25), (3, .ref 41), (4, .ref 42), (5, qI v5)] [] (hp s3 (xo A1 D1)) (LK K) := by
      refine yS_goto qdL_438 rfl ?_
      exact yS_sub (zsub_c rfl (zsub_c rfl (zsub_c rfl (zsub_c rfl (zsub_c rfl (zsub_c rfl zsub_n)))))) H
    by_cases hz : c = 0
    · subst hz
      exact yS_if qdL_413 rfl H
    · refine yS_if qdL_413 rfl ?_
      rw [show zcnd .eq c 0 438 416 = 416 from if_neg hz]
      refine yS_aload qdL_416 rfl (yS_iconst qdL_418 (yS_daload qdL_419 (yS_aload qdL_420 rfl (yS_iconst qdL_422 (yS_daload qdL_423 ?_)))))
      rw [e]
      refine yS_p2 (u := .int (Op.cmpValue (FP.dcmp r2 r2) .l)) qdL_424 rfl rfl (fun _ => rfl) ?_
      rw [hc]
      refine yS_if qdL_425 rfl ?_
      rw [show zcnd .eq c 0 436 428 = 428 from if_neg hz]
      refine yS_dload qdL_428 rfl (yS_dload qdL_430 rfl ?_)
      refine yS_p2 (u := .int (Op.cmpValue (FP.dcmp r2 r2) .l)) qdL_432 rfl rfl (fun _ => rfl) ?_
      rw [hc]
      refine yS_if qdL_433 rfl ?_
      rw [show zcnd .ne c 0 438 436 = 438 from if_neg hz]
      exact H
  · have H := H2 hc; clear H1 H2
    refine yS_goto qdL_438 rfl ?_
    exact yS_sub (zsub_c rfl (zsub_c rfl (zsub_c rfl (zsub_c rfl (zsub_c rfl (zsub_c rfl zsub_n)))))) H
set_option maxRecDepth 100000 in
theorem kL_441 {w : qE} {s : qS} {A : Nat → Int64} {D : Nat → UInt64} {K : Nat} {v5 : Int} (hL : w.1 ≤ 2048) (h5 : 0 ≤ v5 ∧ v5 + 4 ≤ (w.1 : Int)) (H : hW w 5 198 [.ref 0, qI (scr w (v5 + 1)), qI (scr w (v5 + 2)), .ref 41] s A D (fun r1 s1 A1 D1 => qW (wx w (xo A1 D1)) 3 181 [.ref 25, qI (scr w (v5 + 1)), qI (scr w (v5 + 2))] s1 (qPI (fun r2 s2 => qW (wx w (xo A1 D1)) 1 123 [.ref 25] s2 (qPI (fun r3 s3 => r3 = r1 ∧ Rg r1 ∧ (r1 = 0 → A1 0 = (Int32.ofInt r2).toInt64 ∧ yR w 20 qmL 797 [(0, .retAddr 1), (1, .ref 0), (2, .ref 25), (3, .ref 41), (4, .ref 42), (5, qI v5)] [] (hp s3 (xo A1 D1)) (LK K)) ∧ (r1 ≠ 0 → yR w 20 qmL 797 [(0, .retAddr 1), (1, .ref 0), (2, .ref 25), (3, .ref 41), (4, .ref 42), (5, qI v5)] [] (hp s3 (xo A1 D1)) (LK K))) (fun _ _ => False))) (fun _ _ => False)))) : yR w 20 qmL 441 [(0, .retAddr 1), (1, .ref 0), (2, .ref 25), (3, .ref 41), (4, .ref 42), (5, qI v5)] [] (hp s (xo A D)) (LK (K + 1)) := by
  refine yS_aload_n qdL_441 rfl ?_
  refine yS_oload_n qdL_442 rfl ?_
  refine yS_iload qdL_443 rfl ?_
  refine yS_iconst qdL_445 ?_
  refine yS_iadd (a := v5) (b := 1) qdL_446 ?_
  refine yS_scr qdL_447 (by omega) (by omega) hL ?_
  refine yS_oload_n qdL_448 rfl ?_
  refine yS_iload qdL_449 rfl ?_
  refine yS_iconst qdL_451 ?_
  refine yS_iadd (a := v5) (b := 2) qdL_452 ?_
  refine yS_scr qdL_453 (by omega) (by omega) hL ?_
  refine yS_aload_n qdL_454 rfl ?_
  refine yS_hW qdL_455 (qml_11_87 w) rfl (Nat.le_of_ble_eq_true rfl) (Nat.le_of_ble_eq_true rfl) (H.mono (fun r1 s1 A1 D1 H => ?_))
  refine yS_istore (a := [(0, .retAddr 1), (1, .ref 0), (2, .ref 25), (3, .ref 41), (4, .ref 42), (5, qI v5)]) qdL_458 (Nat.le_of_ble_eq_true rfl) (zsub_c rfl (zsub_c rfl (zsub_c rfl (zsub_c rfl (zsub_c rfl (zsub_c rfl zsub_n)))))) rfl ?_
  refine yS_aload_n qdL_460 rfl ?_
  refine yS_oload_n qdL_461 rfl ?_
  refine yS_iload qdL_462 rfl ?_
  refine yS_iconst qdL_464 ?_
  refine yS_iadd (a := v5) (b := 1) qdL_465 ?_
  refine yS_scr qdL_466 (by omega) (by omega) hL ?_
  refine yS_oload_n qdL_467 rfl ?_
  refine yS_iload qdL_468 rfl ?_
  refine yS_iconst qdL_470 ?_
  refine yS_iadd (a := v5) (b := 2) qdL_471 ?_
  refine yS_scr qdL_472 (by omega) (by omega) hL ?_
  refine yS_vI qdL_473 (qml_11_89 w) rfl qtm_181 (hpc_25 _ _) (Nat.le_of_ble_eq_true rfl) (Nat.le_of_ble_eq_true rfl) H (fun r2 s2 H => ?_) (fun _ _ h => h.elim)
  refine yS_istore (a := [(6, qI r1), (0, .retAddr 1), (1, .ref 0), (2, .ref 25), (3, .ref 41), (4, .ref 42), (5, qI v5)]) qdL_476 (Nat.le_of_ble_eq_true rfl) (zsub_c rfl (zsub_c rfl (zsub_c rfl (zsub_c rfl (zsub_c rfl (zsub_c rfl (zsub_c rfl zsub_n))))))) rfl ?_
  refine yS_aload_n qdL_478 rfl ?_
  refine yS_vI qdL_479 (qml_11_72 w) rfl qtm_123 (hpc_25 _ _) (Nat.le_of_ble_eq_true rfl) (Nat.le_of_ble_eq_true rfl) H (fun r3 s3 H => ?_) (fun _ _ h => h.elim)
  refine yS_iload qdL_482 rfl ?_
  obtain ⟨e, H⟩ := H
  refine yS_same qdL_484 rfl e ?_
  refine yS_iload qdL_489 rfl ?_
  obtain ⟨hg, H1, H2⟩ := H
  refine yS_if0 qdL_491 rfl (zcnd_ne (a := r1) (b := 0) hg ⟨by decide, by decide⟩ (fun t => yR w _ _ t _ _ _ _) (fun hc => ?_) (fun hc => ?_))
  · have H := H1 hc; clear H1 H2
    refine yS_aload_n qdL_494 rfl ?_
    refine yS_iconst qdL_495 ?_
    refine yS_laload qdL_496 ?_
    refine yS_iload qdL_497 rfl ?_
    refine yS_p1 (u := .long ((Int32.ofInt r2).toInt64)) qdL_499 rfl rfl (fun _ => rfl) ?_
    obtain ⟨e, H⟩ := H
    rw [e]
    refine yS_p2 (u := .int (lg_cmp ((Int32.ofInt r2).toInt64) ((Int32.ofInt r2).toInt64))) qdL_500 rfl rfl (fun _ => rfl) ?_
    rw [lg_cmp_0]
    refine yS_if qdL_501 rfl ?_
    show yR w _ _ 506 _ _ _ _
    refine yS_goto qdL_506 rfl ?_
    exact yS_sub (zsub_c rfl (zsub_c rfl (zsub_c rfl (zsub_c rfl (zsub_c rfl (zsub_c rfl zsub_n)))))) H
  · have H := H2 hc; clear H1 H2
    refine yS_goto qdL_506 rfl ?_
    exact yS_sub (zsub_c rfl (zsub_c rfl (zsub_c rfl (zsub_c rfl (zsub_c rfl (zsub_c rfl zsub_n)))))) H
set_option maxRecDepth 100000 in
theorem kL_509 {w : qE} {s : qS} {A : Nat → Int64} {D : Nat → UInt64} {K : Nat} {v5 : Int} (hL : w.1 ≤ 2048) (h5 : 0 ≤ v5 ∧ v5 + 4 ≤ (w.1 : Int)) (H : hW w 11 199 [.ref 0, qI (scr w (v5 + 1)), qI (scr w (v5 + 2)), .ref 41] s A D (fun r1 s1 A1 D1 => qW (wx w (xo A1 D1)) 8 182 [.ref 25, qI (scr w (v5 + 1)), qI (scr w (v5 + 2))] s1 (qPI (fun r2 s2 => qW (wx w (xo A1 D1)) 1 123 [.ref 25] s2 (qPI (fun r3 s3 => r3 = r1 ∧ Rg r1 ∧ (r1 = 0 → A1 0 = (Int32.ofInt r2).toInt64 ∧ yR w 20 qmL 797 [(0, .retAddr 1), (1, .ref 0), (2, .ref 25), (3, .ref 41), (4, .ref 42), (5, qI v5)] [] (hp s3 (xo A1 D1)) (LK K)) ∧ (r1 ≠ 0 → yR w 20 qmL 797 [(0, .retAddr 1), (1, .ref 0), (2, .ref 25), (3, .ref 41), (4, .ref 42), (5, qI v5)] [] (hp s3 (xo A1 D1)) (LK K))) (fun _ _ => False))) (fun _ _ => False)))) : yR w 20 qmL 509 [(0, .retAddr 1), (1, .ref 0), (2, .ref 25), (3, .ref 41), (4, .ref 42), (5, qI v5)] [] (hp s (xo A D)) (LK (K + 1)) := by
  refine yS_aload_n qdL_509 rfl ?_
  refine yS_oload_n qdL_510 rfl ?_
  refine yS_iload qdL_511 rfl ?_
  refine yS_iconst qdL_513 ?_
  refine yS_iadd (a := v5) (b := 1) qdL_514 ?_
  refine yS_scr qdL_515 (by omega) (by omega) hL ?_
  refine yS_oload_n qdL_516 rfl ?_
  refine yS_iload qdL_517 rfl ?_
  refine yS_iconst qdL_519 ?_
  refine yS_iadd (a := v5) (b := 2) qdL_520 ?_
  refine yS_scr qdL_521 (by omega) (by omega) hL ?_
  refine yS_aload_n qdL_522 rfl ?_
  refine yS_hW qdL_523 (qml_11_90 w) rfl (Nat.le_of_ble_eq_true rfl) (Nat.le_of_ble_eq_true rfl) (H.mono (fun r1 s1 A1 D1 H => ?_))
  refine yS_istore (a := [(0, .retAddr 1), (1, .ref 0), (2, .ref 25), (3, .ref 41), (4, .ref 42), (5, qI v5)]) qdL_526 (Nat.le_of_ble_eq_true rfl) (zsub_c rfl (zsub_c rfl (zsub_c rfl (zsub_c rfl (zsub_c rfl (zsub_c rfl zsub_n)))))) rfl ?_
  refine yS_aload_n qdL_528 rfl ?_
  refine yS_oload_n qdL_529 rfl ?_
  refine yS_iload qdL_530 rfl ?_
  refine yS_iconst qdL_532 ?_
  refine yS_iadd (a := v5) (b := 1) qdL_533 ?_
  refine yS_scr qdL_534 (by omega) (by omega) hL ?_
  refine yS_oload_n qdL_535 rfl ?_
  refine yS_iload qdL_536 rfl ?_
  refine yS_iconst qdL_538 ?_
  refine yS_iadd (a := v5) (b := 2) qdL_539 ?_
  refine yS_scr qdL_540 (by omega) (by omega) hL ?_
  refine yS_vI qdL_541 (qml_11_92 w) rfl qtm_182 (hpc_25 _ _) (Nat.le_of_ble_eq_true rfl) (Nat.le_of_ble_eq_true rfl) H (fun r2 s2 H => ?_) (fun _ _ h => h.elim)
  refine yS_istore (a := [(6, qI r1), (0, .retAddr 1), (1, .ref 0), (2, .ref 25), (3, .ref 41), (4, .ref 42), (5, qI v5)]) qdL_544 (Nat.le_of_ble_eq_true rfl) (zsub_c rfl (zsub_c rfl (zsub_c rfl (zsub_c rfl (zsub_c rfl (zsub_c rfl (zsub_c rfl zsub_n))))))) rfl ?_
  refine yS_aload_n qdL_546 rfl ?_
  refine yS_vI qdL_547 (qml_11_72 w) rfl qtm_123 (hpc_25 _ _) (Nat.le_of_ble_eq_true rfl) (Nat.le_of_ble_eq_true rfl) H (fun r3 s3 H => ?_) (fun _ _ h => h.elim)
  refine yS_iload qdL_550 rfl ?_
  obtain ⟨e, H⟩ := H
  refine yS_same qdL_552 rfl e ?_
  refine yS_iload qdL_557 rfl ?_
  obtain ⟨hg, H1, H2⟩ := H
  refine yS_if0 qdL_559 rfl (zcnd_ne (a := r1) (b := 0) hg ⟨by decide, by decide⟩ (fun t => yR w _ _ t _ _ _ _) (fun hc => ?_) (fun hc => ?_))
  · have H := H1 hc; clear H1 H2
    refine yS_aload_n qdL_562 rfl ?_
    refine yS_iconst qdL_563 ?_
    refine yS_laload qdL_564 ?_
    refine yS_iload qdL_565 rfl ?_
    refine yS_p1 (u := .long ((Int32.ofInt r2).toInt64)) qdL_567 rfl rfl (fun _ => rfl) ?_
    obtain ⟨e, H⟩ := H
    rw [e]
    refine yS_p2 (u := .int (lg_cmp ((Int32.ofInt r2).toInt64) ((Int32.ofInt r2).toInt64))) qdL_568 rfl rfl (fun _ => rfl) ?_
    rw [lg_cmp_0]
    refine yS_if qdL_569 rfl ?_
    show yR w _ _ 574 _ _ _ _
    refine yS_goto qdL_574 rfl ?_
    exact yS_sub (zsub_c rfl (zsub_c rfl (zsub_c rfl (zsub_c rfl (zsub_c rfl (zsub_c rfl zsub_n)))))) H
  · have H := H2 hc; clear H1 H2
    refine yS_goto qdL_574 rfl ?_
    exact yS_sub (zsub_c rfl (zsub_c rfl (zsub_c rfl (zsub_c rfl (zsub_c rfl (zsub_c rfl zsub_n)))))) H
set_option maxRecDepth 100000 in
theorem kL_577 {w : qE} {s : qS} {A : Nat → Int64} {D : Nat → UInt64} {K : Nat} {v5 : Int} (hL : w.1 ≤ 2048) (h5 : 0 ≤ v5 ∧ v5 + 4 ≤ (w.1 : Int)) (H : hW w 5 200 [.ref 0, qI (scr w (v5 + 1)), .ref 41] s A D (fun r1 s1 A1 D1 => qW (wx w (xo A1 D1)) 3 191 [.ref 25, qI (scr w (v5 + 1))] s1 (qPI (fun r2 s2 => qW (wx w (xo A1 D1)) 1 123 [.ref 25] s2 (qPI (fun r3 s3 => r3 = r1 ∧ Rg r1 ∧ (r1 = 0 → A1 0 = (Int32.ofInt r2).toInt64 ∧ yR w 20 qmL 797 [(0, .retAddr 1), (1, .ref 0), (2, .ref 25), (3, .ref 41), (4, .ref 42), (5, qI v5)] [] (hp s3 (xo A1 D1)) (LK K)) ∧ (r1 ≠ 0 → yR w 20 qmL 797 [(0, .retAddr 1), (1, .ref 0), (2, .ref 25), (3, .ref 41), (4, .ref 42), (5, qI v5)] [] (hp s3 (xo A1 D1)) (LK K))) (fun _ _ => False))) (fun _ _ => False)))) : yR w 20 qmL 577 [(0, .retAddr 1), (1, .ref 0), (2, .ref 25), (3, .ref 41), (4, .ref 42), (5, qI v5)] [] (hp s (xo A D)) (LK (K + 1)) := by
  refine yS_aload_n qdL_577 rfl ?_
  refine yS_oload_n qdL_578 rfl ?_
  refine yS_iload qdL_579 rfl ?_
  refine yS_iconst qdL_581 ?_
  refine yS_iadd (a := v5) (b := 1) qdL_582 ?_
  refine yS_scr qdL_583 (by omega) (by omega) hL ?_
  refine yS_aload_n qdL_584 rfl ?_
  refine yS_hW qdL_585 (qml_11_93 w) rfl (Nat.le_of_ble_eq_true rfl) (Nat.le_of_ble_eq_true rfl) (H.mono (fun r1 s1 A1 D1 H => ?_))
  refine yS_istore (a := [(0, .retAddr 1), (1, .ref 0), (2, .ref 25), (3, .ref 41), (4, .ref 42), (5, qI v5)]) qdL_588 (Nat.le_of_ble_eq_true rfl) (zsub_c rfl (zsub_c rfl (zsub_c rfl (zsub_c rfl (zsub_c rfl (zsub_c rfl zsub_n)))))) rfl ?_
  refine yS_aload_n qdL_590 rfl ?_
  refine yS_oload_n qdL_591 rfl ?_
  refine yS_iload qdL_592 rfl ?_
  refine yS_iconst qdL_594 ?_
  refine yS_iadd (a := v5) (b := 1) qdL_595 ?_
  refine yS_scr qdL_596 (by omega) (by omega) hL ?_
  refine yS_vI qdL_597 (qml_11_96 w) rfl qtm_191 (hpc_25 _ _) (Nat.le_of_ble_eq_true rfl) (Nat.le_of_ble_eq_true rfl) H (fun r2 s2 H => ?_) (fun _ _ h => h.elim)
  refine yS_istore (a := [(6, qI r1), (0, .retAddr 1), (1, .ref 0), (2, .ref 25), (3, .ref 41), (4, .ref 42), (5, qI v5)]) qdL_600 (Nat.le_of_ble_eq_true rfl) (zsub_c rfl (zsub_c rfl (zsub_c rfl (zsub_c rfl (zsub_c rfl (zsub_c rfl (zsub_c rfl zsub_n))))))) rfl ?_
  refine yS_aload_n qdL_602 rfl ?_
  refine yS_vI qdL_603 (qml_11_72 w) rfl qtm_123 (hpc_25 _ _) (Nat.le_of_ble_eq_true rfl) (Nat.le_of_ble_eq_true rfl) H (fun r3 s3 H => ?_) (fun _ _ h => h.elim)
  refine yS_iload qdL_606 rfl ?_
  obtain ⟨e, H⟩ := H
  refine yS_same qdL_608 rfl e ?_
  refine yS_iload qdL_613 rfl ?_
  obtain ⟨hg, H1, H2⟩ := H
  refine yS_if0 qdL_615 rfl (zcnd_ne (a := r1) (b := 0) hg ⟨by decide, by decide⟩ (fun t => yR w _ _ t _ _ _ _) (fun hc => ?_) (fun hc => ?_))
  · have H := H1 hc; clear H1 H2
    refine yS_aload_n qdL_618 rfl ?_
    refine yS_iconst qdL_619 ?_
    refine yS_laload qdL_620 ?_
    refine yS_iload qdL_621 rfl ?_
    refine yS_p1 (u := .long ((Int32.ofInt r2).toInt64)) qdL_623 rfl rfl (fun _ => rfl) ?_
    obtain ⟨e, H⟩ := H
    rw [e]
    refine yS_p2 (u := .int (lg_cmp ((Int32.ofInt r2).toInt64) ((Int32.ofInt r2).toInt64))) qdL_624 rfl rfl (fun _ => rfl) ?_
    rw [lg_cmp_0]
    refine yS_if qdL_625 rfl ?_
    show yR w _ _ 630 _ _ _ _
    refine yS_goto qdL_630 rfl ?_
    exact yS_sub (zsub_c rfl (zsub_c rfl (zsub_c rfl (zsub_c rfl (zsub_c rfl (zsub_c rfl zsub_n)))))) H
  · have H := H2 hc; clear H1 H2
    refine yS_goto qdL_630 rfl ?_
    exact yS_sub (zsub_c rfl (zsub_c rfl (zsub_c rfl (zsub_c rfl (zsub_c rfl (zsub_c rfl zsub_n)))))) H
set_option maxRecDepth 100000 in
theorem kL_633 {w : qE} {s : qS} {A : Nat → Int64} {D : Nat → UInt64} {K : Nat} {v5 : Int} (hL : w.1 ≤ 2048) (h5 : 0 ≤ v5 ∧ v5 + 4 ≤ (w.1 : Int)) (H : Rg (scr w (v5 + 1)) ∧ (scr w (v5 + 1) = 0 → yR w 20 qmL 648 [(0, .retAddr 1), (1, .ref 0), (2, .ref 25), (3, .ref 41), (4, .ref 42), (5, qI v5)] [qI 0, .ref 0] (hp s (xo A D)) (LK (K + 1))) ∧ (scr w (v5 + 1) ≠ 0 → yR w 20 qmL 648 [(0, .retAddr 1), (1, .ref 0), (2, .ref 25), (3, .ref 41), (4, .ref 42), (5, qI v5)] [qI 1, .ref 0] (hp s (xo A D)) (LK (K + 1)))) : yR w 20 qmL 633 [(0, .retAddr 1), (1, .ref 0), (2, .ref 25), (3, .ref 41), (4, .ref 42), (5, qI v5)] [] (hp s (xo A D)) (LK (K + 1)) := by
  refine yS_aload_n qdL_633 rfl ?_
  refine yS_oload_n qdL_634 rfl ?_
  refine yS_iload qdL_635 rfl ?_
  refine yS_iconst qdL_637 ?_
  refine yS_iadd (a := v5) (b := 1) qdL_638 ?_
  refine yS_scr qdL_639 (by omega) (by omega) hL ?_
  obtain ⟨hg, H1, H2⟩ := H
  refine yS_if0 qdL_640 rfl (zcnd_eq (a := scr w (v5 + 1)) (b := 0) hg ⟨by decide, by decide⟩ (fun t => yR w _ _ t _ _ _ _) (fun hc => ?_) (fun hc => ?_))
  · have H := H1 hc; clear H1 H2
    refine yS_iconst qdL_647 ?_
    exact yS_sub (zsub_c rfl (zsub_c rfl (zsub_c rfl (zsub_c rfl (zsub_c rfl (zsub_c rfl zsub_n)))))) H
  · have H := H2 hc; clear H1 H2
    refine yS_iconst qdL_643 ?_
    refine yS_goto qdL_644 rfl ?_
    exact yS_sub (zsub_c rfl (zsub_c rfl (zsub_c rfl (zsub_c rfl (zsub_c rfl (zsub_c rfl zsub_n)))))) H
set_option maxRecDepth 100000 in
theorem kL_729 {w : qE} {s : qS} {A : Nat → Int64} {D : Nat → UInt64} {K : Nat} {v5 : Int} (hL : w.1 ≤ 2048) (h5 : 0 ≤ v5 ∧ v5 + 4 ≤ (w.1 : Int)) (H : hW w 4 202 [.ref 0, qI (scr w (v5 + 1)), qI (scr w (v5 + 2)), .ref 41] s A D (fun r1 s1 A1 D1 => qW (wx w (xo A1 D1)) 2 194 [.ref 25, qI (scr w (v5 + 1)), qI (scr w (v5 + 2))] s1 (qPI (fun r2 s2 => qW (wx w (xo A1 D1)) 1 123 [.ref 25] s2 (qPI (fun r3 s3 => r3 = r1 ∧ Rg r1 ∧ (r1 = 0 → A1 0 = (Int32.ofInt r2).toInt64 ∧ yR w 20 qmL 797 [(0, .retAddr 1), (1, .ref 0), (2, .ref 25), (3, .ref 41), (4, .ref 42), (5, qI v5)] [] (hp s3 (xo A1 D1)) (LK K)) ∧ (r1 ≠ 0 → yR w 20 qmL 797 [(0, .retAddr 1), (1, .ref 0), (2, .ref 25), (3, .ref 41), (4, .ref 42), (5, qI v5)] [] (hp s3 (xo A1 D1)) (LK K))) (fun _ _ => False))) (fun _ _ => False)))) : yR w 20 qmL 729 [(0, .retAddr 1), (1, .ref 0), (2, .ref 25), (3, .ref 41), (4, .ref 42), (5, qI v5)] [] (hp s (xo A D)) (LK (K + 1)) := by
  refine yS_aload_n qdL_729 rfl ?_
  refine yS_oload_n qdL_730 rfl ?_
  refine yS_iload qdL_731 rfl ?_
  refine yS_iconst qdL_733 ?_
  refine yS_iadd (a := v5) (b := 1) qdL_734 ?_
  refine yS_scr qdL_735 (by omega) (by omega) hL ?_
  refine yS_oload_n qdL_736 rfl ?_
  refine yS_iload qdL_737 rfl ?_
  refine yS_iconst qdL_739 ?_
  refine yS_iadd (a := v5) (b := 2) qdL_740 ?_
  refine yS_scr qdL_741 (by omega) (by omega) hL ?_
  refine yS_aload_n qdL_742 rfl ?_
  refine yS_hW qdL_743 (qml_11_101 w) rfl (Nat.le_of_ble_eq_true rfl) (Nat.le_of_ble_eq_true rfl) (H.mono (fun r1 s1 A1 D1 H => ?_))
  refine yS_istore (a := [(0, .retAddr 1), (1, .ref 0), (2, .ref 25), (3, .ref 41), (4, .ref 42), (5, qI v5)]) qdL_746 (Nat.le_of_ble_eq_true rfl) (zsub_c rfl (zsub_c rfl (zsub_c rfl (zsub_c rfl (zsub_c rfl (zsub_c rfl zsub_n)))))) rfl ?_
  refine yS_aload_n qdL_748 rfl ?_
  refine yS_oload_n qdL_749 rfl ?_
  refine yS_iload qdL_750 rfl ?_
  refine yS_iconst qdL_752 ?_
  refine yS_iadd (a := v5) (b := 1) qdL_753 ?_
  refine yS_scr qdL_754 (by omega) (by omega) hL ?_
  refine yS_oload_n qdL_755 rfl ?_
  refine yS_iload qdL_756 rfl ?_
  refine yS_iconst qdL_758 ?_
  refine yS_iadd (a := v5) (b := 2) qdL_759 ?_
  refine yS_scr qdL_760 (by omega) (by omega) hL ?_
  refine yS_vI qdL_761 (qml_11_103 w) rfl qtm_194 (hpc_25 _ _) (Nat.le_of_ble_eq_true rfl) (Nat.le_of_ble_eq_true rfl) H (fun r2 s2 H => ?_) (fun _ _ h => h.elim)
  refine yS_istore (a := [(6, qI r1), (0, .retAddr 1), (1, .ref 0), (2, .ref 25), (3, .ref 41), (4, .ref 42), (5, qI v5)]) qdL_764 (Nat.le_of_ble_eq_true rfl) (zsub_c rfl (zsub_c rfl (zsub_c rfl (zsub_c rfl (zsub_c rfl (zsub_c rfl (zsub_c rfl zsub_n))))))) rfl ?_
  refine yS_aload_n qdL_766 rfl ?_
  refine yS_vI qdL_767 (qml_11_72 w) rfl qtm_123 (hpc_25 _ _) (Nat.le_of_ble_eq_true rfl) (Nat.le_of_ble_eq_true rfl) H (fun r3 s3 H => ?_) (fun _ _ h => h.elim)
  refine yS_iload qdL_770 rfl ?_
  obtain ⟨e, H⟩ := H
  refine yS_same qdL_772 rfl e ?_
  refine yS_iload qdL_777 rfl ?_
  obtain ⟨hg, H1, H2⟩ := H
  refine yS_if0 qdL_779 rfl (zcnd_ne (a := r1) (b := 0) hg ⟨by decide, by decide⟩ (fun t => yR w _ _ t _ _ _ _) (fun hc => ?_) (fun hc => ?_))
  · have H := H1 hc; clear H1 H2
    refine yS_aload_n qdL_782 rfl ?_
    refine yS_iconst qdL_783 ?_
    refine yS_laload qdL_784 ?_
    refine yS_iload qdL_785 rfl ?_
    refine yS_p1 (u := .long ((Int32.ofInt r2).toInt64)) qdL_787 rfl rfl (fun _ => rfl) ?_
    obtain ⟨e, H⟩ := H
    rw [e]
    refine yS_p2 (u := .int (lg_cmp ((Int32.ofInt r2).toInt64) ((Int32.ofInt r2).toInt64))) qdL_788 rfl rfl (fun _ => rfl) ?_
    rw [lg_cmp_0]
    refine yS_if qdL_789 rfl ?_
    show yR w _ _ 794 _ _ _ _
    refine yS_goto qdL_794 rfl ?_
    exact yS_sub (zsub_c rfl (zsub_c rfl (zsub_c rfl (zsub_c rfl (zsub_c rfl (zsub_c rfl zsub_n)))))) H
  · have H := H2 hc; clear H1 H2
    refine yS_goto qdL_794 rfl ?_
    exact yS_sub (zsub_c rfl (zsub_c rfl (zsub_c rfl (zsub_c rfl (zsub_c rfl (zsub_c rfl zsub_n)))))) H
set_option maxRecDepth 100000 in
theorem kL_797 {w : qE} {s : qS} {A : Nat → Int64} {D : Nat → UInt64} {K : Nat} {v5 : Int} (hL : w.1 ≤ 2048) (h5 : 0 ≤ v5 ∧ v5 + 4 ≤ (w.1 : Int)) (H : yR w 20 qmL 28 [(0, .retAddr 1), (1, .ref 0), (2, .ref 25), (3, .ref 41), (4, .ref 42), (5, qI (v5 + 4))] [] (hp s (xo A D)) (LK K)) : yR w 20 qmL 797 [(0, .retAddr 1), (1, .ref 0), (2, .ref 25), (3, .ref 41), (4, .ref 42), (5, qI v5)] [] (hp s (xo A D)) (LK K) := by
  refine yS_iinc (v := v5) (a := [(0, .retAddr 1), (1, .ref 0), (2, .ref 25), (3, .ref 41), (4, .ref 42)]) qdL_797 (Nat.le_of_ble_eq_true rfl) rfl (zsub_c rfl (zsub_c rfl (zsub_c rfl (zsub_c rfl (zsub_c rfl zsub_n))))) rfl ?_
  refine yS_goto qdL_800 rfl ?_
  exact yS_sub (zsub_c rfl (zsub_c rfl (zsub_c rfl (zsub_c rfl (zsub_c rfl (zsub_c rfl zsub_n)))))) H
set_option maxRecDepth 100000 in
theorem kL_648 {w : qE} {s : qS} {A : Nat → Int64} {D : Nat → UInt64} {K : Nat} {v5 : Int} {k1 : Int} (hL : w.1 ≤ 2048) (h5 : 0 ≤ v5 ∧ v5 + 4 ≤ (w.1 : Int)) (H : hW w 3 201 [.ref 0, qI k1, qI (scr w (v5 + 2)), qI (scr w (v5 + 3)), .ref 41] s A D (fun r1 s1 A1 D1 => Rg (scr w (v5 + 1)) ∧ (scr w (v5 + 1) = 0 → yR w 20 qmL 681 [(0, .retAddr 1), (1, .ref 0), (2, .ref 25), (3, .ref 41), (4, .ref 42), (5, qI v5), (6, qI r1)] [qI 0, .ref 25] (hp s1 (xo A1 D1)) (LK K)) ∧ (scr w (v5 + 1) ≠ 0 → yR w 20 qmL 681 [(0, .retAddr 1), (1, .ref 0), (2, .ref 25), (3, .ref 41), (4, .ref 42), (5, qI v5), (6, qI r1)] [qI 1, .ref 25] (hp s1 (xo A1 D1)) (LK K)))) : yR w 20 qmL 648 [(0, .retAddr 1), (1, .ref 0), (2, .ref 25), (3, .ref 41), (4, .ref 42), (5, qI v5)] [qI k1, .ref 0] (hp s (xo A D)) (LK (K + 1)) := by
  refine yS_oload_n qdL_648 rfl ?_
  refine yS_iload qdL_649 rfl ?_
  refine yS_iconst qdL_651 ?_
  refine yS_iadd (a := v5) (b := 2) qdL_652 ?_
  refine yS_scr qdL_653 (by omega) (by omega) hL ?_
  refine yS_oload_n qdL_654 rfl ?_
  refine yS_iload qdL_655 rfl ?_
  refine yS_iconst qdL_657 ?_
  refine yS_iadd (a := v5) (b := 3) qdL_658 ?_
  refine yS_scr qdL_659 (by omega) (by omega) hL ?_
  refine yS_aload_n qdL_660 rfl ?_
  refine yS_hW qdL_661 (qml_11_97 w) rfl (Nat.le_of_ble_eq_true rfl) (Nat.le_of_ble_eq_true rfl) (H.mono (fun r1 s1 A1 D1 H => ?_))
  refine yS_istore (a := [(0, .retAddr 1), (1, .ref 0), (2, .ref 25), (3, .ref 41), (4, .ref 42), (5, qI v5)]) qdL_664 (Nat.le_of_ble_eq_true rfl) (zsub_c rfl (zsub_c rfl (zsub_c rfl (zsub_c rfl (zsub_c rfl (zsub_c rfl zsub_n)))))) rfl ?_
  refine yS_aload_n qdL_666 rfl ?_
  refine yS_oload_n qdL_667 rfl ?_
  refine yS_iload qdL_668 rfl ?_
  refine yS_iconst qdL_670 ?_
  refine yS_iadd (a := v5) (b := 1) qdL_671 ?_
  refine yS_scr qdL_672 (by omega) (by omega) hL ?_
  obtain ⟨hg, H1, H2⟩ := H
  refine yS_if0 qdL_673 rfl (zcnd_eq (a := scr w (v5 + 1)) (b := 0) hg ⟨by decide, by decide⟩ (fun t => yR w _ _ t _ _ _ _) (fun hc => ?_) (fun hc => ?_))
  · have H := H1 hc; clear H1 H2
    refine yS_iconst qdL_680 ?_
    exact yS_sub (zsub_c rfl (zsub_c rfl (zsub_c rfl (zsub_c rfl (zsub_c rfl (zsub_c rfl (zsub_c rfl zsub_n))))))) H
  · have H := H2 hc; clear H1 H2
    refine yS_iconst qdL_676 ?_
    refine yS_goto qdL_677 rfl ?_
    exact yS_sub (zsub_c rfl (zsub_c rfl (zsub_c rfl (zsub_c rfl (zsub_c rfl (zsub_c rfl (zsub_c rfl zsub_n))))))) H
set_option maxRecDepth 100000 in
theorem kL_681 {w : qE} {s : qS} {A : Nat → Int64} {D : Nat → UInt64} {K : Nat} {v5 : Int} {v6 : Int} {k1 : Int} (hL : w.1 ≤ 2048) (h5 : 0 ≤ v5 ∧ v5 + 4 ≤ (w.1 : Int)) (H : qW (wx w (xo A D)) 7 192 [.ref 25, qI k1, qI (scr w (v5 + 2)), qI (scr w (v5 + 3))] s (qPI (fun r1 s1 => qW (wx w (xo A D)) 1 123 [.ref 25] s1 (qPI (fun r2 s2 => r2 = v6 ∧ Rg v6 ∧ (v6 = 0 → A 0 = (Int32.ofInt r1).toInt64 ∧ yR w 20 qmL 797 [(0, .retAddr 1), (1, .ref 0), (2, .ref 25), (3, .ref 41), (4, .ref 42), (5, qI v5)] [] (hp s2 (xo A D)) (LK K)) ∧ (v6 ≠ 0 → yR w 20 qmL 797 [(0, .retAddr 1), (1, .ref 0), (2, .ref 25), (3, .ref 41), (4, .ref 42), (5, qI v5)] [] (hp s2 (xo A D)) (LK K))) (fun _ _ => False))) (fun _ _ => False))) : yR w 20 qmL 681 [(0, .retAddr 1), (1, .ref 0), (2, .ref 25), (3, .ref 41), (4, .ref 42), (5, qI v5), (6, qI v6)] [qI k1, .ref 25] (hp s (xo A D)) (LK K) := by
  refine yS_oload_n qdL_681 rfl ?_
  refine yS_iload qdL_682 rfl ?_
  refine yS_iconst qdL_684 ?_
  refine yS_iadd (a := v5) (b := 2) qdL_685 ?_
  refine yS_scr qdL_686 (by omega) (by omega) hL ?_
  refine yS_oload_n qdL_687 rfl ?_
  refine yS_iload qdL_688 rfl ?_
  refine yS_iconst qdL_690 ?_
  refine yS_iadd (a := v5) (b := 3) qdL_691 ?_
  refine yS_scr qdL_692 (by omega) (by omega) hL ?_
  refine yS_vI qdL_693 (qml_11_100 w) rfl qtm_192 (hpc_25 _ _) (Nat.le_of_ble_eq_true rfl) (Nat.le_of_ble_eq_true rfl) H (fun r1 s1 H => ?_) (fun _ _ h => h.elim)
  refine yS_istore (a := [(0, .retAddr 1), (1, .ref 0), (2, .ref 25), (3, .ref 41), (4, .ref 42), (5, qI v5), (6, qI v6)]) qdL_696 (Nat.le_of_ble_eq_true rfl) (zsub_c rfl (zsub_c rfl (zsub_c rfl (zsub_c rfl (zsub_c rfl (zsub_c rfl (zsub_c rfl zsub_n))))))) rfl ?_
  refine yS_aload_n qdL_698 rfl ?_
  refine yS_vI qdL_699 (qml_11_72 w) rfl qtm_123 (hpc_25 _ _) (Nat.le_of_ble_eq_true rfl) (Nat.le_of_ble_eq_true rfl) H (fun r2 s2 H => ?_) (fun _ _ h => h.elim)
  refine yS_iload qdL_702 rfl ?_
  obtain ⟨e, H⟩ := H
  refine yS_same qdL_704 rfl e ?_
  refine yS_iload qdL_709 rfl ?_
  obtain ⟨hg, H1, H2⟩ := H
  refine yS_if0 qdL_711 rfl (zcnd_ne (a := v6) (b := 0) hg ⟨by decide, by decide⟩ (fun t => yR w _ _ t _ _ _ _) (fun hc => ?_) (fun hc => ?_))
  · have H := H1 hc; clear H1 H2
    refine yS_aload_n qdL_714 rfl ?_
    refine yS_iconst qdL_715 ?_
    refine yS_laload qdL_716 ?_
    refine yS_iload qdL_717 rfl ?_
    refine yS_p1 (u := .long ((Int32.ofInt r1).toInt64)) qdL_719 rfl rfl (fun _ => rfl) ?_
    obtain ⟨e, H⟩ := H
    rw [e]
    refine yS_p2 (u := .int (lg_cmp ((Int32.ofInt r1).toInt64) ((Int32.ofInt r1).toInt64))) qdL_720 rfl rfl (fun _ => rfl) ?_
    rw [lg_cmp_0]
    refine yS_if qdL_721 rfl ?_
    show yR w _ _ 726 _ _ _ _
    refine yS_goto qdL_726 rfl ?_
    exact yS_sub (zsub_c rfl (zsub_c rfl (zsub_c rfl (zsub_c rfl (zsub_c rfl (zsub_c rfl zsub_n)))))) H
  · have H := H2 hc; clear H1 H2
    refine yS_goto qdL_726 rfl ?_
    exact yS_sub (zsub_c rfl (zsub_c rfl (zsub_c rfl (zsub_c rfl (zsub_c rfl (zsub_c rfl zsub_n)))))) H
