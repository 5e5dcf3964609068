theorem dX7_init_0 : decode cX7_init 0 = .ok (.aload_n 0, 1) := by decide +kernel
theorem dX7_init_1 : decode cX7_init 1 = .ok (.invokespecial 1, 3) := by decide +kernel
theorem dX7_init_4 : decode cX7_init 4 = .ok (.aload_n 0, 1) := by decide +kernel
theorem dX7_init_5 : decode cX7_init 5 = .ok (.bipush 121, 2) := by decide +kernel
theorem dX7_init_7 : decode cX7_init 7 = .ok (.newarray .int, 2) := by decide +kernel
theorem dX7_init_9 : decode cX7_init 9 = .ok (.putfield 7, 3) := by decide +kernel
theorem dX7_init_12 : decode cX7_init 12 = .ok (.aload_n 0, 1) := by decide +kernel
theorem dX7_init_13 : decode cX7_init 13 = .ok (.bipush 121, 2) := by decide +kernel
theorem dX7_init_15 : decode cX7_init 15 = .ok (.newarray .int, 2) := by decide +kernel
theorem dX7_init_17 : decode cX7_init 17 = .ok (.putfield 13, 3) := by decide +kernel
theorem dX7_init_20 : decode cX7_init 20 = .ok (.aload_n 0, 1) := by decide +kernel
theorem dX7_init_21 : decode cX7_init 21 = .ok (.bipush 121, 2) := by decide +kernel
theorem dX7_init_23 : decode cX7_init 23 = .ok (.newarray .int, 2) := by decide +kernel
theorem dX7_init_25 : decode cX7_init 25 = .ok (.putfield 16, 3) := by decide +kernel
theorem dX7_init_28 : decode cX7_init 28 = .ok (.aload_n 0, 1) := by decide +kernel
theorem dX7_init_29 : decode cX7_init 29 = .ok (.sipush 726, 3) := by decide +kernel
theorem dX7_init_32 : decode cX7_init 32 = .ok (.newarray .int, 2) := by decide +kernel
theorem dX7_init_34 : decode cX7_init 34 = .ok (.putfield 19, 3) := by decide +kernel
theorem dX7_init_37 : decode cX7_init 37 = .ok (.aload_n 0, 1) := by decide +kernel
theorem dX7_init_38 : decode cX7_init 38 = .ok (.sipush 14641, 3) := by decide +kernel
theorem dX7_init_41 : decode cX7_init 41 = .ok (.newarray .int, 2) := by decide +kernel
theorem dX7_init_43 : decode cX7_init 43 = .ok (.putfield 22, 3) := by decide +kernel
theorem dX7_init_46 : decode cX7_init 46 = .ok (.aload_n 0, 1) := by decide +kernel
theorem dX7_init_47 : decode cX7_init 47 = .ok (.bipush 60, 2) := by decide +kernel
theorem dX7_init_49 : decode cX7_init 49 = .ok (.newarray .int, 2) := by decide +kernel
theorem dX7_init_51 : decode cX7_init 51 = .ok (.putfield 25, 3) := by decide +kernel
theorem dX7_init_54 : decode cX7_init 54 = .ok (.aload_n 0, 1) := by decide +kernel
theorem dX7_init_55 : decode cX7_init 55 = .ok (.bipush 10, 2) := by decide +kernel
theorem dX7_init_57 : decode cX7_init 57 = .ok (.putfield 28, 3) := by decide +kernel
theorem dX7_init_60 : decode cX7_init 60 = .ok (.aload_n 0, 1) := by decide +kernel
theorem dX7_init_61 : decode cX7_init 61 = .ok (.bipush 121, 2) := by decide +kernel
theorem dX7_init_63 : decode cX7_init 63 = .ok (.newarray .int, 2) := by decide +kernel
theorem dX7_init_65 : decode cX7_init 65 = .ok (.putfield 32, 3) := by decide +kernel
theorem dX7_init_68 : decode cX7_init 68 = .ok (.aload_n 0, 1) := by decide +kernel
theorem dX7_init_69 : decode cX7_init 69 = .ok (.bipush 6, 2) := by decide +kernel
theorem dX7_init_71 : decode cX7_init 71 = .ok (.newarray .int, 2) := by decide +kernel
theorem dX7_init_73 : decode cX7_init 73 = .ok (.putfield 35, 3) := by decide +kernel
theorem dX7_init_76 : decode cX7_init 76 = .ok (.aload_n 0, 1) := by decide +kernel
theorem dX7_init_77 : decode cX7_init 77 = .ok (.bipush 6, 2) := by decide +kernel
theorem dX7_init_79 : decode cX7_init 79 = .ok (.newarray .int, 2) := by decide +kernel
theorem dX7_init_81 : decode cX7_init 81 = .ok (.putfield 38, 3) := by decide +kernel
theorem dX7_init_84 : decode cX7_init 84 = .ok (.aload_n 0, 1) := by decide +kernel
theorem dX7_init_85 : decode cX7_init 85 = .ok (.sipush 300, 3) := by decide +kernel
theorem dX7_init_88 : decode cX7_init 88 = .ok (.newarray .int, 2) := by decide +kernel
theorem dX7_init_90 : decode cX7_init 90 = .ok (.putfield 41, 3) := by decide +kernel
theorem dX7_init_93 : decode cX7_init 93 = .ok (.aload_n 0, 1) := by decide +kernel
theorem dX7_init_94 : decode cX7_init 94 = .ok (.sipush 300, 3) := by decide +kernel
theorem dX7_init_97 : decode cX7_init 97 = .ok (.newarray .int, 2) := by decide +kernel
theorem dX7_init_99 : decode cX7_init 99 = .ok (.putfield 44, 3) := by decide +kernel
theorem dX7_init_102 : decode cX7_init 102 = .ok (.aload_n 0, 1) := by decide +kernel
theorem dX7_init_103 : decode cX7_init 103 = .ok (.sipush 300, 3) := by decide +kernel
theorem dX7_init_106 : decode cX7_init 106 = .ok (.newarray .int, 2) := by decide +kernel
theorem dX7_init_108 : decode cX7_init 108 = .ok (.putfield 47, 3) := by decide +kernel
theorem dX7_init_111 : decode cX7_init 111 = .ok (.aload_n 0, 1) := by decide +kernel
theorem dX7_init_112 : decode cX7_init 112 = .ok (.sipush 300, 3) := by decide +kernel
theorem dX7_init_115 : decode cX7_init 115 = .ok (.newarray .int, 2) := by decide +kernel
theorem dX7_init_117 : decode cX7_init 117 = .ok (.putfield 50, 3) := by decide +kernel
theorem dX7_init_120 : decode cX7_init 120 = .ok (.aload_n 0, 1) := by decide +kernel
theorem dX7_init_121 : decode cX7_init 121 = .ok (.sipush 300, 3) := by decide +kernel
theorem dX7_init_124 : decode cX7_init 124 = .ok (.newarray .int, 2) := by decide +kernel
theorem dX7_init_126 : decode cX7_init 126 = .ok (.putfield 53, 3) := by decide +kernel
theorem dX7_init_129 : decode cX7_init 129 = .ok (.aload_n 0, 1) := by decide +kernel
theorem dX7_init_130 : decode cX7_init 130 = .ok (.bipush 121, 2) := by decide +kernel
theorem dX7_init_132 : decode cX7_init 132 = .ok (.newarray .int, 2) := by decide +kernel
theorem dX7_init_134 : decode cX7_init 134 = .ok (.putfield 56, 3) := by decide +kernel
theorem dX7_init_137 : decode cX7_init 137 = .ok (.aload_n 0, 1) := by decide +kernel
theorem dX7_init_138 : decode cX7_init 138 = .ok (.bipush 121, 2) := by decide +kernel
theorem dX7_init_140 : decode cX7_init 140 = .ok (.newarray .int, 2) := by decide +kernel
theorem dX7_init_142 : decode cX7_init 142 = .ok (.putfield 59, 3) := by decide +kernel
theorem dX7_init_145 : decode cX7_init 145 = .ok (.aload_n 0, 1) := by decide +kernel
theorem dX7_init_146 : decode cX7_init 146 = .ok (.bipush 121, 2) := by decide +kernel
theorem dX7_init_148 : decode cX7_init 148 = .ok (.newarray .boolean, 2) := by decide +kernel
theorem dX7_init_150 : decode cX7_init 150 = .ok (.putfield 62, 3) := by decide +kernel
theorem dX7_init_153 : decode cX7_init 153 = .ok (.aload_n 0, 1) := by decide +kernel
theorem dX7_init_154 : decode cX7_init 154 = .ok (.sipush 1024, 3) := by decide +kernel
theorem dX7_init_157 : decode cX7_init 157 = .ok (.newarray .int, 2) := by decide +kernel
theorem dX7_init_159 : decode cX7_init 159 = .ok (.putfield 66, 3) := by decide +kernel
theorem dX7_init_162 : decode cX7_init 162 = .ok (.aload_n 0, 1) := by decide +kernel
theorem dX7_init_163 : decode cX7_init 163 = .ok (.bipush 10, 2) := by decide +kernel
theorem dX7_init_165 : decode cX7_init 165 = .ok (.newarray .int, 2) := by decide +kernel
theorem dX7_init_167 : decode cX7_init 167 = .ok (.putfield 69, 3) := by decide +kernel
theorem dX7_init_170 : decode cX7_init 170 = .ok (.iconst 0, 1) := by decide +kernel
theorem dX7_init_171 : decode cX7_init 171 = .ok (.istore_n 1, 1) := by decide +kernel
theorem dX7_init_172 : decode cX7_init 172 = .ok (.iconst 0, 1) := by decide +kernel
theorem dX7_init_173 : decode cX7_init 173 = .ok (.istore_n 2, 1) := by decide +kernel
theorem dX7_init_174 : decode cX7_init 174 = .ok (.iload_n 2, 1) := by decide +kernel
theorem dX7_init_175 : decode cX7_init 175 = .ok (.bipush 17, 2) := by decide +kernel
theorem dX7_init_177 : decode cX7_init 177 = .ok (.if_icmp .ge 98, 3) := by decide +kernel
theorem dX7_init_180 : decode cX7_init 180 = .ok (.iload_n 2, 1) := by decide +kernel
theorem dX7_init_181 : decode cX7_init 181 = .ok (.bipush 9, 2) := by decide +kernel
theorem dX7_init_183 : decode cX7_init 183 = .ok (.if_icmp .ge 7, 3) := by decide +kernel
theorem dX7_init_186 : decode cX7_init 186 = .ok (.iload_n 2, 1) := by decide +kernel
theorem dX7_init_187 : decode cX7_init 187 = .ok (.goto 7, 3) := by decide +kernel
theorem dX7_init_190 : decode cX7_init 190 = .ok (.bipush 16, 2) := by decide +kernel
theorem dX7_init_192 : decode cX7_init 192 = .ok (.iload_n 2, 1) := by decide +kernel
theorem dX7_init_193 : decode cX7_init 193 = .ok (.isub, 1) := by decide +kernel
theorem dX7_init_194 : decode cX7_init 194 = .ok (.istore_n 3, 1) := by decide +kernel
theorem dX7_init_195 : decode cX7_init 195 = .ok (.iload_n 3, 1) := by decide +kernel
theorem dX7_init_196 : decode cX7_init 196 = .ok (.iconst 4, 1) := by decide +kernel
theorem dX7_init_197 : decode cX7_init 197 = .ok (.if_icmp .ge 10, 3) := by decide +kernel
theorem dX7_init_200 : decode cX7_init 200 = .ok (.bipush 12, 2) := by decide +kernel
theorem dX7_init_202 : decode cX7_init 202 = .ok (.iload_n 3, 1) := by decide +kernel
theorem dX7_init_203 : decode cX7_init 203 = .ok (.isub, 1) := by decide +kernel
theorem dX7_init_204 : decode cX7_init 204 = .ok (.goto 6, 3) := by decide +kernel
theorem dX7_init_207 : decode cX7_init 207 = .ok (.iload_n 3, 1) := by decide +kernel
theorem dX7_init_208 : decode cX7_init 208 = .ok (.iconst 4, 1) := by decide +kernel
theorem dX7_init_209 : decode cX7_init 209 = .ok (.isub, 1) := by decide +kernel
theorem dX7_init_210 : decode cX7_init 210 = .ok (.istore 4, 2) := by decide +kernel
theorem dX7_init_212 : decode cX7_init 212 = .ok (.iload 4, 2) := by decide +kernel
theorem dX7_init_214 : decode cX7_init 214 = .ok (.iload_n 3, 1) := by decide +kernel
theorem dX7_init_215 : decode cX7_init 215 = .ok (.iconst 4, 1) := by decide +kernel
theorem dX7_init_216 : decode cX7_init 216 = .ok (.if_icmp .ge 10, 3) := by decide +kernel
theorem dX7_init_219 : decode cX7_init 219 = .ok (.bipush 12, 2) := by decide +kernel
theorem dX7_init_221 : decode cX7_init 221 = .ok (.iload_n 3, 1) := by decide +kernel
theorem dX7_init_222 : decode cX7_init 222 = .ok (.iadd, 1) := by decide +kernel
theorem dX7_init_223 : decode cX7_init 223 = .ok (.goto 7, 3) := by decide +kernel
theorem dX7_init_226 : decode cX7_init 226 = .ok (.bipush 28, 2) := by decide +kernel
theorem dX7_init_228 : decode cX7_init 228 = .ok (.iload_n 3, 1) := by decide +kernel
theorem dX7_init_229 : decode cX7_init 229 = .ok (.isub, 1) := by decide +kernel
theorem dX7_init_230 : decode cX7_init 230 = .ok (.if_icmp .gt 39, 3) := by decide +kernel
theorem dX7_init_233 : decode cX7_init 233 = .ok (.aload_n 0, 1) := by decide +kernel
theorem dX7_init_234 : decode cX7_init 234 = .ok (.getfield 7, 3) := by decide +kernel
theorem dX7_init_237 : decode cX7_init 237 = .ok (.iload_n 1, 1) := by decide +kernel
theorem dX7_init_238 : decode cX7_init 238 = .ok (.iload_n 2, 1) := by decide +kernel
theorem dX7_init_239 : decode cX7_init 239 = .ok (.iastore, 1) := by decide +kernel
theorem dX7_init_240 : decode cX7_init 240 = .ok (.aload_n 0, 1) := by decide +kernel
theorem dX7_init_241 : decode cX7_init 241 = .ok (.getfield 13, 3) := by decide +kernel
theorem dX7_init_244 : decode cX7_init 244 = .ok (.iload_n 1, 1) := by decide +kernel
theorem dX7_init_245 : decode cX7_init 245 = .ok (.iload 4, 2) := by decide +kernel
theorem dX7_init_247 : decode cX7_init 247 = .ok (.iastore, 1) := by decide +kernel
theorem dX7_init_248 : decode cX7_init 248 = .ok (.aload_n 0, 1) := by decide +kernel
theorem dX7_init_249 : decode cX7_init 249 = .ok (.getfield 16, 3) := by decide +kernel
theorem dX7_init_252 : decode cX7_init 252 = .ok (.iload_n 1, 1) := by decide +kernel
theorem dX7_init_253 : decode cX7_init 253 = .ok (.iload_n 2, 1) := by decide +kernel
theorem dX7_init_254 : decode cX7_init 254 = .ok (.iload 4, 2) := by decide +kernel
theorem dX7_init_256 : decode cX7_init 256 = .ok (.invokestatic 72, 3) := by decide +kernel
theorem dX7_init_259 : decode cX7_init 259 = .ok (.iastore, 1) := by decide +kernel
theorem dX7_init_260 : decode cX7_init 260 = .ok (.iinc 1 1, 3) := by decide +kernel
theorem dX7_init_263 : decode cX7_init 263 = .ok (.iinc 4 2, 3) := by decide +kernel
theorem dX7_init_266 : decode cX7_init 266 = .ok (.goto (-54), 3) := by decide +kernel
theorem dX7_init_269 : decode cX7_init 269 = .ok (.iinc 2 1, 3) := by decide +kernel
theorem dX7_init_272 : decode cX7_init 272 = .ok (.goto (-98), 3) := by decide +kernel
theorem dX7_init_275 : decode cX7_init 275 = .ok (.iconst 0, 1) := by decide +kernel
theorem dX7_init_276 : decode cX7_init 276 = .ok (.istore_n 2, 1) := by decide +kernel
theorem dX7_init_277 : decode cX7_init 277 = .ok (.iload_n 2, 1) := by decide +kernel
theorem dX7_init_278 : decode cX7_init 278 = .ok (.bipush 121, 2) := by decide +kernel
theorem dX7_init_280 : decode cX7_init 280 = .ok (.if_icmp .ge 129, 3) := by decide +kernel
theorem dX7_init_283 : decode cX7_init 283 = .ok (.iconst 0, 1) := by decide +kernel
theorem dX7_init_284 : decode cX7_init 284 = .ok (.istore_n 3, 1) := by decide +kernel
theorem dX7_init_285 : decode cX7_init 285 = .ok (.iload_n 3, 1) := by decide +kernel
theorem dX7_init_286 : decode cX7_init 286 = .ok (.bipush 6, 2) := by decide +kernel
theorem dX7_init_288 : decode cX7_init 288 = .ok (.if_icmp .ge 108, 3) := by decide +kernel
theorem dX7_init_291 : decode cX7_init 291 = .ok (.iload_n 3, 1) := by decide +kernel
theorem dX7_init_292 : decode cX7_init 292 = .ok (.iconst 1, 1) := by decide +kernel
theorem dX7_init_293 : decode cX7_init 293 = .ok (.if_icmp .eq 8, 3) := by decide +kernel
theorem dX7_init_296 : decode cX7_init 296 = .ok (.iload_n 3, 1) := by decide +kernel
theorem dX7_init_297 : decode cX7_init 297 = .ok (.iconst 2, 1) := by decide +kernel
theorem dX7_init_298 : decode cX7_init 298 = .ok (.if_icmp .ne 7, 3) := by decide +kernel
theorem dX7_init_301 : decode cX7_init 301 = .ok (.iconst 1, 1) := by decide +kernel
theorem dX7_init_302 : decode cX7_init 302 = .ok (.goto 18, 3) := by decide +kernel
theorem dX7_init_305 : decode cX7_init 305 = .ok (.iload_n 3, 1) := by decide +kernel
theorem dX7_init_306 : decode cX7_init 306 = .ok (.iconst 4, 1) := by decide +kernel
theorem dX7_init_307 : decode cX7_init 307 = .ok (.if_icmp .eq 8, 3) := by decide +kernel
theorem dX7_init_310 : decode cX7_init 310 = .ok (.iload_n 3, 1) := by decide +kernel
theorem dX7_init_311 : decode cX7_init 311 = .ok (.iconst 5, 1) := by decide +kernel
theorem dX7_init_312 : decode cX7_init 312 = .ok (.if_icmp .ne 7, 3) := by decide +kernel
theorem dX7_init_315 : decode cX7_init 315 = .ok (.iconst (-1), 1) := by decide +kernel
theorem dX7_init_316 : decode cX7_init 316 = .ok (.goto 4, 3) := by decide +kernel
theorem dX7_init_319 : decode cX7_init 319 = .ok (.iconst 0, 1) := by decide +kernel
theorem dX7_init_320 : decode cX7_init 320 = .ok (.istore 4, 2) := by decide +kernel
theorem dX7_init_322 : decode cX7_init 322 = .ok (.iload_n 3, 1) := by decide +kernel
theorem dX7_init_323 : decode cX7_init 323 = .ok (.ifCond .ne 7, 3) := by decide +kernel
theorem dX7_init_326 : decode cX7_init 326 = .ok (.iconst 2, 1) := by decide +kernel
theorem dX7_init_327 : decode cX7_init 327 = .ok (.goto 28, 3) := by decide +kernel
theorem dX7_init_330 : decode cX7_init 330 = .ok (.iload_n 3, 1) := by decide +kernel
theorem dX7_init_331 : decode cX7_init 331 = .ok (.iconst 3, 1) := by decide +kernel
theorem dX7_init_332 : decode cX7_init 332 = .ok (.if_icmp .ne 8, 3) := by decide +kernel
theorem dX7_init_335 : decode cX7_init 335 = .ok (.bipush (-2), 2) := by decide +kernel
theorem dX7_init_337 : decode cX7_init 337 = .ok (.goto 18, 3) := by decide +kernel
theorem dX7_init_340 : decode cX7_init 340 = .ok (.iload_n 3, 1) := by decide +kernel
theorem dX7_init_341 : decode cX7_init 341 = .ok (.iconst 1, 1) := by decide +kernel
theorem dX7_init_342 : decode cX7_init 342 = .ok (.if_icmp .eq 8, 3) := by decide +kernel
theorem dX7_init_345 : decode cX7_init 345 = .ok (.iload_n 3, 1) := by decide +kernel
theorem dX7_init_346 : decode cX7_init 346 = .ok (.iconst 5, 1) := by decide +kernel
theorem dX7_init_347 : decode cX7_init 347 = .ok (.if_icmp .ne 7, 3) := by decide +kernel
theorem dX7_init_350 : decode cX7_init 350 = .ok (.iconst 1, 1) := by decide +kernel
theorem dX7_init_351 : decode cX7_init 351 = .ok (.goto 4, 3) := by decide +kernel
theorem dX7_init_354 : decode cX7_init 354 = .ok (.iconst (-1), 1) := by decide +kernel
theorem dX7_init_355 : decode cX7_init 355 = .ok (.istore 5, 2) := by decide +kernel
theorem dX7_init_357 : decode cX7_init 357 = .ok (.aload_n 0, 1) := by decide +kernel
theorem dX7_init_358 : decode cX7_init 358 = .ok (.getfield 19, 3) := by decide +kernel
theorem dX7_init_361 : decode cX7_init 361 = .ok (.bipush 6, 2) := by decide +kernel
theorem dX7_init_363 : decode cX7_init 363 = .ok (.iload_n 2, 1) := by decide +kernel
theorem dX7_init_364 : decode cX7_init 364 = .ok (.imul, 1) := by decide +kernel
theorem dX7_init_365 : decode cX7_init 365 = .ok (.iload_n 3, 1) := by decide +kernel
theorem dX7_init_366 : decode cX7_init 366 = .ok (.iadd, 1) := by decide +kernel
theorem dX7_init_367 : decode cX7_init 367 = .ok (.aload_n 0, 1) := by decide +kernel
theorem dX7_init_368 : decode cX7_init 368 = .ok (.aload_n 0, 1) := by decide +kernel
theorem dX7_init_369 : decode cX7_init 369 = .ok (.getfield 7, 3) := by decide +kernel
theorem dX7_init_372 : decode cX7_init 372 = .ok (.iload_n 2, 1) := by decide +kernel
theorem dX7_init_373 : decode cX7_init 373 = .ok (.iaload, 1) := by decide +kernel
theorem dX7_init_374 : decode cX7_init 374 = .ok (.iload 4, 2) := by decide +kernel
theorem dX7_init_376 : decode cX7_init 376 = .ok (.iadd, 1) := by decide +kernel
theorem dX7_init_377 : decode cX7_init 377 = .ok (.aload_n 0, 1) := by decide +kernel
theorem dX7_init_378 : decode cX7_init 378 = .ok (.getfield 13, 3) := by decide +kernel
theorem dX7_init_381 : decode cX7_init 381 = .ok (.iload_n 2, 1) := by decide +kernel
theorem dX7_init_382 : decode cX7_init 382 = .ok (.iaload, 1) := by decide +kernel
theorem dX7_init_383 : decode cX7_init 383 = .ok (.iload 5, 2) := by decide +kernel
theorem dX7_init_385 : decode cX7_init 385 = .ok (.iadd, 1) := by decide +kernel
theorem dX7_init_386 : decode cX7_init 386 = .ok (.invokevirtual 76, 3) := by decide +kernel
theorem dX7_init_389 : decode cX7_init 389 = .ok (.iastore, 1) := by decide +kernel
theorem dX7_init_390 : decode cX7_init 390 = .ok (.iinc 3 1, 3) := by decide +kernel
theorem dX7_init_393 : decode cX7_init 393 = .ok (.goto (-108), 3) := by decide +kernel
theorem dX7_init_396 : decode cX7_init 396 = .ok (.aload_n 0, 1) := by decide +kernel
theorem dX7_init_397 : decode cX7_init 397 = .ok (.getfield 32, 3) := by decide +kernel
theorem dX7_init_400 : decode cX7_init 400 = .ok (.iload_n 2, 1) := by decide +kernel
theorem dX7_init_401 : decode cX7_init 401 = .ok (.iconst (-1), 1) := by decide +kernel
theorem dX7_init_402 : decode cX7_init 402 = .ok (.iastore, 1) := by decide +kernel
theorem dX7_init_403 : decode cX7_init 403 = .ok (.iinc 2 1, 3) := by decide +kernel
theorem dX7_init_406 : decode cX7_init 406 = .ok (.goto (-129), 3) := by decide +kernel
theorem dX7_init_409 : decode cX7_init 409 = .ok (.iconst 0, 1) := by decide +kernel
theorem dX7_init_410 : decode cX7_init 410 = .ok (.istore_n 2, 1) := by decide +kernel
theorem dX7_init_411 : decode cX7_init 411 = .ok (.iload_n 2, 1) := by decide +kernel
theorem dX7_init_412 : decode cX7_init 412 = .ok (.bipush 6, 2) := by decide +kernel
theorem dX7_init_414 : decode cX7_init 414 = .ok (.if_icmp .ge 54, 3) := by decide +kernel
theorem dX7_init_417 : decode cX7_init 417 = .ok (.iconst 0, 1) := by decide +kernel
theorem dX7_init_418 : decode cX7_init 418 = .ok (.istore_n 3, 1) := by decide +kernel
theorem dX7_init_419 : decode cX7_init 419 = .ok (.iconst 0, 1) := by decide +kernel
theorem dX7_init_420 : decode cX7_init 420 = .ok (.istore 4, 2) := by decide +kernel
theorem dX7_init_422 : decode cX7_init 422 = .ok (.iload 4, 2) := by decide +kernel
theorem dX7_init_424 : decode cX7_init 424 = .ok (.bipush 121, 2) := by decide +kernel
theorem dX7_init_426 : decode cX7_init 426 = .ok (.if_icmp .ge 36, 3) := by decide +kernel
theorem dX7_init_429 : decode cX7_init 429 = .ok (.aload_n 0, 1) := by decide +kernel
theorem dX7_init_430 : decode cX7_init 430 = .ok (.getfield 16, 3) := by decide +kernel
theorem dX7_init_433 : decode cX7_init 433 = .ok (.iload 4, 2) := by decide +kernel
theorem dX7_init_435 : decode cX7_init 435 = .ok (.iaload, 1) := by decide +kernel
theorem dX7_init_436 : decode cX7_init 436 = .ok (.iload_n 2, 1) := by decide +kernel
theorem dX7_init_437 : decode cX7_init 437 = .ok (.if_icmp .ne 19, 3) := by decide +kernel
theorem dX7_init_440 : decode cX7_init 440 = .ok (.aload_n 0, 1) := by decide +kernel
theorem dX7_init_441 : decode cX7_init 441 = .ok (.getfield 25, 3) := by decide +kernel
theorem dX7_init_444 : decode cX7_init 444 = .ok (.bipush 10, 2) := by decide +kernel
theorem dX7_init_446 : decode cX7_init 446 = .ok (.iload_n 2, 1) := by decide +kernel
theorem dX7_init_447 : decode cX7_init 447 = .ok (.imul, 1) := by decide +kernel
theorem dX7_init_448 : decode cX7_init 448 = .ok (.iload_n 3, 1) := by decide +kernel
theorem dX7_init_449 : decode cX7_init 449 = .ok (.iadd, 1) := by decide +kernel
theorem dX7_init_450 : decode cX7_init 450 = .ok (.iload 4, 2) := by decide +kernel
theorem dX7_init_452 : decode cX7_init 452 = .ok (.iastore, 1) := by decide +kernel
theorem dX7_init_453 : decode cX7_init 453 = .ok (.iinc 3 1, 3) := by decide +kernel
theorem dX7_init_456 : decode cX7_init 456 = .ok (.iinc 4 1, 3) := by decide +kernel
theorem dX7_init_459 : decode cX7_init 459 = .ok (.goto (-37), 3) := by decide +kernel
theorem dX7_init_462 : decode cX7_init 462 = .ok (.iinc 2 1, 3) := by decide +kernel
theorem dX7_init_465 : decode cX7_init 465 = .ok (.goto (-54), 3) := by decide +kernel
theorem dX7_init_468 : decode cX7_init 468 = .ok (.iconst 0, 1) := by decide +kernel
theorem dX7_init_469 : decode cX7_init 469 = .ok (.istore_n 2, 1) := by decide +kernel
theorem dX7_init_470 : decode cX7_init 470 = .ok (.iload_n 2, 1) := by decide +kernel
theorem dX7_init_471 : decode cX7_init 471 = .ok (.bipush 121, 2) := by decide +kernel
theorem dX7_init_473 : decode cX7_init 473 = .ok (.if_icmp .ge 14, 3) := by decide +kernel
theorem dX7_init_476 : decode cX7_init 476 = .ok (.aload_n 0, 1) := by decide +kernel
theorem dX7_init_477 : decode cX7_init 477 = .ok (.iload_n 2, 1) := by decide +kernel
theorem dX7_init_478 : decode cX7_init 478 = .ok (.invokevirtual 79, 3) := by decide +kernel
theorem dX7_init_481 : decode cX7_init 481 = .ok (.iinc 2 1, 3) := by decide +kernel
theorem dX7_init_484 : decode cX7_init 484 = .ok (.goto (-14), 3) := by decide +kernel
theorem dX7_init_487 : decode cX7_init 487 = .ok (.aload_n 0, 1) := by decide +kernel
theorem dX7_init_488 : decode cX7_init 488 = .ok (.iconst (-1), 1) := by decide +kernel
theorem dX7_init_489 : decode cX7_init 489 = .ok (.putfield 83, 3) := by decide +kernel
theorem dX7_init_492 : decode cX7_init 492 = .ok (.return_, 1) := by decide +kernel
theorem dX7_thrown_0 : decode cX7_thrown 0 = .ok (.aload_n 0, 1) := by decide +kernel
theorem dX7_thrown_1 : decode cX7_thrown 1 = .ok (.getfield 86, 3) := by decide +kernel
theorem dX7_thrown_4 : decode cX7_thrown 4 = .ok (.ireturn, 1) := by decide +kernel
theorem dX7_can_0 : decode cX7_can 0 = .ok (.aload_n 0, 1) := by decide +kernel
theorem dX7_can_1 : decode cX7_can 1 = .ok (.iload_n 1, 1) := by decide +kernel
theorem dX7_can_2 : decode cX7_can 2 = .ok (.putfield 86, 3) := by decide +kernel
theorem dX7_can_5 : decode cX7_can 5 = .ok (.iload_n 1, 1) := by decide +kernel
theorem dX7_can_6 : decode cX7_can 6 = .ok (.ifCond .ne 7, 3) := by decide +kernel
theorem dX7_can_9 : decode cX7_can 9 = .ok (.iconst 1, 1) := by decide +kernel
theorem dX7_can_10 : decode cX7_can 10 = .ok (.goto 4, 3) := by decide +kernel
theorem dX7_can_13 : decode cX7_can 13 = .ok (.iconst 0, 1) := by decide +kernel
theorem dX7_can_14 : decode cX7_can 14 = .ok (.ireturn, 1) := by decide +kernel
theorem dX7_isIn_0 : decode cX7_isIn 0 = .ok (.iload_n 0, 1) := by decide +kernel
theorem dX7_isIn_1 : decode cX7_isIn 1 = .ok (.iload_n 1, 1) := by decide +kernel
theorem dX7_isIn_2 : decode cX7_isIn 2 = .ok (.if_icmp .lt 12, 3) := by decide +kernel
theorem dX7_isIn_5 : decode cX7_isIn 5 = .ok (.iload_n 0, 1) := by decide +kernel
theorem dX7_isIn_6 : decode cX7_isIn 6 = .ok (.iload_n 2, 1) := by decide +kernel
theorem dX7_isIn_7 : decode cX7_isIn 7 = .ok (.if_icmp .gt 7, 3) := by decide +kernel
theorem dX7_isIn_10 : decode cX7_isIn 10 = .ok (.iconst 1, 1) := by decide +kernel
theorem dX7_isIn_11 : decode cX7_isIn 11 = .ok (.goto 4, 3) := by decide +kernel
theorem dX7_isIn_14 : decode cX7_isIn 14 = .ok (.iconst 0, 1) := by decide +kernel
theorem dX7_isIn_15 : decode cX7_isIn 15 = .ok (.ireturn, 1) := by decide +kernel
theorem dX7_isCell_0 : decode cX7_isCell 0 = .ok (.iload_n 0, 1) := by decide +kernel
theorem dX7_isCell_1 : decode cX7_isCell 1 = .ok (.iconst 0, 1) := by decide +kernel
theorem dX7_isCell_2 : decode cX7_isCell 2 = .ok (.bipush 120, 2) := by decide +kernel
theorem dX7_isCell_4 : decode cX7_isCell 4 = .ok (.invokestatic 89, 3) := by decide +kernel
theorem dX7_isCell_7 : decode cX7_isCell 7 = .ok (.ireturn, 1) := by decide +kernel
theorem dX7_campAt_0 : decode cX7_campAt 0 = .ok (.iload_n 0, 1) := by decide +kernel
theorem dX7_campAt_1 : decode cX7_campAt 1 = .ok (.iconst 4, 1) := by decide +kernel
theorem dX7_campAt_2 : decode cX7_campAt 2 = .ok (.if_icmp .lt 9, 3) := by decide +kernel
theorem dX7_campAt_5 : decode cX7_campAt 5 = .ok (.iload_n 0, 1) := by decide +kernel
theorem dX7_campAt_6 : decode cX7_campAt 6 = .ok (.bipush 12, 2) := by decide +kernel
theorem dX7_campAt_8 : decode cX7_campAt 8 = .ok (.if_icmp .le 14, 3) := by decide +kernel
theorem dX7_campAt_11 : decode cX7_campAt 11 = .ok (.iload_n 0, 1) := by decide +kernel
theorem dX7_campAt_12 : decode cX7_campAt 12 = .ok (.iconst 4, 1) := by decide +kernel
theorem dX7_campAt_13 : decode cX7_campAt 13 = .ok (.if_icmp .ge 7, 3) := by decide +kernel
theorem dX7_campAt_16 : decode cX7_campAt 16 = .ok (.iconst 0, 1) := by decide +kernel
theorem dX7_campAt_17 : decode cX7_campAt 17 = .ok (.goto 4, 3) := by decide +kernel
theorem dX7_campAt_20 : decode cX7_campAt 20 = .ok (.iconst 3, 1) := by decide +kernel
theorem dX7_campAt_21 : decode cX7_campAt 21 = .ok (.ireturn, 1) := by decide +kernel
theorem dX7_campAt_22 : decode cX7_campAt 22 = .ok (.iload_n 0, 1) := by decide +kernel
theorem dX7_campAt_23 : decode cX7_campAt 23 = .ok (.bipush 8, 2) := by decide +kernel
theorem dX7_campAt_25 : decode cX7_campAt 25 = .ok (.if_icmp .ge 29, 3) := by decide +kernel
theorem dX7_campAt_28 : decode cX7_campAt 28 = .ok (.iload_n 1, 1) := by decide +kernel
theorem dX7_campAt_29 : decode cX7_campAt 29 = .ok (.bipush 14, 2) := by decide +kernel
theorem dX7_campAt_31 : decode cX7_campAt 31 = .ok (.iload_n 0, 1) := by decide +kernel
theorem dX7_campAt_32 : decode cX7_campAt 32 = .ok (.iadd, 1) := by decide +kernel
theorem dX7_campAt_33 : decode cX7_campAt 33 = .ok (.if_icmp .lt 7, 3) := by decide +kernel
theorem dX7_campAt_36 : decode cX7_campAt 36 = .ok (.iconst 1, 1) := by decide +kernel
theorem dX7_campAt_37 : decode cX7_campAt 37 = .ok (.goto 16, 3) := by decide +kernel
theorem dX7_campAt_40 : decode cX7_campAt 40 = .ok (.iload_n 1, 1) := by decide +kernel
theorem dX7_campAt_41 : decode cX7_campAt 41 = .ok (.bipush 10, 2) := by decide +kernel
theorem dX7_campAt_43 : decode cX7_campAt 43 = .ok (.iload_n 0, 1) := by decide +kernel
theorem dX7_campAt_44 : decode cX7_campAt 44 = .ok (.isub, 1) := by decide +kernel
theorem dX7_campAt_45 : decode cX7_campAt 45 = .ok (.if_icmp .gt 7, 3) := by decide +kernel
theorem dX7_campAt_48 : decode cX7_campAt 48 = .ok (.iconst 5, 1) := by decide +kernel
theorem dX7_campAt_49 : decode cX7_campAt 49 = .ok (.goto 4, 3) := by decide +kernel
theorem dX7_campAt_52 : decode cX7_campAt 52 = .ok (.iconst (-1), 1) := by decide +kernel
theorem dX7_campAt_53 : decode cX7_campAt 53 = .ok (.ireturn, 1) := by decide +kernel
theorem dX7_campAt_54 : decode cX7_campAt 54 = .ok (.iload_n 0, 1) := by decide +kernel
theorem dX7_campAt_55 : decode cX7_campAt 55 = .ok (.bipush 8, 2) := by decide +kernel
theorem dX7_campAt_57 : decode cX7_campAt 57 = .ok (.if_icmp .ne 7, 3) := by decide +kernel
theorem dX7_campAt_60 : decode cX7_campAt 60 = .ok (.iconst (-1), 1) := by decide +kernel
theorem dX7_campAt_61 : decode cX7_campAt 61 = .ok (.goto 28, 3) := by decide +kernel
theorem dX7_campAt_64 : decode cX7_campAt 64 = .ok (.iload_n 1, 1) := by decide +kernel
theorem dX7_campAt_65 : decode cX7_campAt 65 = .ok (.bipush 30, 2) := by decide +kernel
theorem dX7_campAt_67 : decode cX7_campAt 67 = .ok (.iload_n 0, 1) := by decide +kernel
theorem dX7_campAt_68 : decode cX7_campAt 68 = .ok (.isub, 1) := by decide +kernel
theorem dX7_campAt_69 : decode cX7_campAt 69 = .ok (.if_icmp .lt 7, 3) := by decide +kernel
theorem dX7_campAt_72 : decode cX7_campAt 72 = .ok (.iconst 2, 1) := by decide +kernel
theorem dX7_campAt_73 : decode cX7_campAt 73 = .ok (.goto 16, 3) := by decide +kernel
theorem dX7_campAt_76 : decode cX7_campAt 76 = .ok (.iload_n 1, 1) := by decide +kernel
theorem dX7_campAt_77 : decode cX7_campAt 77 = .ok (.iload_n 0, 1) := by decide +kernel
theorem dX7_campAt_78 : decode cX7_campAt 78 = .ok (.bipush 6, 2) := by decide +kernel
theorem dX7_campAt_80 : decode cX7_campAt 80 = .ok (.isub, 1) := by decide +kernel
theorem dX7_campAt_81 : decode cX7_campAt 81 = .ok (.if_icmp .gt 7, 3) := by decide +kernel
theorem dX7_campAt_84 : decode cX7_campAt 84 = .ok (.iconst 4, 1) := by decide +kernel
theorem dX7_campAt_85 : decode cX7_campAt 85 = .ok (.goto 4, 3) := by decide +kernel
theorem dX7_campAt_88 : decode cX7_campAt 88 = .ok (.iconst (-1), 1) := by decide +kernel
theorem dX7_campAt_89 : decode cX7_campAt 89 = .ok (.ireturn, 1) := by decide +kernel
theorem dX7_find_0 : decode cX7_find 0 = .ok (.iconst (-1), 1) := by decide +kernel
theorem dX7_find_1 : decode cX7_find 1 = .ok (.istore_n 3, 1) := by decide +kernel
theorem dX7_find_2 : decode cX7_find 2 = .ok (.iconst 0, 1) := by decide +kernel
theorem dX7_find_3 : decode cX7_find 3 = .ok (.istore 4, 2) := by decide +kernel
theorem dX7_find_5 : decode cX7_find 5 = .ok (.iload 4, 2) := by decide +kernel
theorem dX7_find_7 : decode cX7_find 7 = .ok (.bipush 121, 2) := by decide +kernel
theorem dX7_find_9 : decode cX7_find 9 = .ok (.if_icmp .ge 38, 3) := by decide +kernel
theorem dX7_find_12 : decode cX7_find 12 = .ok (.aload_n 0, 1) := by decide +kernel
theorem dX7_find_13 : decode cX7_find 13 = .ok (.getfield 7, 3) := by decide +kernel
theorem dX7_find_16 : decode cX7_find 16 = .ok (.iload 4, 2) := by decide +kernel
theorem dX7_find_18 : decode cX7_find 18 = .ok (.iaload, 1) := by decide +kernel
theorem dX7_find_19 : decode cX7_find 19 = .ok (.iload_n 1, 1) := by decide +kernel
theorem dX7_find_20 : decode cX7_find 20 = .ok (.if_icmp .ne 19, 3) := by decide +kernel
theorem dX7_find_23 : decode cX7_find 23 = .ok (.aload_n 0, 1) := by decide +kernel
theorem dX7_find_24 : decode cX7_find 24 = .ok (.getfield 13, 3) := by decide +kernel
theorem dX7_find_27 : decode cX7_find 27 = .ok (.iload 4, 2) := by decide +kernel
theorem dX7_find_29 : decode cX7_find 29 = .ok (.iaload, 1) := by decide +kernel
theorem dX7_find_30 : decode cX7_find 30 = .ok (.iload_n 2, 1) := by decide +kernel
theorem dX7_find_31 : decode cX7_find 31 = .ok (.if_icmp .ne 8, 3) := by decide +kernel
theorem dX7_find_34 : decode cX7_find 34 = .ok (.iload 4, 2) := by decide +kernel
theorem dX7_find_36 : decode cX7_find 36 = .ok (.goto 4, 3) := by decide +kernel
theorem dX7_find_39 : decode cX7_find 39 = .ok (.iload_n 3, 1) := by decide +kernel
theorem dX7_find_40 : decode cX7_find 40 = .ok (.istore_n 3, 1) := by decide +kernel
theorem dX7_find_41 : decode cX7_find 41 = .ok (.iinc 4 1, 3) := by decide +kernel
theorem dX7_find_44 : decode cX7_find 44 = .ok (.goto (-39), 3) := by decide +kernel
theorem dX7_find_47 : decode cX7_find 47 = .ok (.iload_n 3, 1) := by decide +kernel
theorem dX7_find_48 : decode cX7_find 48 = .ok (.ireturn, 1) := by decide +kernel
theorem dX7_measures_0 : decode cX7_measures 0 = .ok (.iconst 0, 1) := by decide +kernel
theorem dX7_measures_1 : decode cX7_measures 1 = .ok (.istore_n 2, 1) := by decide +kernel
theorem dX7_measures_2 : decode cX7_measures 2 = .ok (.iload_n 2, 1) := by decide +kernel
theorem dX7_measures_3 : decode cX7_measures 3 = .ok (.bipush 121, 2) := by decide +kernel
theorem dX7_measures_5 : decode cX7_measures 5 = .ok (.if_icmp .ge 23, 3) := by decide +kernel
theorem dX7_measures_8 : decode cX7_measures 8 = .ok (.aload_n 0, 1) := by decide +kernel
theorem dX7_measures_9 : decode cX7_measures 9 = .ok (.getfield 22, 3) := by decide +kernel
theorem dX7_measures_12 : decode cX7_measures 12 = .ok (.bipush 121, 2) := by decide +kernel
theorem dX7_measures_14 : decode cX7_measures 14 = .ok (.iload_n 1, 1) := by decide +kernel
theorem dX7_measures_15 : decode cX7_measures 15 = .ok (.imul, 1) := by decide +kernel
theorem dX7_measures_16 : decode cX7_measures 16 = .ok (.iload_n 2, 1) := by decide +kernel
theorem dX7_measures_17 : decode cX7_measures 17 = .ok (.iadd, 1) := by decide +kernel
theorem dX7_measures_18 : decode cX7_measures 18 = .ok (.sipush 1000, 3) := by decide +kernel
theorem dX7_measures_21 : decode cX7_measures 21 = .ok (.iastore, 1) := by decide +kernel
theorem dX7_measures_22 : decode cX7_measures 22 = .ok (.iinc 2 1, 3) := by decide +kernel
theorem dX7_measures_25 : decode cX7_measures 25 = .ok (.goto (-23), 3) := by decide +kernel
theorem dX7_measures_28 : decode cX7_measures 28 = .ok (.aload_n 0, 1) := by decide +kernel
theorem dX7_measures_29 : decode cX7_measures 29 = .ok (.getfield 22, 3) := by decide +kernel
theorem dX7_measures_32 : decode cX7_measures 32 = .ok (.bipush 121, 2) := by decide +kernel
theorem dX7_measures_34 : decode cX7_measures 34 = .ok (.iload_n 1, 1) := by decide +kernel
theorem dX7_measures_35 : decode cX7_measures 35 = .ok (.imul, 1) := by decide +kernel
theorem dX7_measures_36 : decode cX7_measures 36 = .ok (.iload_n 1, 1) := by decide +kernel
theorem dX7_measures_37 : decode cX7_measures 37 = .ok (.iadd, 1) := by decide +kernel
theorem dX7_measures_38 : decode cX7_measures 38 = .ok (.iconst 0, 1) := by decide +kernel
theorem dX7_measures_39 : decode cX7_measures 39 = .ok (.iastore, 1) := by decide +kernel
theorem dX7_measures_40 : decode cX7_measures 40 = .ok (.aload_n 0, 1) := by decide +kernel
theorem dX7_measures_41 : decode cX7_measures 41 = .ok (.getfield 59, 3) := by decide +kernel
theorem dX7_measures_44 : decode cX7_measures 44 = .ok (.iconst 0, 1) := by decide +kernel
theorem dX7_measures_45 : decode cX7_measures 45 = .ok (.iload_n 1, 1) := by decide +kernel
theorem dX7_measures_46 : decode cX7_measures 46 = .ok (.iastore, 1) := by decide +kernel
theorem dX7_measures_47 : decode cX7_measures 47 = .ok (.iconst 1, 1) := by decide +kernel
theorem dX7_measures_48 : decode cX7_measures 48 = .ok (.istore_n 2, 1) := by decide +kernel
theorem dX7_measures_49 : decode cX7_measures 49 = .ok (.iconst 0, 1) := by decide +kernel
theorem dX7_measures_50 : decode cX7_measures 50 = .ok (.istore_n 3, 1) := by decide +kernel
theorem dX7_measures_51 : decode cX7_measures 51 = .ok (.iload_n 3, 1) := by decide +kernel
theorem dX7_measures_52 : decode cX7_measures 52 = .ok (.iload_n 2, 1) := by decide +kernel
theorem dX7_measures_53 : decode cX7_measures 53 = .ok (.if_icmp .ge 109, 3) := by decide +kernel
theorem dX7_measures_56 : decode cX7_measures 56 = .ok (.iconst 0, 1) := by decide +kernel
theorem dX7_measures_57 : decode cX7_measures 57 = .ok (.istore 4, 2) := by decide +kernel
theorem dX7_measures_59 : decode cX7_measures 59 = .ok (.iload 4, 2) := by decide +kernel
theorem dX7_measures_61 : decode cX7_measures 61 = .ok (.bipush 6, 2) := by decide +kernel
theorem dX7_measures_63 : decode cX7_measures 63 = .ok (.if_icmp .ge 93, 3) := by decide +kernel
theorem dX7_measures_66 : decode cX7_measures 66 = .ok (.aload_n 0, 1) := by decide +kernel
theorem dX7_measures_67 : decode cX7_measures 67 = .ok (.getfield 19, 3) := by decide +kernel
theorem dX7_measures_70 : decode cX7_measures 70 = .ok (.bipush 6, 2) := by decide +kernel
theorem dX7_measures_72 : decode cX7_measures 72 = .ok (.aload_n 0, 1) := by decide +kernel
theorem dX7_measures_73 : decode cX7_measures 73 = .ok (.getfield 59, 3) := by decide +kernel
theorem dX7_measures_76 : decode cX7_measures 76 = .ok (.iload_n 3, 1) := by decide +kernel
theorem dX7_measures_77 : decode cX7_measures 77 = .ok (.iaload, 1) := by decide +kernel
theorem dX7_measures_78 : decode cX7_measures 78 = .ok (.imul, 1) := by decide +kernel
theorem dX7_measures_79 : decode cX7_measures 79 = .ok (.iload 4, 2) := by decide +kernel
theorem dX7_measures_81 : decode cX7_measures 81 = .ok (.iadd, 1) := by decide +kernel
theorem dX7_measures_82 : decode cX7_measures 82 = .ok (.iaload, 1) := by decide +kernel
theorem dX7_measures_83 : decode cX7_measures 83 = .ok (.istore 5, 2) := by decide +kernel
theorem dX7_measures_85 : decode cX7_measures 85 = .ok (.iload 5, 2) := by decide +kernel
theorem dX7_measures_87 : decode cX7_measures 87 = .ok (.iconst (-1), 1) := by decide +kernel
theorem dX7_measures_88 : decode cX7_measures 88 = .ok (.if_icmp .eq 62, 3) := by decide +kernel
theorem dX7_measures_91 : decode cX7_measures 91 = .ok (.aload_n 0, 1) := by decide +kernel
theorem dX7_measures_92 : decode cX7_measures 92 = .ok (.getfield 22, 3) := by decide +kernel
theorem dX7_measures_95 : decode cX7_measures 95 = .ok (.bipush 121, 2) := by decide +kernel
theorem dX7_measures_97 : decode cX7_measures 97 = .ok (.iload_n 1, 1) := by decide +kernel
theorem dX7_measures_98 : decode cX7_measures 98 = .ok (.imul, 1) := by decide +kernel
theorem dX7_measures_99 : decode cX7_measures 99 = .ok (.iload 5, 2) := by decide +kernel
theorem dX7_measures_101 : decode cX7_measures 101 = .ok (.iadd, 1) := by decide +kernel
theorem dX7_measures_102 : decode cX7_measures 102 = .ok (.iaload, 1) := by decide +kernel
theorem dX7_measures_103 : decode cX7_measures 103 = .ok (.sipush 1000, 3) := by decide +kernel
theorem dX7_measures_106 : decode cX7_measures 106 = .ok (.if_icmp .ne 44, 3) := by decide +kernel
theorem dX7_measures_109 : decode cX7_measures 109 = .ok (.aload_n 0, 1) := by decide +kernel
theorem dX7_measures_110 : decode cX7_measures 110 = .ok (.getfield 22, 3) := by decide +kernel
theorem dX7_measures_113 : decode cX7_measures 113 = .ok (.bipush 121, 2) := by decide +kernel
theorem dX7_measures_115 : decode cX7_measures 115 = .ok (.iload_n 1, 1) := by decide +kernel
theorem dX7_measures_116 : decode cX7_measures 116 = .ok (.imul, 1) := by decide +kernel
theorem dX7_measures_117 : decode cX7_measures 117 = .ok (.iload 5, 2) := by decide +kernel
theorem dX7_measures_119 : decode cX7_measures 119 = .ok (.iadd, 1) := by decide +kernel
theorem dX7_measures_120 : decode cX7_measures 120 = .ok (.aload_n 0, 1) := by decide +kernel
theorem dX7_measures_121 : decode cX7_measures 121 = .ok (.getfield 22, 3) := by decide +kernel
theorem dX7_measures_124 : decode cX7_measures 124 = .ok (.bipush 121, 2) := by decide +kernel
theorem dX7_measures_126 : decode cX7_measures 126 = .ok (.iload_n 1, 1) := by decide +kernel
theorem dX7_measures_127 : decode cX7_measures 127 = .ok (.imul, 1) := by decide +kernel
theorem dX7_measures_128 : decode cX7_measures 128 = .ok (.aload_n 0, 1) := by decide +kernel
theorem dX7_measures_129 : decode cX7_measures 129 = .ok (.getfield 59, 3) := by decide +kernel
theorem dX7_measures_132 : decode cX7_measures 132 = .ok (.iload_n 3, 1) := by decide +kernel
theorem dX7_measures_133 : decode cX7_measures 133 = .ok (.iaload, 1) := by decide +kernel
theorem dX7_measures_134 : decode cX7_measures 134 = .ok (.iadd, 1) := by decide +kernel
theorem dX7_measures_135 : decode cX7_measures 135 = .ok (.iaload, 1) := by decide +kernel
theorem dX7_measures_136 : decode cX7_measures 136 = .ok (.iconst 1, 1) := by decide +kernel
theorem dX7_measures_137 : decode cX7_measures 137 = .ok (.iadd, 1) := by decide +kernel
theorem dX7_measures_138 : decode cX7_measures 138 = .ok (.iastore, 1) := by decide +kernel
theorem dX7_measures_139 : decode cX7_measures 139 = .ok (.aload_n 0, 1) := by decide +kernel
theorem dX7_measures_140 : decode cX7_measures 140 = .ok (.getfield 59, 3) := by decide +kernel
theorem dX7_measures_143 : decode cX7_measures 143 = .ok (.iload_n 2, 1) := by decide +kernel
theorem dX7_measures_144 : decode cX7_measures 144 = .ok (.iload 5, 2) := by decide +kernel
theorem dX7_measures_146 : decode cX7_measures 146 = .ok (.iastore, 1) := by decide +kernel
theorem dX7_measures_147 : decode cX7_measures 147 = .ok (.iinc 2 1, 3) := by decide +kernel
theorem dX7_measures_150 : decode cX7_measures 150 = .ok (.iinc 4 1, 3) := by decide +kernel
theorem dX7_measures_153 : decode cX7_measures 153 = .ok (.goto (-94), 3) := by decide +kernel
theorem dX7_measures_156 : decode cX7_measures 156 = .ok (.iinc 3 1, 3) := by decide +kernel
theorem dX7_measures_159 : decode cX7_measures 159 = .ok (.goto (-108), 3) := by decide +kernel
theorem dX7_measures_162 : decode cX7_measures 162 = .ok (.return_, 1) := by decide +kernel
theorem dX7_plays_0 : decode cX7_plays 0 = .ok (.iload_n 1, 1) := by decide +kernel
theorem dX7_plays_1 : decode cX7_plays 1 = .ok (.iconst 0, 1) := by decide +kernel
theorem dX7_plays_2 : decode cX7_plays 2 = .ok (.iconst 5, 1) := by decide +kernel
theorem dX7_plays_3 : decode cX7_plays 3 = .ok (.invokestatic 89, 3) := by decide +kernel
theorem dX7_plays_6 : decode cX7_plays 6 = .ok (.ifCond .eq 19, 3) := by decide +kernel
theorem dX7_plays_9 : decode cX7_plays 9 = .ok (.aload_n 0, 1) := by decide +kernel
theorem dX7_plays_10 : decode cX7_plays 10 = .ok (.getfield 93, 3) := by decide +kernel
theorem dX7_plays_13 : decode cX7_plays 13 = .ok (.iload_n 1, 1) := by decide +kernel
theorem dX7_plays_14 : decode cX7_plays 14 = .ok (.ishr, 1) := by decide +kernel
theorem dX7_plays_15 : decode cX7_plays 15 = .ok (.iconst 1, 1) := by decide +kernel
theorem dX7_plays_16 : decode cX7_plays 16 = .ok (.iand, 1) := by decide +kernel
theorem dX7_plays_17 : decode cX7_plays 17 = .ok (.iconst 1, 1) := by decide +kernel
theorem dX7_plays_18 : decode cX7_plays 18 = .ok (.if_icmp .ne 7, 3) := by decide +kernel
theorem dX7_plays_21 : decode cX7_plays 21 = .ok (.iconst 1, 1) := by decide +kernel
theorem dX7_plays_22 : decode cX7_plays 22 = .ok (.goto 4, 3) := by decide +kernel
theorem dX7_plays_25 : decode cX7_plays 25 = .ok (.iconst 0, 1) := by decide +kernel
theorem dX7_plays_26 : decode cX7_plays 26 = .ok (.ireturn, 1) := by decide +kernel
theorem dX7_begin_0 : decode cX7_begin 0 = .ok (.iconst 0, 1) := by decide +kernel
theorem dX7_begin_1 : decode cX7_begin 1 = .ok (.istore_n 2, 1) := by decide +kernel
theorem dX7_begin_2 : decode cX7_begin 2 = .ok (.iconst 0, 1) := by decide +kernel
theorem dX7_begin_3 : decode cX7_begin 3 = .ok (.istore_n 3, 1) := by decide +kernel
theorem dX7_begin_4 : decode cX7_begin 4 = .ok (.iload_n 3, 1) := by decide +kernel
theorem dX7_begin_5 : decode cX7_begin 5 = .ok (.bipush 6, 2) := by decide +kernel
theorem dX7_begin_7 : decode cX7_begin 7 = .ok (.if_icmp .ge 17, 3) := by decide +kernel
theorem dX7_begin_10 : decode cX7_begin 10 = .ok (.iload_n 2, 1) := by decide +kernel
theorem dX7_begin_11 : decode cX7_begin 11 = .ok (.iload_n 1, 1) := by decide +kernel
theorem dX7_begin_12 : decode cX7_begin 12 = .ok (.iload_n 3, 1) := by decide +kernel
theorem dX7_begin_13 : decode cX7_begin 13 = .ok (.ishr, 1) := by decide +kernel
theorem dX7_begin_14 : decode cX7_begin 14 = .ok (.iconst 1, 1) := by decide +kernel
theorem dX7_begin_15 : decode cX7_begin 15 = .ok (.iand, 1) := by decide +kernel
theorem dX7_begin_16 : decode cX7_begin 16 = .ok (.iadd, 1) := by decide +kernel
theorem dX7_begin_17 : decode cX7_begin 17 = .ok (.istore_n 2, 1) := by decide +kernel
theorem dX7_begin_18 : decode cX7_begin 18 = .ok (.iinc 3 1, 3) := by decide +kernel
theorem dX7_begin_21 : decode cX7_begin 21 = .ok (.goto (-17), 3) := by decide +kernel
theorem dX7_begin_24 : decode cX7_begin 24 = .ok (.aload_n 0, 1) := by decide +kernel
theorem dX7_begin_25 : decode cX7_begin 25 = .ok (.iload_n 1, 1) := by decide +kernel
theorem dX7_begin_26 : decode cX7_begin 26 = .ok (.iconst 0, 1) := by decide +kernel
theorem dX7_begin_27 : decode cX7_begin 27 = .ok (.bipush 63, 2) := by decide +kernel
theorem dX7_begin_29 : decode cX7_begin 29 = .ok (.invokestatic 89, 3) := by decide +kernel
theorem dX7_begin_32 : decode cX7_begin 32 = .ok (.ifCond .eq 12, 3) := by decide +kernel
theorem dX7_begin_35 : decode cX7_begin 35 = .ok (.iload_n 2, 1) := by decide +kernel
theorem dX7_begin_36 : decode cX7_begin 36 = .ok (.iconst 2, 1) := by decide +kernel
theorem dX7_begin_37 : decode cX7_begin 37 = .ok (.if_icmp .lt 7, 3) := by decide +kernel
theorem dX7_begin_40 : decode cX7_begin 40 = .ok (.iconst 0, 1) := by decide +kernel
theorem dX7_begin_41 : decode cX7_begin 41 = .ok (.goto 4, 3) := by decide +kernel
theorem dX7_begin_44 : decode cX7_begin 44 = .ok (.iconst 1, 1) := by decide +kernel
theorem dX7_begin_45 : decode cX7_begin 45 = .ok (.invokevirtual 96, 3) := by decide +kernel
theorem dX7_begin_48 : decode cX7_begin 48 = .ok (.ifCond .eq 105, 3) := by decide +kernel
theorem dX7_begin_51 : decode cX7_begin 51 = .ok (.aload_n 0, 1) := by decide +kernel
theorem dX7_begin_52 : decode cX7_begin 52 = .ok (.iload_n 1, 1) := by decide +kernel
theorem dX7_begin_53 : decode cX7_begin 53 = .ok (.putfield 93, 3) := by decide +kernel
theorem dX7_begin_56 : decode cX7_begin 56 = .ok (.iconst 0, 1) := by decide +kernel
theorem dX7_begin_57 : decode cX7_begin 57 = .ok (.istore_n 3, 1) := by decide +kernel
theorem dX7_begin_58 : decode cX7_begin 58 = .ok (.iload_n 3, 1) := by decide +kernel
theorem dX7_begin_59 : decode cX7_begin 59 = .ok (.bipush 121, 2) := by decide +kernel
theorem dX7_begin_61 : decode cX7_begin 61 = .ok (.if_icmp .ge 38, 3) := by decide +kernel
theorem dX7_begin_64 : decode cX7_begin 64 = .ok (.aload_n 0, 1) := by decide +kernel
theorem dX7_begin_65 : decode cX7_begin 65 = .ok (.getfield 32, 3) := by decide +kernel
theorem dX7_begin_68 : decode cX7_begin 68 = .ok (.iload_n 3, 1) := by decide +kernel
theorem dX7_begin_69 : decode cX7_begin 69 = .ok (.aload_n 0, 1) := by decide +kernel
theorem dX7_begin_70 : decode cX7_begin 70 = .ok (.aload_n 0, 1) := by decide +kernel
theorem dX7_begin_71 : decode cX7_begin 71 = .ok (.getfield 16, 3) := by decide +kernel
theorem dX7_begin_74 : decode cX7_begin 74 = .ok (.iload_n 3, 1) := by decide +kernel
theorem dX7_begin_75 : decode cX7_begin 75 = .ok (.iaload, 1) := by decide +kernel
theorem dX7_begin_76 : decode cX7_begin 76 = .ok (.invokevirtual 100, 3) := by decide +kernel
theorem dX7_begin_79 : decode cX7_begin 79 = .ok (.ifCond .eq 12, 3) := by decide +kernel
theorem dX7_begin_82 : decode cX7_begin 82 = .ok (.aload_n 0, 1) := by decide +kernel
theorem dX7_begin_83 : decode cX7_begin 83 = .ok (.getfield 16, 3) := by decide +kernel
theorem dX7_begin_86 : decode cX7_begin 86 = .ok (.iload_n 3, 1) := by decide +kernel
theorem dX7_begin_87 : decode cX7_begin 87 = .ok (.iaload, 1) := by decide +kernel
theorem dX7_begin_88 : decode cX7_begin 88 = .ok (.goto 4, 3) := by decide +kernel
theorem dX7_begin_91 : decode cX7_begin 91 = .ok (.iconst (-1), 1) := by decide +kernel
theorem dX7_begin_92 : decode cX7_begin 92 = .ok (.iastore, 1) := by decide +kernel
theorem dX7_begin_93 : decode cX7_begin 93 = .ok (.iinc 3 1, 3) := by decide +kernel
theorem dX7_begin_96 : decode cX7_begin 96 = .ok (.goto (-38), 3) := by decide +kernel
theorem dX7_begin_99 : decode cX7_begin 99 = .ok (.iconst 5, 1) := by decide +kernel
theorem dX7_begin_100 : decode cX7_begin 100 = .ok (.istore_n 3, 1) := by decide +kernel
theorem dX7_begin_101 : decode cX7_begin 101 = .ok (.iload_n 3, 1) := by decide +kernel
theorem dX7_begin_102 : decode cX7_begin 102 = .ok (.ifCond .lt 36, 3) := by decide +kernel
theorem dX7_begin_105 : decode cX7_begin 105 = .ok (.aload_n 0, 1) := by decide +kernel
theorem dX7_begin_106 : decode cX7_begin 106 = .ok (.getfield 35, 3) := by decide +kernel
theorem dX7_begin_109 : decode cX7_begin 109 = .ok (.iload_n 3, 1) := by decide +kernel
theorem dX7_begin_110 : decode cX7_begin 110 = .ok (.iconst 0, 1) := by decide +kernel
theorem dX7_begin_111 : decode cX7_begin 111 = .ok (.iastore, 1) := by decide +kernel
theorem dX7_begin_112 : decode cX7_begin 112 = .ok (.aload_n 0, 1) := by decide +kernel
theorem dX7_begin_113 : decode cX7_begin 113 = .ok (.aload_n 0, 1) := by decide +kernel
theorem dX7_begin_114 : decode cX7_begin 114 = .ok (.iload_n 3, 1) := by decide +kernel
theorem dX7_begin_115 : decode cX7_begin 115 = .ok (.invokevirtual 100, 3) := by decide +kernel
theorem dX7_begin_118 : decode cX7_begin 118 = .ok (.ifCond .eq 7, 3) := by decide +kernel
theorem dX7_begin_121 : decode cX7_begin 121 = .ok (.iload_n 3, 1) := by decide +kernel
theorem dX7_begin_122 : decode cX7_begin 122 = .ok (.goto 7, 3) := by decide +kernel
theorem dX7_begin_125 : decode cX7_begin 125 = .ok (.aload_n 0, 1) := by decide +kernel
theorem dX7_begin_126 : decode cX7_begin 126 = .ok (.getfield 83, 3) := by decide +kernel
theorem dX7_begin_129 : decode cX7_begin 129 = .ok (.putfield 83, 3) := by decide +kernel
theorem dX7_begin_132 : decode cX7_begin 132 = .ok (.iinc 3 (-1), 3) := by decide +kernel
theorem dX7_begin_135 : decode cX7_begin 135 = .ok (.goto (-34), 3) := by decide +kernel
theorem dX7_begin_138 : decode cX7_begin 138 = .ok (.aload_n 0, 1) := by decide +kernel
theorem dX7_begin_139 : decode cX7_begin 139 = .ok (.iconst 0, 1) := by decide +kernel
theorem dX7_begin_140 : decode cX7_begin 140 = .ok (.putfield 103, 3) := by decide +kernel
theorem dX7_begin_143 : decode cX7_begin 143 = .ok (.aload_n 0, 1) := by decide +kernel
theorem dX7_begin_144 : decode cX7_begin 144 = .ok (.iconst 0, 1) := by decide +kernel
theorem dX7_begin_145 : decode cX7_begin 145 = .ok (.putfield 106, 3) := by decide +kernel
theorem dX7_begin_148 : decode cX7_begin 148 = .ok (.aload_n 0, 1) := by decide +kernel
theorem dX7_begin_149 : decode cX7_begin 149 = .ok (.iconst 0, 1) := by decide +kernel
theorem dX7_begin_150 : decode cX7_begin 150 = .ok (.putfield 109, 3) := by decide +kernel
theorem dX7_begin_153 : decode cX7_begin 153 = .ok (.return_, 1) := by decide +kernel
theorem dX7_setFill_0 : decode cX7_setFill 0 = .ok (.aload_n 0, 1) := by decide +kernel
theorem dX7_setFill_1 : decode cX7_setFill 1 = .ok (.iload_n 1, 1) := by decide +kernel
theorem dX7_setFill_2 : decode cX7_setFill 2 = .ok (.iconst 1, 1) := by decide +kernel
theorem dX7_setFill_3 : decode cX7_setFill 3 = .ok (.bipush 10, 2) := by decide +kernel
theorem dX7_setFill_5 : decode cX7_setFill 5 = .ok (.invokestatic 89, 3) := by decide +kernel
theorem dX7_setFill_8 : decode cX7_setFill 8 = .ok (.ifCond .eq 7, 3) := by decide +kernel
theorem dX7_setFill_11 : decode cX7_setFill 11 = .ok (.iconst 0, 1) := by decide +kernel
theorem dX7_setFill_12 : decode cX7_setFill 12 = .ok (.goto 4, 3) := by decide +kernel
theorem dX7_setFill_15 : decode cX7_setFill 15 = .ok (.iconst 1, 1) := by decide +kernel
theorem dX7_setFill_16 : decode cX7_setFill 16 = .ok (.invokevirtual 96, 3) := by decide +kernel
theorem dX7_setFill_19 : decode cX7_setFill 19 = .ok (.ifCond .ne 5, 3) := by decide +kernel
theorem dX7_setFill_22 : decode cX7_setFill 22 = .ok (.iconst 0, 1) := by decide +kernel
theorem dX7_setFill_23 : decode cX7_setFill 23 = .ok (.ireturn, 1) := by decide +kernel
theorem dX7_setFill_24 : decode cX7_setFill 24 = .ok (.aload_n 0, 1) := by decide +kernel
theorem dX7_setFill_25 : decode cX7_setFill 25 = .ok (.getfield 28, 3) := by decide +kernel
theorem dX7_setFill_28 : decode cX7_setFill 28 = .ok (.istore_n 2, 1) := by decide +kernel
theorem dX7_setFill_29 : decode cX7_setFill 29 = .ok (.aload_n 0, 1) := by decide +kernel
theorem dX7_setFill_30 : decode cX7_setFill 30 = .ok (.iload_n 1, 1) := by decide +kernel
theorem dX7_setFill_31 : decode cX7_setFill 31 = .ok (.putfield 28, 3) := by decide +kernel
theorem dX7_setFill_34 : decode cX7_setFill 34 = .ok (.iload_n 2, 1) := by decide +kernel
theorem dX7_setFill_35 : decode cX7_setFill 35 = .ok (.ireturn, 1) := by decide +kernel
theorem dX7_setPatience_0 : decode cX7_setPatience 0 = .ok (.aload_n 0, 1) := by decide +kernel
theorem dX7_setPatience_1 : decode cX7_setPatience 1 = .ok (.iload_n 1, 1) := by decide +kernel
theorem dX7_setPatience_2 : decode cX7_setPatience 2 = .ok (.iconst 0, 1) := by decide +kernel
theorem dX7_setPatience_3 : decode cX7_setPatience 3 = .ok (.bipush 100, 2) := by decide +kernel
theorem dX7_setPatience_5 : decode cX7_setPatience 5 = .ok (.invokestatic 89, 3) := by decide +kernel
theorem dX7_setPatience_8 : decode cX7_setPatience 8 = .ok (.ifCond .eq 7, 3) := by decide +kernel
theorem dX7_setPatience_11 : decode cX7_setPatience 11 = .ok (.iconst 0, 1) := by decide +kernel
theorem dX7_setPatience_12 : decode cX7_setPatience 12 = .ok (.goto 4, 3) := by decide +kernel
theorem dX7_setPatience_15 : decode cX7_setPatience 15 = .ok (.iconst 1, 1) := by decide +kernel
theorem dX7_setPatience_16 : decode cX7_setPatience 16 = .ok (.invokevirtual 96, 3) := by decide +kernel
theorem dX7_setPatience_19 : decode cX7_setPatience 19 = .ok (.ifCond .ne 5, 3) := by decide +kernel
theorem dX7_setPatience_22 : decode cX7_setPatience 22 = .ok (.iconst 0, 1) := by decide +kernel
theorem dX7_setPatience_23 : decode cX7_setPatience 23 = .ok (.ireturn, 1) := by decide +kernel
theorem dX7_setPatience_24 : decode cX7_setPatience 24 = .ok (.aload_n 0, 1) := by decide +kernel
theorem dX7_setPatience_25 : decode cX7_setPatience 25 = .ok (.getfield 112, 3) := by decide +kernel
theorem dX7_setPatience_28 : decode cX7_setPatience 28 = .ok (.istore_n 2, 1) := by decide +kernel
theorem dX7_setPatience_29 : decode cX7_setPatience 29 = .ok (.aload_n 0, 1) := by decide +kernel
theorem dX7_setPatience_30 : decode cX7_setPatience 30 = .ok (.iload_n 1, 1) := by decide +kernel
theorem dX7_setPatience_31 : decode cX7_setPatience 31 = .ok (.putfield 112, 3) := by decide +kernel
theorem dX7_setPatience_34 : decode cX7_setPatience 34 = .ok (.iload_n 2, 1) := by decide +kernel
theorem dX7_setPatience_35 : decode cX7_setPatience 35 = .ok (.ireturn, 1) := by decide +kernel
theorem dX7_hasFinished_0 : decode cX7_hasFinished 0 = .ok (.iconst 0, 1) := by decide +kernel
theorem dX7_hasFinished_1 : decode cX7_hasFinished 1 = .ok (.istore_n 2, 1) := by decide +kernel
theorem dX7_hasFinished_2 : decode cX7_hasFinished 2 = .ok (.iconst 0, 1) := by decide +kernel
theorem dX7_hasFinished_3 : decode cX7_hasFinished 3 = .ok (.istore_n 3, 1) := by decide +kernel
theorem dX7_hasFinished_4 : decode cX7_hasFinished 4 = .ok (.iload_n 3, 1) := by decide +kernel
theorem dX7_hasFinished_5 : decode cX7_hasFinished 5 = .ok (.aload_n 0, 1) := by decide +kernel
theorem dX7_hasFinished_6 : decode cX7_hasFinished 6 = .ok (.getfield 109, 3) := by decide +kernel
theorem dX7_hasFinished_9 : decode cX7_hasFinished 9 = .ok (.if_icmp .ge 29, 3) := by decide +kernel
theorem dX7_hasFinished_12 : decode cX7_hasFinished 12 = .ok (.iload_n 2, 1) := by decide +kernel
theorem dX7_hasFinished_13 : decode cX7_hasFinished 13 = .ok (.ifCond .ne 13, 3) := by decide +kernel
theorem dX7_hasFinished_16 : decode cX7_hasFinished 16 = .ok (.aload_n 0, 1) := by decide +kernel
theorem dX7_hasFinished_17 : decode cX7_hasFinished 17 = .ok (.getfield 38, 3) := by decide +kernel
theorem dX7_hasFinished_20 : decode cX7_hasFinished 20 = .ok (.iload_n 3, 1) := by decide +kernel
theorem dX7_hasFinished_21 : decode cX7_hasFinished 21 = .ok (.iaload, 1) := by decide +kernel
theorem dX7_hasFinished_22 : decode cX7_hasFinished 22 = .ok (.iload_n 1, 1) := by decide +kernel
theorem dX7_hasFinished_23 : decode cX7_hasFinished 23 = .ok (.if_icmp .ne 7, 3) := by decide +kernel
theorem dX7_hasFinished_26 : decode cX7_hasFinished 26 = .ok (.iconst 1, 1) := by decide +kernel
theorem dX7_hasFinished_27 : decode cX7_hasFinished 27 = .ok (.goto 4, 3) := by decide +kernel
theorem dX7_hasFinished_30 : decode cX7_hasFinished 30 = .ok (.iconst 0, 1) := by decide +kernel
theorem dX7_hasFinished_31 : decode cX7_hasFinished 31 = .ok (.istore_n 2, 1) := by decide +kernel
theorem dX7_hasFinished_32 : decode cX7_hasFinished 32 = .ok (.iinc 3 1, 3) := by decide +kernel
theorem dX7_hasFinished_35 : decode cX7_hasFinished 35 = .ok (.goto (-31), 3) := by decide +kernel
theorem dX7_hasFinished_38 : decode cX7_hasFinished 38 = .ok (.iload_n 2, 1) := by decide +kernel
theorem dX7_hasFinished_39 : decode cX7_hasFinished 39 = .ok (.ireturn, 1) := by decide +kernel
theorem dX7_ownIn_0 : decode cX7_ownIn 0 = .ok (.iconst 0, 1) := by decide +kernel
theorem dX7_ownIn_1 : decode cX7_ownIn 1 = .ok (.istore_n 3, 1) := by decide +kernel
theorem dX7_ownIn_2 : decode cX7_ownIn 2 = .ok (.bipush 10, 2) := by decide +kernel
theorem dX7_ownIn_4 : decode cX7_ownIn 4 = .ok (.iload_n 2, 1) := by decide +kernel
theorem dX7_ownIn_5 : decode cX7_ownIn 5 = .ok (.imul, 1) := by decide +kernel
theorem dX7_ownIn_6 : decode cX7_ownIn 6 = .ok (.istore 4, 2) := by decide +kernel
theorem dX7_ownIn_8 : decode cX7_ownIn 8 = .ok (.iload 4, 2) := by decide +kernel
theorem dX7_ownIn_10 : decode cX7_ownIn 10 = .ok (.bipush 10, 2) := by decide +kernel
theorem dX7_ownIn_12 : decode cX7_ownIn 12 = .ok (.iload_n 2, 1) := by decide +kernel
theorem dX7_ownIn_13 : decode cX7_ownIn 13 = .ok (.imul, 1) := by decide +kernel
theorem dX7_ownIn_14 : decode cX7_ownIn 14 = .ok (.bipush 10, 2) := by decide +kernel
theorem dX7_ownIn_16 : decode cX7_ownIn 16 = .ok (.iadd, 1) := by decide +kernel
theorem dX7_ownIn_17 : decode cX7_ownIn 17 = .ok (.if_icmp .ge 33, 3) := by decide +kernel
theorem dX7_ownIn_20 : decode cX7_ownIn 20 = .ok (.iload_n 3, 1) := by decide +kernel
theorem dX7_ownIn_21 : decode cX7_ownIn 21 = .ok (.aload_n 0, 1) := by decide +kernel
theorem dX7_ownIn_22 : decode cX7_ownIn 22 = .ok (.getfield 32, 3) := by decide +kernel
theorem dX7_ownIn_25 : decode cX7_ownIn 25 = .ok (.aload_n 0, 1) := by decide +kernel
theorem dX7_ownIn_26 : decode cX7_ownIn 26 = .ok (.getfield 25, 3) := by decide +kernel
theorem dX7_ownIn_29 : decode cX7_ownIn 29 = .ok (.iload 4, 2) := by decide +kernel
theorem dX7_ownIn_31 : decode cX7_ownIn 31 = .ok (.iaload, 1) := by decide +kernel
theorem dX7_ownIn_32 : decode cX7_ownIn 32 = .ok (.iaload, 1) := by decide +kernel
theorem dX7_ownIn_33 : decode cX7_ownIn 33 = .ok (.iload_n 1, 1) := by decide +kernel
theorem dX7_ownIn_34 : decode cX7_ownIn 34 = .ok (.if_icmp .ne 7, 3) := by decide +kernel
theorem dX7_ownIn_37 : decode cX7_ownIn 37 = .ok (.iconst 1, 1) := by decide +kernel
theorem dX7_ownIn_38 : decode cX7_ownIn 38 = .ok (.goto 4, 3) := by decide +kernel
theorem dX7_ownIn_41 : decode cX7_ownIn 41 = .ok (.iconst 0, 1) := by decide +kernel
theorem dX7_ownIn_42 : decode cX7_ownIn 42 = .ok (.iadd, 1) := by decide +kernel
theorem dX7_ownIn_43 : decode cX7_ownIn 43 = .ok (.istore_n 3, 1) := by decide +kernel
theorem dX7_ownIn_44 : decode cX7_ownIn 44 = .ok (.iinc 4 1, 3) := by decide +kernel
theorem dX7_ownIn_47 : decode cX7_ownIn 47 = .ok (.goto (-39), 3) := by decide +kernel
theorem dX7_ownIn_50 : decode cX7_ownIn 50 = .ok (.iload_n 3, 1) := by decide +kernel
theorem dX7_ownIn_51 : decode cX7_ownIn 51 = .ok (.ireturn, 1) := by decide +kernel
theorem dX7_isFull_0 : decode cX7_isFull 0 = .ok (.aload_n 0, 1) := by decide +kernel
theorem dX7_isFull_1 : decode cX7_isFull 1 = .ok (.iconst (-1), 1) := by decide +kernel
theorem dX7_isFull_2 : decode cX7_isFull 2 = .ok (.iload_n 1, 1) := by decide +kernel
theorem dX7_isFull_3 : decode cX7_isFull 3 = .ok (.invokevirtual 115, 3) := by decide +kernel
theorem dX7_isFull_6 : decode cX7_isFull 6 = .ok (.ifCond .ne 7, 3) := by decide +kernel
theorem dX7_isFull_9 : decode cX7_isFull 9 = .ok (.iconst 1, 1) := by decide +kernel
theorem dX7_isFull_10 : decode cX7_isFull 10 = .ok (.goto 4, 3) := by decide +kernel
theorem dX7_isFull_13 : decode cX7_isFull 13 = .ok (.iconst 0, 1) := by decide +kernel
theorem dX7_isFull_14 : decode cX7_isFull 14 = .ok (.ireturn, 1) := by decide +kernel
theorem dX7_finishes_0 : decode cX7_finishes 0 = .ok (.iconst 0, 1) := by decide +kernel
theorem dX7_finishes_1 : decode cX7_finishes 1 = .ok (.istore_n 1, 1) := by decide +kernel
theorem dX7_finishes_2 : decode cX7_finishes 2 = .ok (.iload_n 1, 1) := by decide +kernel
theorem dX7_finishes_3 : decode cX7_finishes 3 = .ok (.bipush 6, 2) := by decide +kernel
theorem dX7_finishes_5 : decode cX7_finishes 5 = .ok (.if_icmp .ge 84, 3) := by decide +kernel
theorem dX7_finishes_8 : decode cX7_finishes 8 = .ok (.iload_n 1, 1) := by decide +kernel
theorem dX7_finishes_9 : decode cX7_finishes 9 = .ok (.iconst 3, 1) := by decide +kernel
theorem dX7_finishes_10 : decode cX7_finishes 10 = .ok (.iadd, 1) := by decide +kernel
theorem dX7_finishes_11 : decode cX7_finishes 11 = .ok (.bipush 6, 2) := by decide +kernel
theorem dX7_finishes_13 : decode cX7_finishes 13 = .ok (.irem, 1) := by decide +kernel
theorem dX7_finishes_14 : decode cX7_finishes 14 = .ok (.istore_n 2, 1) := by decide +kernel
theorem dX7_finishes_15 : decode cX7_finishes 15 = .ok (.aload_n 0, 1) := by decide +kernel
theorem dX7_finishes_16 : decode cX7_finishes 16 = .ok (.iload_n 1, 1) := by decide +kernel
theorem dX7_finishes_17 : decode cX7_finishes 17 = .ok (.invokevirtual 100, 3) := by decide +kernel
theorem dX7_finishes_20 : decode cX7_finishes 20 = .ok (.ifCond .eq 63, 3) := by decide +kernel
theorem dX7_finishes_23 : decode cX7_finishes 23 = .ok (.aload_n 0, 1) := by decide +kernel
theorem dX7_finishes_24 : decode cX7_finishes 24 = .ok (.getfield 106, 3) := by decide +kernel
theorem dX7_finishes_27 : decode cX7_finishes 27 = .ok (.iload_n 1, 1) := by decide +kernel
theorem dX7_finishes_28 : decode cX7_finishes 28 = .ok (.ishr, 1) := by decide +kernel
theorem dX7_finishes_29 : decode cX7_finishes 29 = .ok (.iconst 1, 1) := by decide +kernel
theorem dX7_finishes_30 : decode cX7_finishes 30 = .ok (.iand, 1) := by decide +kernel
theorem dX7_finishes_31 : decode cX7_finishes 31 = .ok (.ifCond .ne 52, 3) := by decide +kernel
theorem dX7_finishes_34 : decode cX7_finishes 34 = .ok (.aload_n 0, 1) := by decide +kernel
theorem dX7_finishes_35 : decode cX7_finishes 35 = .ok (.iload_n 1, 1) := by decide +kernel
theorem dX7_finishes_36 : decode cX7_finishes 36 = .ok (.invokevirtual 118, 3) := by decide +kernel
theorem dX7_finishes_39 : decode cX7_finishes 39 = .ok (.ifCond .ne 44, 3) := by decide +kernel
theorem dX7_finishes_42 : decode cX7_finishes 42 = .ok (.aload_n 0, 1) := by decide +kernel
theorem dX7_finishes_43 : decode cX7_finishes 43 = .ok (.iload_n 2, 1) := by decide +kernel
theorem dX7_finishes_44 : decode cX7_finishes 44 = .ok (.invokevirtual 121, 3) := by decide +kernel
theorem dX7_finishes_47 : decode cX7_finishes 47 = .ok (.ifCond .eq 36, 3) := by decide +kernel
theorem dX7_finishes_50 : decode cX7_finishes 50 = .ok (.aload_n 0, 1) := by decide +kernel
theorem dX7_finishes_51 : decode cX7_finishes 51 = .ok (.iload_n 1, 1) := by decide +kernel
theorem dX7_finishes_52 : decode cX7_finishes 52 = .ok (.iload_n 2, 1) := by decide +kernel
theorem dX7_finishes_53 : decode cX7_finishes 53 = .ok (.invokevirtual 115, 3) := by decide +kernel
theorem dX7_finishes_56 : decode cX7_finishes 56 = .ok (.aload_n 0, 1) := by decide +kernel
theorem dX7_finishes_57 : decode cX7_finishes 57 = .ok (.getfield 28, 3) := by decide +kernel
theorem dX7_finishes_60 : decode cX7_finishes 60 = .ok (.if_icmp .lt 23, 3) := by decide +kernel
theorem dX7_finishes_63 : decode cX7_finishes 63 = .ok (.aload_n 0, 1) := by decide +kernel
theorem dX7_finishes_64 : decode cX7_finishes 64 = .ok (.getfield 38, 3) := by decide +kernel
theorem dX7_finishes_67 : decode cX7_finishes 67 = .ok (.aload_n 0, 1) := by decide +kernel
theorem dX7_finishes_68 : decode cX7_finishes 68 = .ok (.getfield 109, 3) := by decide +kernel
theorem dX7_finishes_71 : decode cX7_finishes 71 = .ok (.iload_n 1, 1) := by decide +kernel
theorem dX7_finishes_72 : decode cX7_finishes 72 = .ok (.iastore, 1) := by decide +kernel
theorem dX7_finishes_73 : decode cX7_finishes 73 = .ok (.aload_n 0, 1) := by decide +kernel
theorem dX7_finishes_74 : decode cX7_finishes 74 = .ok (.dup, 1) := by decide +kernel
theorem dX7_finishes_75 : decode cX7_finishes 75 = .ok (.getfield 109, 3) := by decide +kernel
theorem dX7_finishes_78 : decode cX7_finishes 78 = .ok (.iconst 1, 1) := by decide +kernel
theorem dX7_finishes_79 : decode cX7_finishes 79 = .ok (.iadd, 1) := by decide +kernel
theorem dX7_finishes_80 : decode cX7_finishes 80 = .ok (.putfield 109, 3) := by decide +kernel
theorem dX7_finishes_83 : decode cX7_finishes 83 = .ok (.iinc 1 1, 3) := by decide +kernel
theorem dX7_finishes_86 : decode cX7_finishes 86 = .ok (.goto (-84), 3) := by decide +kernel
theorem dX7_finishes_89 : decode cX7_finishes 89 = .ok (.return_, 1) := by decide +kernel
theorem dX7_turns_0 : decode cX7_turns 0 = .ok (.aload_n 0, 1) := by decide +kernel
theorem dX7_turns_1 : decode cX7_turns 1 = .ok (.getfield 83, 3) := by decide +kernel
theorem dX7_turns_4 : decode cX7_turns 4 = .ok (.istore_n 1, 1) := by decide +kernel
theorem dX7_turns_5 : decode cX7_turns 5 = .ok (.aload_n 0, 1) := by decide +kernel
theorem dX7_turns_6 : decode cX7_turns 6 = .ok (.iconst (-1), 1) := by decide +kernel
theorem dX7_turns_7 : decode cX7_turns 7 = .ok (.putfield 83, 3) := by decide +kernel
theorem dX7_turns_10 : decode cX7_turns 10 = .ok (.iconst 1, 1) := by decide +kernel
theorem dX7_turns_11 : decode cX7_turns 11 = .ok (.istore_n 2, 1) := by decide +kernel
theorem dX7_turns_12 : decode cX7_turns 12 = .ok (.iload_n 2, 1) := by decide +kernel
theorem dX7_turns_13 : decode cX7_turns 13 = .ok (.bipush 6, 2) := by decide +kernel
theorem dX7_turns_15 : decode cX7_turns 15 = .ok (.if_icmp .gt 122, 3) := by decide +kernel
theorem dX7_turns_18 : decode cX7_turns 18 = .ok (.aload_n 0, 1) := by decide +kernel
theorem dX7_turns_19 : decode cX7_turns 19 = .ok (.getfield 83, 3) := by decide +kernel
theorem dX7_turns_22 : decode cX7_turns 22 = .ok (.iconst (-1), 1) := by decide +kernel
theorem dX7_turns_23 : decode cX7_turns 23 = .ok (.if_icmp .ne 114, 3) := by decide +kernel
theorem dX7_turns_26 : decode cX7_turns 26 = .ok (.iload_n 1, 1) := by decide +kernel
theorem dX7_turns_27 : decode cX7_turns 27 = .ok (.iload_n 2, 1) := by decide +kernel
theorem dX7_turns_28 : decode cX7_turns 28 = .ok (.iadd, 1) := by decide +kernel
theorem dX7_turns_29 : decode cX7_turns 29 = .ok (.bipush 6, 2) := by decide +kernel
theorem dX7_turns_31 : decode cX7_turns 31 = .ok (.irem, 1) := by decide +kernel
theorem dX7_turns_32 : decode cX7_turns 32 = .ok (.istore_n 3, 1) := by decide +kernel
theorem dX7_turns_33 : decode cX7_turns 33 = .ok (.aload_n 0, 1) := by decide +kernel
theorem dX7_turns_34 : decode cX7_turns 34 = .ok (.iload_n 3, 1) := by decide +kernel
theorem dX7_turns_35 : decode cX7_turns 35 = .ok (.invokevirtual 100, 3) := by decide +kernel
theorem dX7_turns_38 : decode cX7_turns 38 = .ok (.ifCond .eq 93, 3) := by decide +kernel
theorem dX7_turns_41 : decode cX7_turns 41 = .ok (.aload_n 0, 1) := by decide +kernel
theorem dX7_turns_42 : decode cX7_turns 42 = .ok (.iload_n 3, 1) := by decide +kernel
theorem dX7_turns_43 : decode cX7_turns 43 = .ok (.invokevirtual 118, 3) := by decide +kernel
theorem dX7_turns_46 : decode cX7_turns 46 = .ok (.ifCond .ne 85, 3) := by decide +kernel
theorem dX7_turns_49 : decode cX7_turns 49 = .ok (.aload_n 0, 1) := by decide +kernel
theorem dX7_turns_50 : decode cX7_turns 50 = .ok (.getfield 106, 3) := by decide +kernel
theorem dX7_turns_53 : decode cX7_turns 53 = .ok (.iload_n 3, 1) := by decide +kernel
theorem dX7_turns_54 : decode cX7_turns 54 = .ok (.ishr, 1) := by decide +kernel
theorem dX7_turns_55 : decode cX7_turns 55 = .ok (.iconst 1, 1) := by decide +kernel
theorem dX7_turns_56 : decode cX7_turns 56 = .ok (.iand, 1) := by decide +kernel
theorem dX7_turns_57 : decode cX7_turns 57 = .ok (.ifCond .ne 74, 3) := by decide +kernel
theorem dX7_turns_60 : decode cX7_turns 60 = .ok (.aload_n 0, 1) := by decide +kernel
theorem dX7_turns_61 : decode cX7_turns 61 = .ok (.getfield 112, 3) := by decide +kernel
theorem dX7_turns_64 : decode cX7_turns 64 = .ok (.ifCond .le 29, 3) := by decide +kernel
theorem dX7_turns_67 : decode cX7_turns 67 = .ok (.aload_n 0, 1) := by decide +kernel
theorem dX7_turns_68 : decode cX7_turns 68 = .ok (.getfield 35, 3) := by decide +kernel
theorem dX7_turns_71 : decode cX7_turns 71 = .ok (.iload_n 3, 1) := by decide +kernel
theorem dX7_turns_72 : decode cX7_turns 72 = .ok (.iaload, 1) := by decide +kernel
theorem dX7_turns_73 : decode cX7_turns 73 = .ok (.aload_n 0, 1) := by decide +kernel
theorem dX7_turns_74 : decode cX7_turns 74 = .ok (.getfield 112, 3) := by decide +kernel
theorem dX7_turns_77 : decode cX7_turns 77 = .ok (.if_icmp .lt 16, 3) := by decide +kernel
theorem dX7_turns_80 : decode cX7_turns 80 = .ok (.aload_n 0, 1) := by decide +kernel
theorem dX7_turns_81 : decode cX7_turns 81 = .ok (.iload_n 3, 1) := by decide +kernel
theorem dX7_turns_82 : decode cX7_turns 82 = .ok (.iload_n 3, 1) := by decide +kernel
theorem dX7_turns_83 : decode cX7_turns 83 = .ok (.invokevirtual 115, 3) := by decide +kernel
theorem dX7_turns_86 : decode cX7_turns 86 = .ok (.ifCond .le 7, 3) := by decide +kernel
theorem dX7_turns_89 : decode cX7_turns 89 = .ok (.iconst 1, 1) := by decide +kernel
theorem dX7_turns_90 : decode cX7_turns 90 = .ok (.goto 4, 3) := by decide +kernel
theorem dX7_turns_93 : decode cX7_turns 93 = .ok (.iconst 0, 1) := by decide +kernel
theorem dX7_turns_94 : decode cX7_turns 94 = .ok (.istore 4, 2) := by decide +kernel
theorem dX7_turns_96 : decode cX7_turns 96 = .ok (.aload_n 0, 1) := by decide +kernel
theorem dX7_turns_97 : decode cX7_turns 97 = .ok (.dup, 1) := by decide +kernel
theorem dX7_turns_98 : decode cX7_turns 98 = .ok (.getfield 106, 3) := by decide +kernel
theorem dX7_turns_101 : decode cX7_turns 101 = .ok (.iload 4, 2) := by decide +kernel
theorem dX7_turns_103 : decode cX7_turns 103 = .ok (.ifCond .eq 9, 3) := by decide +kernel
theorem dX7_turns_106 : decode cX7_turns 106 = .ok (.iconst 1, 1) := by decide +kernel
theorem dX7_turns_107 : decode cX7_turns 107 = .ok (.iload_n 3, 1) := by decide +kernel
theorem dX7_turns_108 : decode cX7_turns 108 = .ok (.ishl, 1) := by decide +kernel
theorem dX7_turns_109 : decode cX7_turns 109 = .ok (.goto 4, 3) := by decide +kernel
theorem dX7_turns_112 : decode cX7_turns 112 = .ok (.iconst 0, 1) := by decide +kernel
theorem dX7_turns_113 : decode cX7_turns 113 = .ok (.ior, 1) := by decide +kernel
theorem dX7_turns_114 : decode cX7_turns 114 = .ok (.putfield 106, 3) := by decide +kernel
theorem dX7_turns_117 : decode cX7_turns 117 = .ok (.aload_n 0, 1) := by decide +kernel
theorem dX7_turns_118 : decode cX7_turns 118 = .ok (.iload 4, 2) := by decide +kernel
theorem dX7_turns_120 : decode cX7_turns 120 = .ok (.ifCond .eq 7, 3) := by decide +kernel
theorem dX7_turns_123 : decode cX7_turns 123 = .ok (.iconst (-1), 1) := by decide +kernel
theorem dX7_turns_124 : decode cX7_turns 124 = .ok (.goto 4, 3) := by decide +kernel
theorem dX7_turns_127 : decode cX7_turns 127 = .ok (.iload_n 3, 1) := by decide +kernel
theorem dX7_turns_128 : decode cX7_turns 128 = .ok (.putfield 83, 3) := by decide +kernel
theorem dX7_turns_131 : decode cX7_turns 131 = .ok (.iinc 2 1, 3) := by decide +kernel
theorem dX7_turns_134 : decode cX7_turns 134 = .ok (.goto (-122), 3) := by decide +kernel
theorem dX7_turns_137 : decode cX7_turns 137 = .ok (.return_, 1) := by decide +kernel
theorem dX7_notes_0 : decode cX7_notes 0 = .ok (.aload_n 0, 1) := by decide +kernel
theorem dX7_notes_1 : decode cX7_notes 1 = .ok (.getfield 41, 3) := by decide +kernel
theorem dX7_notes_4 : decode cX7_notes 4 = .ok (.aload_n 0, 1) := by decide +kernel
theorem dX7_notes_5 : decode cX7_notes 5 = .ok (.getfield 103, 3) := by decide +kernel
theorem dX7_notes_8 : decode cX7_notes 8 = .ok (.iload_n 1, 1) := by decide +kernel
theorem dX7_notes_9 : decode cX7_notes 9 = .ok (.iastore, 1) := by decide +kernel
theorem dX7_notes_10 : decode cX7_notes 10 = .ok (.aload_n 0, 1) := by decide +kernel
theorem dX7_notes_11 : decode cX7_notes 11 = .ok (.getfield 44, 3) := by decide +kernel
theorem dX7_notes_14 : decode cX7_notes 14 = .ok (.aload_n 0, 1) := by decide +kernel
theorem dX7_notes_15 : decode cX7_notes 15 = .ok (.getfield 103, 3) := by decide +kernel
theorem dX7_notes_18 : decode cX7_notes 18 = .ok (.iload_n 2, 1) := by decide +kernel
theorem dX7_notes_19 : decode cX7_notes 19 = .ok (.iastore, 1) := by decide +kernel
theorem dX7_notes_20 : decode cX7_notes 20 = .ok (.aload_n 0, 1) := by decide +kernel
theorem dX7_notes_21 : decode cX7_notes 21 = .ok (.getfield 47, 3) := by decide +kernel
theorem dX7_notes_24 : decode cX7_notes 24 = .ok (.aload_n 0, 1) := by decide +kernel
theorem dX7_notes_25 : decode cX7_notes 25 = .ok (.getfield 103, 3) := by decide +kernel
theorem dX7_notes_28 : decode cX7_notes 28 = .ok (.aload_n 0, 1) := by decide +kernel
theorem dX7_notes_29 : decode cX7_notes 29 = .ok (.getfield 83, 3) := by decide +kernel
theorem dX7_notes_32 : decode cX7_notes 32 = .ok (.iastore, 1) := by decide +kernel
theorem dX7_notes_33 : decode cX7_notes 33 = .ok (.aload_n 0, 1) := by decide +kernel
theorem dX7_notes_34 : decode cX7_notes 34 = .ok (.getfield 50, 3) := by decide +kernel
theorem dX7_notes_37 : decode cX7_notes 37 = .ok (.aload_n 0, 1) := by decide +kernel
theorem dX7_notes_38 : decode cX7_notes 38 = .ok (.getfield 103, 3) := by decide +kernel
theorem dX7_notes_41 : decode cX7_notes 41 = .ok (.aload_n 0, 1) := by decide +kernel
theorem dX7_notes_42 : decode cX7_notes 42 = .ok (.getfield 106, 3) := by decide +kernel
theorem dX7_notes_45 : decode cX7_notes 45 = .ok (.iastore, 1) := by decide +kernel
theorem dX7_notes_46 : decode cX7_notes 46 = .ok (.aload_n 0, 1) := by decide +kernel
theorem dX7_notes_47 : decode cX7_notes 47 = .ok (.getfield 53, 3) := by decide +kernel
theorem dX7_notes_50 : decode cX7_notes 50 = .ok (.aload_n 0, 1) := by decide +kernel
theorem dX7_notes_51 : decode cX7_notes 51 = .ok (.getfield 103, 3) := by decide +kernel
theorem dX7_notes_54 : decode cX7_notes 54 = .ok (.aload_n 0, 1) := by decide +kernel
theorem dX7_notes_55 : decode cX7_notes 55 = .ok (.getfield 109, 3) := by decide +kernel
theorem dX7_notes_58 : decode cX7_notes 58 = .ok (.iastore, 1) := by decide +kernel
theorem dX7_notes_59 : decode cX7_notes 59 = .ok (.aload_n 0, 1) := by decide +kernel
theorem dX7_notes_60 : decode cX7_notes 60 = .ok (.dup, 1) := by decide +kernel
theorem dX7_notes_61 : decode cX7_notes 61 = .ok (.getfield 103, 3) := by decide +kernel
theorem dX7_notes_64 : decode cX7_notes 64 = .ok (.iconst 1, 1) := by decide +kernel
theorem dX7_notes_65 : decode cX7_notes 65 = .ok (.iadd, 1) := by decide +kernel
theorem dX7_notes_66 : decode cX7_notes 66 = .ok (.putfield 103, 3) := by decide +kernel
theorem dX7_notes_69 : decode cX7_notes 69 = .ok (.aload_n 0, 1) := by decide +kernel
theorem dX7_notes_70 : decode cX7_notes 70 = .ok (.getfield 35, 3) := by decide +kernel
theorem dX7_notes_73 : decode cX7_notes 73 = .ok (.aload_n 0, 1) := by decide +kernel
theorem dX7_notes_74 : decode cX7_notes 74 = .ok (.getfield 83, 3) := by decide +kernel
theorem dX7_notes_77 : decode cX7_notes 77 = .ok (.dup2, 1) := by decide +kernel
theorem dX7_notes_78 : decode cX7_notes 78 = .ok (.iaload, 1) := by decide +kernel
theorem dX7_notes_79 : decode cX7_notes 79 = .ok (.iconst 1, 1) := by decide +kernel
theorem dX7_notes_80 : decode cX7_notes 80 = .ok (.iadd, 1) := by decide +kernel
theorem dX7_notes_81 : decode cX7_notes 81 = .ok (.iastore, 1) := by decide +kernel
theorem dX7_notes_82 : decode cX7_notes 82 = .ok (.return_, 1) := by decide +kernel
theorem dX7_move_0 : decode cX7_move 0 = .ok (.aload_n 0, 1) := by decide +kernel
theorem dX7_move_1 : decode cX7_move 1 = .ok (.iload_n 1, 1) := by decide +kernel
theorem dX7_move_2 : decode cX7_move 2 = .ok (.invokestatic 124, 3) := by decide +kernel
theorem dX7_move_5 : decode cX7_move 5 = .ok (.ifCond .eq 10, 3) := by decide +kernel
theorem dX7_move_8 : decode cX7_move 8 = .ok (.iload_n 2, 1) := by decide +kernel
theorem dX7_move_9 : decode cX7_move 9 = .ok (.invokestatic 124, 3) := by decide +kernel
theorem dX7_move_12 : decode cX7_move 12 = .ok (.ifCond .ne 7, 3) := by decide +kernel
theorem dX7_move_15 : decode cX7_move 15 = .ok (.iconst 1, 1) := by decide +kernel
theorem dX7_move_16 : decode cX7_move 16 = .ok (.goto 26, 3) := by decide +kernel
theorem dX7_move_19 : decode cX7_move 19 = .ok (.aload_n 0, 1) := by decide +kernel
theorem dX7_move_20 : decode cX7_move 20 = .ok (.getfield 83, 3) := by decide +kernel
theorem dX7_move_23 : decode cX7_move 23 = .ok (.iconst (-1), 1) := by decide +kernel
theorem dX7_move_24 : decode cX7_move 24 = .ok (.if_icmp .eq 13, 3) := by decide +kernel
theorem dX7_move_27 : decode cX7_move 27 = .ok (.aload_n 0, 1) := by decide +kernel
theorem dX7_move_28 : decode cX7_move 28 = .ok (.getfield 103, 3) := by decide +kernel
theorem dX7_move_31 : decode cX7_move 31 = .ok (.sipush 300, 3) := by decide +kernel
theorem dX7_move_34 : decode cX7_move 34 = .ok (.if_icmp .ne 7, 3) := by decide +kernel
theorem dX7_move_37 : decode cX7_move 37 = .ok (.iconst 2, 1) := by decide +kernel
theorem dX7_move_38 : decode cX7_move 38 = .ok (.goto 4, 3) := by decide +kernel
theorem dX7_move_41 : decode cX7_move 41 = .ok (.iconst 0, 1) := by decide +kernel
theorem dX7_move_42 : decode cX7_move 42 = .ok (.invokevirtual 96, 3) := by decide +kernel
theorem dX7_move_45 : decode cX7_move 45 = .ok (.ifCond .ne 5, 3) := by decide +kernel
theorem dX7_move_48 : decode cX7_move 48 = .ok (.iconst 0, 1) := by decide +kernel
theorem dX7_move_49 : decode cX7_move 49 = .ok (.ireturn, 1) := by decide +kernel
theorem dX7_move_50 : decode cX7_move 50 = .ok (.aload_n 0, 1) := by decide +kernel
theorem dX7_move_51 : decode cX7_move 51 = .ok (.iload_n 1, 1) := by decide +kernel
theorem dX7_move_52 : decode cX7_move 52 = .ok (.iload_n 2, 1) := by decide +kernel
theorem dX7_move_53 : decode cX7_move 53 = .ok (.invokevirtual 127, 3) := by decide +kernel
theorem dX7_move_56 : decode cX7_move 56 = .ok (.istore_n 3, 1) := by decide +kernel
theorem dX7_move_57 : decode cX7_move 57 = .ok (.aload_n 0, 1) := by decide +kernel
theorem dX7_move_58 : decode cX7_move 58 = .ok (.iload_n 3, 1) := by decide +kernel
theorem dX7_move_59 : decode cX7_move 59 = .ok (.iconst (-1), 1) := by decide +kernel
theorem dX7_move_60 : decode cX7_move 60 = .ok (.if_icmp .ne 7, 3) := by decide +kernel
theorem dX7_move_63 : decode cX7_move 63 = .ok (.iconst 3, 1) := by decide +kernel
theorem dX7_move_64 : decode cX7_move 64 = .ok (.goto 4, 3) := by decide +kernel
theorem dX7_move_67 : decode cX7_move 67 = .ok (.iconst 0, 1) := by decide +kernel
theorem dX7_move_68 : decode cX7_move 68 = .ok (.invokevirtual 96, 3) := by decide +kernel
theorem dX7_move_71 : decode cX7_move 71 = .ok (.ifCond .ne 5, 3) := by decide +kernel
theorem dX7_move_74 : decode cX7_move 74 = .ok (.iconst 0, 1) := by decide +kernel
theorem dX7_move_75 : decode cX7_move 75 = .ok (.ireturn, 1) := by decide +kernel
theorem dX7_move_76 : decode cX7_move 76 = .ok (.aload_n 0, 1) := by decide +kernel
theorem dX7_move_77 : decode cX7_move 77 = .ok (.iload_n 1, 1) := by decide +kernel
theorem dX7_move_78 : decode cX7_move 78 = .ok (.iload_n 2, 1) := by decide +kernel
theorem dX7_move_79 : decode cX7_move 79 = .ok (.invokevirtual 130, 3) := by decide +kernel
theorem dX7_move_82 : decode cX7_move 82 = .ok (.aload_n 0, 1) := by decide +kernel
theorem dX7_move_83 : decode cX7_move 83 = .ok (.getfield 32, 3) := by decide +kernel
theorem dX7_move_86 : decode cX7_move 86 = .ok (.iload_n 2, 1) := by decide +kernel
theorem dX7_move_87 : decode cX7_move 87 = .ok (.aload_n 0, 1) := by decide +kernel
theorem dX7_move_88 : decode cX7_move 88 = .ok (.getfield 83, 3) := by decide +kernel
theorem dX7_move_91 : decode cX7_move 91 = .ok (.iastore, 1) := by decide +kernel
theorem dX7_move_92 : decode cX7_move 92 = .ok (.aload_n 0, 1) := by decide +kernel
theorem dX7_move_93 : decode cX7_move 93 = .ok (.getfield 32, 3) := by decide +kernel
theorem dX7_move_96 : decode cX7_move 96 = .ok (.iload_n 1, 1) := by decide +kernel
theorem dX7_move_97 : decode cX7_move 97 = .ok (.iconst (-1), 1) := by decide +kernel
theorem dX7_move_98 : decode cX7_move 98 = .ok (.iastore, 1) := by decide +kernel
theorem dX7_move_99 : decode cX7_move 99 = .ok (.aload_n 0, 1) := by decide +kernel
theorem dX7_move_100 : decode cX7_move 100 = .ok (.invokevirtual 134, 3) := by decide +kernel
theorem dX7_move_103 : decode cX7_move 103 = .ok (.aload_n 0, 1) := by decide +kernel
theorem dX7_move_104 : decode cX7_move 104 = .ok (.invokevirtual 137, 3) := by decide +kernel
theorem dX7_move_107 : decode cX7_move 107 = .ok (.iload_n 3, 1) := by decide +kernel
theorem dX7_move_108 : decode cX7_move 108 = .ok (.ireturn, 1) := by decide +kernel
theorem dX7_pass_0 : decode cX7_pass 0 = .ok (.aload_n 0, 1) := by decide +kernel
theorem dX7_pass_1 : decode cX7_pass 1 = .ok (.aload_n 0, 1) := by decide +kernel
theorem dX7_pass_2 : decode cX7_pass 2 = .ok (.getfield 83, 3) := by decide +kernel
theorem dX7_pass_5 : decode cX7_pass 5 = .ok (.iconst (-1), 1) := by decide +kernel
theorem dX7_pass_6 : decode cX7_pass 6 = .ok (.if_icmp .eq 20, 3) := by decide +kernel
theorem dX7_pass_9 : decode cX7_pass 9 = .ok (.aload_n 0, 1) := by decide +kernel
theorem dX7_pass_10 : decode cX7_pass 10 = .ok (.invokevirtual 140, 3) := by decide +kernel
theorem dX7_pass_13 : decode cX7_pass 13 = .ok (.ifCond .gt 13, 3) := by decide +kernel
theorem dX7_pass_16 : decode cX7_pass 16 = .ok (.aload_n 0, 1) := by decide +kernel
theorem dX7_pass_17 : decode cX7_pass 17 = .ok (.getfield 103, 3) := by decide +kernel
theorem dX7_pass_20 : decode cX7_pass 20 = .ok (.sipush 300, 3) := by decide +kernel
theorem dX7_pass_23 : decode cX7_pass 23 = .ok (.if_icmp .ne 7, 3) := by decide +kernel
theorem dX7_pass_26 : decode cX7_pass 26 = .ok (.iconst 1, 1) := by decide +kernel
theorem dX7_pass_27 : decode cX7_pass 27 = .ok (.goto 4, 3) := by decide +kernel
theorem dX7_pass_30 : decode cX7_pass 30 = .ok (.iconst 0, 1) := by decide +kernel
theorem dX7_pass_31 : decode cX7_pass 31 = .ok (.invokevirtual 96, 3) := by decide +kernel
theorem dX7_pass_34 : decode cX7_pass 34 = .ok (.ifCond .eq 13, 3) := by decide +kernel
theorem dX7_pass_37 : decode cX7_pass 37 = .ok (.aload_n 0, 1) := by decide +kernel
theorem dX7_pass_38 : decode cX7_pass 38 = .ok (.iconst (-1), 1) := by decide +kernel
theorem dX7_pass_39 : decode cX7_pass 39 = .ok (.iconst (-1), 1) := by decide +kernel
theorem dX7_pass_40 : decode cX7_pass 40 = .ok (.invokevirtual 130, 3) := by decide +kernel
theorem dX7_pass_43 : decode cX7_pass 43 = .ok (.aload_n 0, 1) := by decide +kernel
theorem dX7_pass_44 : decode cX7_pass 44 = .ok (.invokevirtual 137, 3) := by decide +kernel
theorem dX7_pass_47 : decode cX7_pass 47 = .ok (.return_, 1) := by decide +kernel
theorem dX7_undo_0 : decode cX7_undo 0 = .ok (.aload_n 0, 1) := by decide +kernel
theorem dX7_undo_1 : decode cX7_undo 1 = .ok (.aload_n 0, 1) := by decide +kernel
theorem dX7_undo_2 : decode cX7_undo 2 = .ok (.getfield 103, 3) := by decide +kernel
theorem dX7_undo_5 : decode cX7_undo 5 = .ok (.ifCond .ne 7, 3) := by decide +kernel
theorem dX7_undo_8 : decode cX7_undo 8 = .ok (.iconst 1, 1) := by decide +kernel
theorem dX7_undo_9 : decode cX7_undo 9 = .ok (.goto 4, 3) := by decide +kernel
theorem dX7_undo_12 : decode cX7_undo 12 = .ok (.iconst 0, 1) := by decide +kernel
theorem dX7_undo_13 : decode cX7_undo 13 = .ok (.invokevirtual 96, 3) := by decide +kernel
theorem dX7_undo_16 : decode cX7_undo 16 = .ok (.ifCond .ne 5, 3) := by decide +kernel
theorem dX7_undo_19 : decode cX7_undo 19 = .ok (.iconst 0, 1) := by decide +kernel
theorem dX7_undo_20 : decode cX7_undo 20 = .ok (.ireturn, 1) := by decide +kernel
theorem dX7_undo_21 : decode cX7_undo 21 = .ok (.aload_n 0, 1) := by decide +kernel
theorem dX7_undo_22 : decode cX7_undo 22 = .ok (.dup, 1) := by decide +kernel
theorem dX7_undo_23 : decode cX7_undo 23 = .ok (.getfield 103, 3) := by decide +kernel
theorem dX7_undo_26 : decode cX7_undo 26 = .ok (.iconst 1, 1) := by decide +kernel
theorem dX7_undo_27 : decode cX7_undo 27 = .ok (.isub, 1) := by decide +kernel
theorem dX7_undo_28 : decode cX7_undo 28 = .ok (.putfield 103, 3) := by decide +kernel
theorem dX7_undo_31 : decode cX7_undo 31 = .ok (.aload_n 0, 1) := by decide +kernel
theorem dX7_undo_32 : decode cX7_undo 32 = .ok (.aload_n 0, 1) := by decide +kernel
theorem dX7_undo_33 : decode cX7_undo 33 = .ok (.getfield 47, 3) := by decide +kernel
theorem dX7_undo_36 : decode cX7_undo 36 = .ok (.aload_n 0, 1) := by decide +kernel
theorem dX7_undo_37 : decode cX7_undo 37 = .ok (.getfield 103, 3) := by decide +kernel
theorem dX7_undo_40 : decode cX7_undo 40 = .ok (.iaload, 1) := by decide +kernel
theorem dX7_undo_41 : decode cX7_undo 41 = .ok (.putfield 83, 3) := by decide +kernel
theorem dX7_undo_44 : decode cX7_undo 44 = .ok (.aload_n 0, 1) := by decide +kernel
theorem dX7_undo_45 : decode cX7_undo 45 = .ok (.aload_n 0, 1) := by decide +kernel
theorem dX7_undo_46 : decode cX7_undo 46 = .ok (.getfield 50, 3) := by decide +kernel
theorem dX7_undo_49 : decode cX7_undo 49 = .ok (.aload_n 0, 1) := by decide +kernel
theorem dX7_undo_50 : decode cX7_undo 50 = .ok (.getfield 103, 3) := by decide +kernel
theorem dX7_undo_53 : decode cX7_undo 53 = .ok (.iaload, 1) := by decide +kernel
theorem dX7_undo_54 : decode cX7_undo 54 = .ok (.putfield 106, 3) := by decide +kernel
theorem dX7_undo_57 : decode cX7_undo 57 = .ok (.aload_n 0, 1) := by decide +kernel
theorem dX7_undo_58 : decode cX7_undo 58 = .ok (.aload_n 0, 1) := by decide +kernel
theorem dX7_undo_59 : decode cX7_undo 59 = .ok (.getfield 53, 3) := by decide +kernel
theorem dX7_undo_62 : decode cX7_undo 62 = .ok (.aload_n 0, 1) := by decide +kernel
theorem dX7_undo_63 : decode cX7_undo 63 = .ok (.getfield 103, 3) := by decide +kernel
theorem dX7_undo_66 : decode cX7_undo 66 = .ok (.iaload, 1) := by decide +kernel
theorem dX7_undo_67 : decode cX7_undo 67 = .ok (.putfield 109, 3) := by decide +kernel
theorem dX7_undo_70 : decode cX7_undo 70 = .ok (.aload_n 0, 1) := by decide +kernel
theorem dX7_undo_71 : decode cX7_undo 71 = .ok (.getfield 35, 3) := by decide +kernel
theorem dX7_undo_74 : decode cX7_undo 74 = .ok (.aload_n 0, 1) := by decide +kernel
theorem dX7_undo_75 : decode cX7_undo 75 = .ok (.getfield 83, 3) := by decide +kernel
theorem dX7_undo_78 : decode cX7_undo 78 = .ok (.dup2, 1) := by decide +kernel
theorem dX7_undo_79 : decode cX7_undo 79 = .ok (.iaload, 1) := by decide +kernel
theorem dX7_undo_80 : decode cX7_undo 80 = .ok (.iconst 1, 1) := by decide +kernel
theorem dX7_undo_81 : decode cX7_undo 81 = .ok (.isub, 1) := by decide +kernel
theorem dX7_undo_82 : decode cX7_undo 82 = .ok (.iastore, 1) := by decide +kernel
theorem dX7_undo_83 : decode cX7_undo 83 = .ok (.aload_n 0, 1) := by decide +kernel
theorem dX7_undo_84 : decode cX7_undo 84 = .ok (.getfield 41, 3) := by decide +kernel
theorem dX7_undo_87 : decode cX7_undo 87 = .ok (.aload_n 0, 1) := by decide +kernel
theorem dX7_undo_88 : decode cX7_undo 88 = .ok (.getfield 103, 3) := by decide +kernel
theorem dX7_undo_91 : decode cX7_undo 91 = .ok (.iaload, 1) := by decide +kernel
theorem dX7_undo_92 : decode cX7_undo 92 = .ok (.iconst (-1), 1) := by decide +kernel
theorem dX7_undo_93 : decode cX7_undo 93 = .ok (.if_icmp .eq 36, 3) := by decide +kernel
theorem dX7_undo_96 : decode cX7_undo 96 = .ok (.aload_n 0, 1) := by decide +kernel
theorem dX7_undo_97 : decode cX7_undo 97 = .ok (.getfield 32, 3) := by decide +kernel
theorem dX7_undo_100 : decode cX7_undo 100 = .ok (.aload_n 0, 1) := by decide +kernel
theorem dX7_undo_101 : decode cX7_undo 101 = .ok (.getfield 41, 3) := by decide +kernel
theorem dX7_undo_104 : decode cX7_undo 104 = .ok (.aload_n 0, 1) := by decide +kernel
theorem dX7_undo_105 : decode cX7_undo 105 = .ok (.getfield 103, 3) := by decide +kernel
theorem dX7_undo_108 : decode cX7_undo 108 = .ok (.iaload, 1) := by decide +kernel
theorem dX7_undo_109 : decode cX7_undo 109 = .ok (.aload_n 0, 1) := by decide +kernel
theorem dX7_undo_110 : decode cX7_undo 110 = .ok (.getfield 83, 3) := by decide +kernel
theorem dX7_undo_113 : decode cX7_undo 113 = .ok (.iastore, 1) := by decide +kernel
theorem dX7_undo_114 : decode cX7_undo 114 = .ok (.aload_n 0, 1) := by decide +kernel
theorem dX7_undo_115 : decode cX7_undo 115 = .ok (.getfield 32, 3) := by decide +kernel
theorem dX7_undo_118 : decode cX7_undo 118 = .ok (.aload_n 0, 1) := by decide +kernel
theorem dX7_undo_119 : decode cX7_undo 119 = .ok (.getfield 44, 3) := by decide +kernel
theorem dX7_undo_122 : decode cX7_undo 122 = .ok (.aload_n 0, 1) := by decide +kernel
theorem dX7_undo_123 : decode cX7_undo 123 = .ok (.getfield 103, 3) := by decide +kernel
theorem dX7_undo_126 : decode cX7_undo 126 = .ok (.iaload, 1) := by decide +kernel
theorem dX7_undo_127 : decode cX7_undo 127 = .ok (.iconst (-1), 1) := by decide +kernel
theorem dX7_undo_128 : decode cX7_undo 128 = .ok (.iastore, 1) := by decide +kernel
theorem dX7_undo_129 : decode cX7_undo 129 = .ok (.aload_n 0, 1) := by decide +kernel
theorem dX7_undo_130 : decode cX7_undo 130 = .ok (.getfield 103, 3) := by decide +kernel
theorem dX7_undo_133 : decode cX7_undo 133 = .ok (.ireturn, 1) := by decide +kernel
theorem dX7_at_0 : decode cX7_at 0 = .ok (.aload_n 0, 1) := by decide +kernel
theorem dX7_at_1 : decode cX7_at 1 = .ok (.iload_n 1, 1) := by decide +kernel
theorem dX7_at_2 : decode cX7_at 2 = .ok (.invokestatic 124, 3) := by decide +kernel
theorem dX7_at_5 : decode cX7_at 5 = .ok (.ifCond .eq 7, 3) := by decide +kernel
theorem dX7_at_8 : decode cX7_at 8 = .ok (.iconst 0, 1) := by decide +kernel
theorem dX7_at_9 : decode cX7_at 9 = .ok (.goto 4, 3) := by decide +kernel
theorem dX7_at_12 : decode cX7_at 12 = .ok (.iconst 1, 1) := by decide +kernel
theorem dX7_at_13 : decode cX7_at 13 = .ok (.invokevirtual 96, 3) := by decide +kernel
theorem dX7_at_16 : decode cX7_at 16 = .ok (.ifCond .eq 12, 3) := by decide +kernel
theorem dX7_at_19 : decode cX7_at 19 = .ok (.aload_n 0, 1) := by decide +kernel
theorem dX7_at_20 : decode cX7_at 20 = .ok (.getfield 32, 3) := by decide +kernel
theorem dX7_at_23 : decode cX7_at 23 = .ok (.iload_n 1, 1) := by decide +kernel
theorem dX7_at_24 : decode cX7_at 24 = .ok (.iaload, 1) := by decide +kernel
theorem dX7_at_25 : decode cX7_at 25 = .ok (.goto 4, 3) := by decide +kernel
theorem dX7_at_28 : decode cX7_at 28 = .ok (.iconst 0, 1) := by decide +kernel
theorem dX7_at_29 : decode cX7_at 29 = .ok (.ireturn, 1) := by decide +kernel
theorem dX7_cellAt_0 : decode cX7_cellAt 0 = .ok (.aload_n 0, 1) := by decide +kernel
theorem dX7_cellAt_1 : decode cX7_cellAt 1 = .ok (.iconst 0, 1) := by decide +kernel
theorem dX7_cellAt_2 : decode cX7_cellAt 2 = .ok (.putfield 86, 3) := by decide +kernel
theorem dX7_cellAt_5 : decode cX7_cellAt 5 = .ok (.aload_n 0, 1) := by decide +kernel
theorem dX7_cellAt_6 : decode cX7_cellAt 6 = .ok (.iload_n 1, 1) := by decide +kernel
theorem dX7_cellAt_7 : decode cX7_cellAt 7 = .ok (.iload_n 2, 1) := by decide +kernel
theorem dX7_cellAt_8 : decode cX7_cellAt 8 = .ok (.invokevirtual 76, 3) := by decide +kernel
theorem dX7_cellAt_11 : decode cX7_cellAt 11 = .ok (.ireturn, 1) := by decide +kernel
theorem dX7_campOf_0 : decode cX7_campOf 0 = .ok (.aload_n 0, 1) := by decide +kernel
theorem dX7_campOf_1 : decode cX7_campOf 1 = .ok (.iload_n 1, 1) := by decide +kernel
theorem dX7_campOf_2 : decode cX7_campOf 2 = .ok (.invokestatic 124, 3) := by decide +kernel
theorem dX7_campOf_5 : decode cX7_campOf 5 = .ok (.ifCond .eq 7, 3) := by decide +kernel
theorem dX7_campOf_8 : decode cX7_campOf 8 = .ok (.iconst 0, 1) := by decide +kernel
theorem dX7_campOf_9 : decode cX7_campOf 9 = .ok (.goto 4, 3) := by decide +kernel
theorem dX7_campOf_12 : decode cX7_campOf 12 = .ok (.iconst 1, 1) := by decide +kernel
theorem dX7_campOf_13 : decode cX7_campOf 13 = .ok (.invokevirtual 96, 3) := by decide +kernel
theorem dX7_campOf_16 : decode cX7_campOf 16 = .ok (.ifCond .eq 12, 3) := by decide +kernel
theorem dX7_campOf_19 : decode cX7_campOf 19 = .ok (.aload_n 0, 1) := by decide +kernel
theorem dX7_campOf_20 : decode cX7_campOf 20 = .ok (.getfield 16, 3) := by decide +kernel
theorem dX7_campOf_23 : decode cX7_campOf 23 = .ok (.iload_n 1, 1) := by decide +kernel
theorem dX7_campOf_24 : decode cX7_campOf 24 = .ok (.iaload, 1) := by decide +kernel
theorem dX7_campOf_25 : decode cX7_campOf 25 = .ok (.goto 4, 3) := by decide +kernel
theorem dX7_campOf_28 : decode cX7_campOf 28 = .ok (.iconst 0, 1) := by decide +kernel
theorem dX7_campOf_29 : decode cX7_campOf 29 = .ok (.ireturn, 1) := by decide +kernel
theorem dX7_areCells_0 : decode cX7_areCells 0 = .ok (.aload_n 0, 1) := by decide +kernel
theorem dX7_areCells_1 : decode cX7_areCells 1 = .ok (.iload_n 1, 1) := by decide +kernel
theorem dX7_areCells_2 : decode cX7_areCells 2 = .ok (.invokestatic 124, 3) := by decide +kernel
theorem dX7_areCells_5 : decode cX7_areCells 5 = .ok (.ifCond .eq 14, 3) := by decide +kernel
theorem dX7_areCells_8 : decode cX7_areCells 8 = .ok (.iload_n 2, 1) := by decide +kernel
theorem dX7_areCells_9 : decode cX7_areCells 9 = .ok (.invokestatic 124, 3) := by decide +kernel
theorem dX7_areCells_12 : decode cX7_areCells 12 = .ok (.ifCond .eq 7, 3) := by decide +kernel
theorem dX7_areCells_15 : decode cX7_areCells 15 = .ok (.iconst 0, 1) := by decide +kernel
theorem dX7_areCells_16 : decode cX7_areCells 16 = .ok (.goto 4, 3) := by decide +kernel
theorem dX7_areCells_19 : decode cX7_areCells 19 = .ok (.iconst 1, 1) := by decide +kernel
theorem dX7_areCells_20 : decode cX7_areCells 20 = .ok (.invokevirtual 96, 3) := by decide +kernel
theorem dX7_areCells_23 : decode cX7_areCells 23 = .ok (.ireturn, 1) := by decide +kernel
theorem dX7_distance_0 : decode cX7_distance 0 = .ok (.aload_n 0, 1) := by decide +kernel
theorem dX7_distance_1 : decode cX7_distance 1 = .ok (.iload_n 1, 1) := by decide +kernel
theorem dX7_distance_2 : decode cX7_distance 2 = .ok (.iload_n 2, 1) := by decide +kernel
theorem dX7_distance_3 : decode cX7_distance 3 = .ok (.invokevirtual 144, 3) := by decide +kernel
theorem dX7_distance_6 : decode cX7_distance 6 = .ok (.ifCond .eq 17, 3) := by decide +kernel
theorem dX7_distance_9 : decode cX7_distance 9 = .ok (.aload_n 0, 1) := by decide +kernel
theorem dX7_distance_10 : decode cX7_distance 10 = .ok (.getfield 22, 3) := by decide +kernel
theorem dX7_distance_13 : decode cX7_distance 13 = .ok (.bipush 121, 2) := by decide +kernel
theorem dX7_distance_15 : decode cX7_distance 15 = .ok (.iload_n 1, 1) := by decide +kernel
theorem dX7_distance_16 : decode cX7_distance 16 = .ok (.imul, 1) := by decide +kernel
theorem dX7_distance_17 : decode cX7_distance 17 = .ok (.iload_n 2, 1) := by decide +kernel
theorem dX7_distance_18 : decode cX7_distance 18 = .ok (.iadd, 1) := by decide +kernel
theorem dX7_distance_19 : decode cX7_distance 19 = .ok (.iaload, 1) := by decide +kernel
theorem dX7_distance_20 : decode cX7_distance 20 = .ok (.goto 4, 3) := by decide +kernel
theorem dX7_distance_23 : decode cX7_distance 23 = .ok (.iconst 0, 1) := by decide +kernel
theorem dX7_distance_24 : decode cX7_distance 24 = .ok (.ireturn, 1) := by decide +kernel
theorem dX7_behind_0 : decode cX7_behind 0 = .ok (.aload_n 0, 1) := by decide +kernel
theorem dX7_behind_1 : decode cX7_behind 1 = .ok (.getfield 19, 3) := by decide +kernel
theorem dX7_behind_4 : decode cX7_behind 4 = .ok (.bipush 6, 2) := by decide +kernel
theorem dX7_behind_6 : decode cX7_behind 6 = .ok (.iload_n 1, 1) := by decide +kernel
theorem dX7_behind_7 : decode cX7_behind 7 = .ok (.imul, 1) := by decide +kernel
theorem dX7_behind_8 : decode cX7_behind 8 = .ok (.iload_n 2, 1) := by decide +kernel
theorem dX7_behind_9 : decode cX7_behind 9 = .ok (.iadd, 1) := by decide +kernel
theorem dX7_behind_10 : decode cX7_behind 10 = .ok (.iaload, 1) := by decide +kernel
theorem dX7_behind_11 : decode cX7_behind 11 = .ok (.istore 4, 2) := by decide +kernel
theorem dX7_behind_13 : decode cX7_behind 13 = .ok (.iload 4, 2) := by decide +kernel
theorem dX7_behind_15 : decode cX7_behind 15 = .ok (.iconst (-1), 1) := by decide +kernel
theorem dX7_behind_16 : decode cX7_behind 16 = .ok (.if_icmp .ne 7, 3) := by decide +kernel
theorem dX7_behind_19 : decode cX7_behind 19 = .ok (.iconst (-1), 1) := by decide +kernel
theorem dX7_behind_20 : decode cX7_behind 20 = .ok (.goto 15, 3) := by decide +kernel
theorem dX7_behind_23 : decode cX7_behind 23 = .ok (.aload_n 0, 1) := by decide +kernel
theorem dX7_behind_24 : decode cX7_behind 24 = .ok (.getfield 19, 3) := by decide +kernel
theorem dX7_behind_27 : decode cX7_behind 27 = .ok (.bipush 6, 2) := by decide +kernel
theorem dX7_behind_29 : decode cX7_behind 29 = .ok (.iload 4, 2) := by decide +kernel
theorem dX7_behind_31 : decode cX7_behind 31 = .ok (.imul, 1) := by decide +kernel
theorem dX7_behind_32 : decode cX7_behind 32 = .ok (.iload_n 2, 1) := by decide +kernel
theorem dX7_behind_33 : decode cX7_behind 33 = .ok (.iadd, 1) := by decide +kernel
theorem dX7_behind_34 : decode cX7_behind 34 = .ok (.iaload, 1) := by decide +kernel
theorem dX7_behind_35 : decode cX7_behind 35 = .ok (.istore 5, 2) := by decide +kernel
theorem dX7_behind_37 : decode cX7_behind 37 = .ok (.iload 5, 2) := by decide +kernel
theorem dX7_behind_39 : decode cX7_behind 39 = .ok (.iconst (-1), 1) := by decide +kernel
theorem dX7_behind_40 : decode cX7_behind 40 = .ok (.if_icmp .eq 41, 3) := by decide +kernel
theorem dX7_behind_43 : decode cX7_behind 43 = .ok (.iload 4, 2) := by decide +kernel
theorem dX7_behind_45 : decode cX7_behind 45 = .ok (.iload_n 3, 1) := by decide +kernel
theorem dX7_behind_46 : decode cX7_behind 46 = .ok (.if_icmp .eq 35, 3) := by decide +kernel
theorem dX7_behind_49 : decode cX7_behind 49 = .ok (.aload_n 0, 1) := by decide +kernel
theorem dX7_behind_50 : decode cX7_behind 50 = .ok (.getfield 32, 3) := by decide +kernel
theorem dX7_behind_53 : decode cX7_behind 53 = .ok (.iload 4, 2) := by decide +kernel
theorem dX7_behind_55 : decode cX7_behind 55 = .ok (.iaload, 1) := by decide +kernel
theorem dX7_behind_56 : decode cX7_behind 56 = .ok (.iconst (-1), 1) := by decide +kernel
theorem dX7_behind_57 : decode cX7_behind 57 = .ok (.if_icmp .eq 24, 3) := by decide +kernel
theorem dX7_behind_60 : decode cX7_behind 60 = .ok (.iload 5, 2) := by decide +kernel
theorem dX7_behind_62 : decode cX7_behind 62 = .ok (.iload_n 3, 1) := by decide +kernel
theorem dX7_behind_63 : decode cX7_behind 63 = .ok (.if_icmp .eq 14, 3) := by decide +kernel
theorem dX7_behind_66 : decode cX7_behind 66 = .ok (.aload_n 0, 1) := by decide +kernel
theorem dX7_behind_67 : decode cX7_behind 67 = .ok (.getfield 32, 3) := by decide +kernel
theorem dX7_behind_70 : decode cX7_behind 70 = .ok (.iload 5, 2) := by decide +kernel
theorem dX7_behind_72 : decode cX7_behind 72 = .ok (.iaload, 1) := by decide +kernel
theorem dX7_behind_73 : decode cX7_behind 73 = .ok (.iconst (-1), 1) := by decide +kernel
theorem dX7_behind_74 : decode cX7_behind 74 = .ok (.if_icmp .ne 7, 3) := by decide +kernel
theorem dX7_behind_77 : decode cX7_behind 77 = .ok (.iconst 1, 1) := by decide +kernel
theorem dX7_behind_78 : decode cX7_behind 78 = .ok (.goto 4, 3) := by decide +kernel
theorem dX7_behind_81 : decode cX7_behind 81 = .ok (.iconst 0, 1) := by decide +kernel
theorem dX7_behind_82 : decode cX7_behind 82 = .ok (.istore 6, 2) := by decide +kernel
theorem dX7_behind_84 : decode cX7_behind 84 = .ok (.iload 6, 2) := by decide +kernel
theorem dX7_behind_86 : decode cX7_behind 86 = .ok (.ifCond .eq 8, 3) := by decide +kernel
theorem dX7_behind_89 : decode cX7_behind 89 = .ok (.iload 5, 2) := by decide +kernel
theorem dX7_behind_91 : decode cX7_behind 91 = .ok (.goto 4, 3) := by decide +kernel
theorem dX7_behind_94 : decode cX7_behind 94 = .ok (.iconst (-1), 1) := by decide +kernel
theorem dX7_behind_95 : decode cX7_behind 95 = .ok (.ireturn, 1) := by decide +kernel
theorem dX7_hopsFrom_0 : decode cX7_hopsFrom 0 = .ok (.iconst 0, 1) := by decide +kernel
theorem dX7_hopsFrom_1 : decode cX7_hopsFrom 1 = .ok (.istore_n 3, 1) := by decide +kernel
theorem dX7_hopsFrom_2 : decode cX7_hopsFrom 2 = .ok (.iload_n 3, 1) := by decide +kernel
theorem dX7_hopsFrom_3 : decode cX7_hopsFrom 3 = .ok (.bipush 121, 2) := by decide +kernel
theorem dX7_hopsFrom_5 : decode cX7_hopsFrom 5 = .ok (.if_icmp .ge 18, 3) := by decide +kernel
theorem dX7_hopsFrom_8 : decode cX7_hopsFrom 8 = .ok (.aload_n 0, 1) := by decide +kernel
theorem dX7_hopsFrom_9 : decode cX7_hopsFrom 9 = .ok (.getfield 56, 3) := by decide +kernel
theorem dX7_hopsFrom_12 : decode cX7_hopsFrom 12 = .ok (.iload_n 3, 1) := by decide +kernel
theorem dX7_hopsFrom_13 : decode cX7_hopsFrom 13 = .ok (.sipush 1000, 3) := by decide +kernel
theorem dX7_hopsFrom_16 : decode cX7_hopsFrom 16 = .ok (.iastore, 1) := by decide +kernel
theorem dX7_hopsFrom_17 : decode cX7_hopsFrom 17 = .ok (.iinc 3 1, 3) := by decide +kernel
theorem dX7_hopsFrom_20 : decode cX7_hopsFrom 20 = .ok (.goto (-18), 3) := by decide +kernel
theorem dX7_hopsFrom_23 : decode cX7_hopsFrom 23 = .ok (.aload_n 0, 1) := by decide +kernel
theorem dX7_hopsFrom_24 : decode cX7_hopsFrom 24 = .ok (.getfield 56, 3) := by decide +kernel
theorem dX7_hopsFrom_27 : decode cX7_hopsFrom 27 = .ok (.iload_n 1, 1) := by decide +kernel
theorem dX7_hopsFrom_28 : decode cX7_hopsFrom 28 = .ok (.iconst 0, 1) := by decide +kernel
theorem dX7_hopsFrom_29 : decode cX7_hopsFrom 29 = .ok (.iastore, 1) := by decide +kernel
theorem dX7_hopsFrom_30 : decode cX7_hopsFrom 30 = .ok (.aload_n 0, 1) := by decide +kernel
theorem dX7_hopsFrom_31 : decode cX7_hopsFrom 31 = .ok (.getfield 59, 3) := by decide +kernel
theorem dX7_hopsFrom_34 : decode cX7_hopsFrom 34 = .ok (.iconst 0, 1) := by decide +kernel
theorem dX7_hopsFrom_35 : decode cX7_hopsFrom 35 = .ok (.iload_n 1, 1) := by decide +kernel
theorem dX7_hopsFrom_36 : decode cX7_hopsFrom 36 = .ok (.iastore, 1) := by decide +kernel
theorem dX7_hopsFrom_37 : decode cX7_hopsFrom 37 = .ok (.iconst 1, 1) := by decide +kernel
theorem dX7_hopsFrom_38 : decode cX7_hopsFrom 38 = .ok (.istore_n 3, 1) := by decide +kernel
theorem dX7_hopsFrom_39 : decode cX7_hopsFrom 39 = .ok (.iconst 0, 1) := by decide +kernel
theorem dX7_hopsFrom_40 : decode cX7_hopsFrom 40 = .ok (.istore 4, 2) := by decide +kernel
theorem dX7_hopsFrom_42 : decode cX7_hopsFrom 42 = .ok (.iload 4, 2) := by decide +kernel
theorem dX7_hopsFrom_44 : decode cX7_hopsFrom 44 = .ok (.iload_n 3, 1) := by decide +kernel
theorem dX7_hopsFrom_45 : decode cX7_hopsFrom 45 = .ok (.if_icmp .ge 92, 3) := by decide +kernel
theorem dX7_hopsFrom_48 : decode cX7_hopsFrom 48 = .ok (.iconst 0, 1) := by decide +kernel
theorem dX7_hopsFrom_49 : decode cX7_hopsFrom 49 = .ok (.istore 5, 2) := by decide +kernel
theorem dX7_hopsFrom_51 : decode cX7_hopsFrom 51 = .ok (.iload 5, 2) := by decide +kernel
theorem dX7_hopsFrom_53 : decode cX7_hopsFrom 53 = .ok (.bipush 6, 2) := by decide +kernel
theorem dX7_hopsFrom_55 : decode cX7_hopsFrom 55 = .ok (.if_icmp .ge 76, 3) := by decide +kernel
theorem dX7_hopsFrom_58 : decode cX7_hopsFrom 58 = .ok (.aload_n 0, 1) := by decide +kernel
theorem dX7_hopsFrom_59 : decode cX7_hopsFrom 59 = .ok (.aload_n 0, 1) := by decide +kernel
theorem dX7_hopsFrom_60 : decode cX7_hopsFrom 60 = .ok (.getfield 59, 3) := by decide +kernel
theorem dX7_hopsFrom_63 : decode cX7_hopsFrom 63 = .ok (.iload 4, 2) := by decide +kernel
theorem dX7_hopsFrom_65 : decode cX7_hopsFrom 65 = .ok (.iaload, 1) := by decide +kernel
theorem dX7_hopsFrom_66 : decode cX7_hopsFrom 66 = .ok (.iload 5, 2) := by decide +kernel
theorem dX7_hopsFrom_68 : decode cX7_hopsFrom 68 = .ok (.iload_n 2, 1) := by decide +kernel
theorem dX7_hopsFrom_69 : decode cX7_hopsFrom 69 = .ok (.invokevirtual 148, 3) := by decide +kernel
theorem dX7_hopsFrom_72 : decode cX7_hopsFrom 72 = .ok (.istore 6, 2) := by decide +kernel
theorem dX7_hopsFrom_74 : decode cX7_hopsFrom 74 = .ok (.iload 6, 2) := by decide +kernel
theorem dX7_hopsFrom_76 : decode cX7_hopsFrom 76 = .ok (.iconst (-1), 1) := by decide +kernel
theorem dX7_hopsFrom_77 : decode cX7_hopsFrom 77 = .ok (.if_icmp .eq 48, 3) := by decide +kernel
theorem dX7_hopsFrom_80 : decode cX7_hopsFrom 80 = .ok (.aload_n 0, 1) := by decide +kernel
theorem dX7_hopsFrom_81 : decode cX7_hopsFrom 81 = .ok (.getfield 56, 3) := by decide +kernel
theorem dX7_hopsFrom_84 : decode cX7_hopsFrom 84 = .ok (.iload 6, 2) := by decide +kernel
theorem dX7_hopsFrom_86 : decode cX7_hopsFrom 86 = .ok (.iaload, 1) := by decide +kernel
theorem dX7_hopsFrom_87 : decode cX7_hopsFrom 87 = .ok (.sipush 1000, 3) := by decide +kernel
theorem dX7_hopsFrom_90 : decode cX7_hopsFrom 90 = .ok (.if_icmp .ne 35, 3) := by decide +kernel
theorem dX7_hopsFrom_93 : decode cX7_hopsFrom 93 = .ok (.aload_n 0, 1) := by decide +kernel
theorem dX7_hopsFrom_94 : decode cX7_hopsFrom 94 = .ok (.getfield 56, 3) := by decide +kernel
theorem dX7_hopsFrom_97 : decode cX7_hopsFrom 97 = .ok (.iload 6, 2) := by decide +kernel
theorem dX7_hopsFrom_99 : decode cX7_hopsFrom 99 = .ok (.aload_n 0, 1) := by decide +kernel
theorem dX7_hopsFrom_100 : decode cX7_hopsFrom 100 = .ok (.getfield 56, 3) := by decide +kernel
theorem dX7_hopsFrom_103 : decode cX7_hopsFrom 103 = .ok (.aload_n 0, 1) := by decide +kernel
theorem dX7_hopsFrom_104 : decode cX7_hopsFrom 104 = .ok (.getfield 59, 3) := by decide +kernel
theorem dX7_hopsFrom_107 : decode cX7_hopsFrom 107 = .ok (.iload 4, 2) := by decide +kernel
theorem dX7_hopsFrom_109 : decode cX7_hopsFrom 109 = .ok (.iaload, 1) := by decide +kernel
theorem dX7_hopsFrom_110 : decode cX7_hopsFrom 110 = .ok (.iaload, 1) := by decide +kernel
theorem dX7_hopsFrom_111 : decode cX7_hopsFrom 111 = .ok (.iconst 1, 1) := by decide +kernel
theorem dX7_hopsFrom_112 : decode cX7_hopsFrom 112 = .ok (.iadd, 1) := by decide +kernel
theorem dX7_hopsFrom_113 : decode cX7_hopsFrom 113 = .ok (.iastore, 1) := by decide +kernel
theorem dX7_hopsFrom_114 : decode cX7_hopsFrom 114 = .ok (.aload_n 0, 1) := by decide +kernel
theorem dX7_hopsFrom_115 : decode cX7_hopsFrom 115 = .ok (.getfield 59, 3) := by decide +kernel
theorem dX7_hopsFrom_118 : decode cX7_hopsFrom 118 = .ok (.iload_n 3, 1) := by decide +kernel
theorem dX7_hopsFrom_119 : decode cX7_hopsFrom 119 = .ok (.iload 6, 2) := by decide +kernel
theorem dX7_hopsFrom_121 : decode cX7_hopsFrom 121 = .ok (.iastore, 1) := by decide +kernel
theorem dX7_hopsFrom_122 : decode cX7_hopsFrom 122 = .ok (.iinc 3 1, 3) := by decide +kernel
theorem dX7_hopsFrom_125 : decode cX7_hopsFrom 125 = .ok (.iinc 5 1, 3) := by decide +kernel
theorem dX7_hopsFrom_128 : decode cX7_hopsFrom 128 = .ok (.goto (-77), 3) := by decide +kernel
theorem dX7_hopsFrom_131 : decode cX7_hopsFrom 131 = .ok (.iinc 4 1, 3) := by decide +kernel
theorem dX7_hopsFrom_134 : decode cX7_hopsFrom 134 = .ok (.goto (-92), 3) := by decide +kernel
theorem dX7_hopsFrom_137 : decode cX7_hopsFrom 137 = .ok (.return_, 1) := by decide +kernel
theorem dX7_isNext_0 : decode cX7_isNext 0 = .ok (.aload_n 0, 1) := by decide +kernel
theorem dX7_isNext_1 : decode cX7_isNext 1 = .ok (.getfield 22, 3) := by decide +kernel
theorem dX7_isNext_4 : decode cX7_isNext 4 = .ok (.bipush 121, 2) := by decide +kernel
theorem dX7_isNext_6 : decode cX7_isNext 6 = .ok (.iload_n 1, 1) := by decide +kernel
theorem dX7_isNext_7 : decode cX7_isNext 7 = .ok (.imul, 1) := by decide +kernel
theorem dX7_isNext_8 : decode cX7_isNext 8 = .ok (.iload_n 2, 1) := by decide +kernel
theorem dX7_isNext_9 : decode cX7_isNext 9 = .ok (.iadd, 1) := by decide +kernel
theorem dX7_isNext_10 : decode cX7_isNext 10 = .ok (.iaload, 1) := by decide +kernel
theorem dX7_isNext_11 : decode cX7_isNext 11 = .ok (.iconst 1, 1) := by decide +kernel
theorem dX7_isNext_12 : decode cX7_isNext 12 = .ok (.if_icmp .ne 7, 3) := by decide +kernel
theorem dX7_isNext_15 : decode cX7_isNext 15 = .ok (.iconst 1, 1) := by decide +kernel
theorem dX7_isNext_16 : decode cX7_isNext 16 = .ok (.goto 4, 3) := by decide +kernel
theorem dX7_isNext_19 : decode cX7_isNext 19 = .ok (.iconst 0, 1) := by decide +kernel
theorem dX7_isNext_20 : decode cX7_isNext 20 = .ok (.ireturn, 1) := by decide +kernel
theorem dX7_mayEnd_0 : decode cX7_mayEnd 0 = .ok (.aload_n 0, 1) := by decide +kernel
theorem dX7_mayEnd_1 : decode cX7_mayEnd 1 = .ok (.getfield 83, 3) := by decide +kernel
theorem dX7_mayEnd_4 : decode cX7_mayEnd 4 = .ok (.iconst 3, 1) := by decide +kernel
theorem dX7_mayEnd_5 : decode cX7_mayEnd 5 = .ok (.iadd, 1) := by decide +kernel
theorem dX7_mayEnd_6 : decode cX7_mayEnd 6 = .ok (.bipush 6, 2) := by decide +kernel
theorem dX7_mayEnd_8 : decode cX7_mayEnd 8 = .ok (.irem, 1) := by decide +kernel
theorem dX7_mayEnd_9 : decode cX7_mayEnd 9 = .ok (.istore_n 3, 1) := by decide +kernel
theorem dX7_mayEnd_10 : decode cX7_mayEnd 10 = .ok (.aload_n 0, 1) := by decide +kernel
theorem dX7_mayEnd_11 : decode cX7_mayEnd 11 = .ok (.getfield 16, 3) := by decide +kernel
theorem dX7_mayEnd_14 : decode cX7_mayEnd 14 = .ok (.iload_n 2, 1) := by decide +kernel
theorem dX7_mayEnd_15 : decode cX7_mayEnd 15 = .ok (.iaload, 1) := by decide +kernel
theorem dX7_mayEnd_16 : decode cX7_mayEnd 16 = .ok (.iconst (-1), 1) := by decide +kernel
theorem dX7_mayEnd_17 : decode cX7_mayEnd 17 = .ok (.if_icmp .eq 26, 3) := by decide +kernel
theorem dX7_mayEnd_20 : decode cX7_mayEnd 20 = .ok (.aload_n 0, 1) := by decide +kernel
theorem dX7_mayEnd_21 : decode cX7_mayEnd 21 = .ok (.getfield 16, 3) := by decide +kernel
theorem dX7_mayEnd_24 : decode cX7_mayEnd 24 = .ok (.iload_n 2, 1) := by decide +kernel
theorem dX7_mayEnd_25 : decode cX7_mayEnd 25 = .ok (.iaload, 1) := by decide +kernel
theorem dX7_mayEnd_26 : decode cX7_mayEnd 26 = .ok (.aload_n 0, 1) := by decide +kernel
theorem dX7_mayEnd_27 : decode cX7_mayEnd 27 = .ok (.getfield 83, 3) := by decide +kernel
theorem dX7_mayEnd_30 : decode cX7_mayEnd 30 = .ok (.if_icmp .eq 13, 3) := by decide +kernel
theorem dX7_mayEnd_33 : decode cX7_mayEnd 33 = .ok (.aload_n 0, 1) := by decide +kernel
theorem dX7_mayEnd_34 : decode cX7_mayEnd 34 = .ok (.getfield 16, 3) := by decide +kernel
theorem dX7_mayEnd_37 : decode cX7_mayEnd 37 = .ok (.iload_n 2, 1) := by decide +kernel
theorem dX7_mayEnd_38 : decode cX7_mayEnd 38 = .ok (.iaload, 1) := by decide +kernel
theorem dX7_mayEnd_39 : decode cX7_mayEnd 39 = .ok (.iload_n 3, 1) := by decide +kernel
theorem dX7_mayEnd_40 : decode cX7_mayEnd 40 = .ok (.if_icmp .ne 7, 3) := by decide +kernel
theorem dX7_mayEnd_43 : decode cX7_mayEnd 43 = .ok (.iconst 1, 1) := by decide +kernel
theorem dX7_mayEnd_44 : decode cX7_mayEnd 44 = .ok (.goto 4, 3) := by decide +kernel
theorem dX7_mayEnd_47 : decode cX7_mayEnd 47 = .ok (.iconst 0, 1) := by decide +kernel
theorem dX7_mayEnd_48 : decode cX7_mayEnd 48 = .ok (.istore 4, 2) := by decide +kernel
theorem dX7_mayEnd_50 : decode cX7_mayEnd 50 = .ok (.iload 4, 2) := by decide +kernel
theorem dX7_mayEnd_52 : decode cX7_mayEnd 52 = .ok (.ifCond .eq 27, 3) := by decide +kernel
theorem dX7_mayEnd_55 : decode cX7_mayEnd 55 = .ok (.aload_n 0, 1) := by decide +kernel
theorem dX7_mayEnd_56 : decode cX7_mayEnd 56 = .ok (.getfield 16, 3) := by decide +kernel
theorem dX7_mayEnd_59 : decode cX7_mayEnd 59 = .ok (.iload_n 1, 1) := by decide +kernel
theorem dX7_mayEnd_60 : decode cX7_mayEnd 60 = .ok (.iaload, 1) := by decide +kernel
theorem dX7_mayEnd_61 : decode cX7_mayEnd 61 = .ok (.iload_n 3, 1) := by decide +kernel
theorem dX7_mayEnd_62 : decode cX7_mayEnd 62 = .ok (.if_icmp .ne 13, 3) := by decide +kernel
theorem dX7_mayEnd_65 : decode cX7_mayEnd 65 = .ok (.aload_n 0, 1) := by decide +kernel
theorem dX7_mayEnd_66 : decode cX7_mayEnd 66 = .ok (.getfield 16, 3) := by decide +kernel
theorem dX7_mayEnd_69 : decode cX7_mayEnd 69 = .ok (.iload_n 2, 1) := by decide +kernel
theorem dX7_mayEnd_70 : decode cX7_mayEnd 70 = .ok (.iaload, 1) := by decide +kernel
theorem dX7_mayEnd_71 : decode cX7_mayEnd 71 = .ok (.iload_n 3, 1) := by decide +kernel
theorem dX7_mayEnd_72 : decode cX7_mayEnd 72 = .ok (.if_icmp .ne 7, 3) := by decide +kernel
theorem dX7_mayEnd_75 : decode cX7_mayEnd 75 = .ok (.iconst 1, 1) := by decide +kernel
theorem dX7_mayEnd_76 : decode cX7_mayEnd 76 = .ok (.goto 4, 3) := by decide +kernel
theorem dX7_mayEnd_79 : decode cX7_mayEnd 79 = .ok (.iconst 0, 1) := by decide +kernel
theorem dX7_mayEnd_80 : decode cX7_mayEnd 80 = .ok (.ireturn, 1) := by decide +kernel
theorem dX7_endsOf_0 : decode cX7_endsOf 0 = .ok (.iconst 0, 1) := by decide +kernel
theorem dX7_endsOf_1 : decode cX7_endsOf 1 = .ok (.istore_n 2, 1) := by decide +kernel
theorem dX7_endsOf_2 : decode cX7_endsOf 2 = .ok (.aload_n 0, 1) := by decide +kernel
theorem dX7_endsOf_3 : decode cX7_endsOf 3 = .ok (.getfield 83, 3) := by decide +kernel
theorem dX7_endsOf_6 : decode cX7_endsOf 6 = .ok (.iconst (-1), 1) := by decide +kernel
theorem dX7_endsOf_7 : decode cX7_endsOf 7 = .ok (.if_icmp .eq 20, 3) := by decide +kernel
theorem dX7_endsOf_10 : decode cX7_endsOf 10 = .ok (.aload_n 0, 1) := by decide +kernel
theorem dX7_endsOf_11 : decode cX7_endsOf 11 = .ok (.getfield 32, 3) := by decide +kernel
theorem dX7_endsOf_14 : decode cX7_endsOf 14 = .ok (.iload_n 1, 1) := by decide +kernel
theorem dX7_endsOf_15 : decode cX7_endsOf 15 = .ok (.iaload, 1) := by decide +kernel
theorem dX7_endsOf_16 : decode cX7_endsOf 16 = .ok (.aload_n 0, 1) := by decide +kernel
theorem dX7_endsOf_17 : decode cX7_endsOf 17 = .ok (.getfield 83, 3) := by decide +kernel
theorem dX7_endsOf_20 : decode cX7_endsOf 20 = .ok (.if_icmp .ne 7, 3) := by decide +kernel
theorem dX7_endsOf_23 : decode cX7_endsOf 23 = .ok (.iconst 1, 1) := by decide +kernel
theorem dX7_endsOf_24 : decode cX7_endsOf 24 = .ok (.goto 4, 3) := by decide +kernel
theorem dX7_endsOf_27 : decode cX7_endsOf 27 = .ok (.iconst 0, 1) := by decide +kernel
theorem dX7_endsOf_28 : decode cX7_endsOf 28 = .ok (.istore_n 3, 1) := by decide +kernel
theorem dX7_endsOf_29 : decode cX7_endsOf 29 = .ok (.aload_n 0, 1) := by decide +kernel
theorem dX7_endsOf_30 : decode cX7_endsOf 30 = .ok (.iload_n 1, 1) := by decide +kernel
theorem dX7_endsOf_31 : decode cX7_endsOf 31 = .ok (.iload_n 1, 1) := by decide +kernel
theorem dX7_endsOf_32 : decode cX7_endsOf 32 = .ok (.invokevirtual 152, 3) := by decide +kernel
theorem dX7_endsOf_35 : decode cX7_endsOf 35 = .ok (.iconst 0, 1) := by decide +kernel
theorem dX7_endsOf_36 : decode cX7_endsOf 36 = .ok (.istore 4, 2) := by decide +kernel
theorem dX7_endsOf_38 : decode cX7_endsOf 38 = .ok (.iload 4, 2) := by decide +kernel
theorem dX7_endsOf_40 : decode cX7_endsOf 40 = .ok (.bipush 121, 2) := by decide +kernel
theorem dX7_endsOf_42 : decode cX7_endsOf 42 = .ok (.if_icmp .ge 87, 3) := by decide +kernel
theorem dX7_endsOf_45 : decode cX7_endsOf 45 = .ok (.aload_n 0, 1) := by decide +kernel
theorem dX7_endsOf_46 : decode cX7_endsOf 46 = .ok (.getfield 62, 3) := by decide +kernel
theorem dX7_endsOf_49 : decode cX7_endsOf 49 = .ok (.iload 4, 2) := by decide +kernel
theorem dX7_endsOf_51 : decode cX7_endsOf 51 = .ok (.iload_n 3, 1) := by decide +kernel
theorem dX7_endsOf_52 : decode cX7_endsOf 52 = .ok (.ifCond .eq 51, 3) := by decide +kernel
theorem dX7_endsOf_55 : decode cX7_endsOf 55 = .ok (.aload_n 0, 1) := by decide +kernel
theorem dX7_endsOf_56 : decode cX7_endsOf 56 = .ok (.getfield 32, 3) := by decide +kernel
theorem dX7_endsOf_59 : decode cX7_endsOf 59 = .ok (.iload 4, 2) := by decide +kernel
theorem dX7_endsOf_61 : decode cX7_endsOf 61 = .ok (.iaload, 1) := by decide +kernel
theorem dX7_endsOf_62 : decode cX7_endsOf 62 = .ok (.iconst (-1), 1) := by decide +kernel
theorem dX7_endsOf_63 : decode cX7_endsOf 63 = .ok (.if_icmp .ne 40, 3) := by decide +kernel
theorem dX7_endsOf_66 : decode cX7_endsOf 66 = .ok (.aload_n 0, 1) := by decide +kernel
theorem dX7_endsOf_67 : decode cX7_endsOf 67 = .ok (.iload_n 1, 1) := by decide +kernel
theorem dX7_endsOf_68 : decode cX7_endsOf 68 = .ok (.iload 4, 2) := by decide +kernel
theorem dX7_endsOf_70 : decode cX7_endsOf 70 = .ok (.invokevirtual 155, 3) := by decide +kernel
theorem dX7_endsOf_73 : decode cX7_endsOf 73 = .ok (.ifCond .ne 16, 3) := by decide +kernel
theorem dX7_endsOf_76 : decode cX7_endsOf 76 = .ok (.aload_n 0, 1) := by decide +kernel
theorem dX7_endsOf_77 : decode cX7_endsOf 77 = .ok (.getfield 56, 3) := by decide +kernel
theorem dX7_endsOf_80 : decode cX7_endsOf 80 = .ok (.iload 4, 2) := by decide +kernel
theorem dX7_endsOf_82 : decode cX7_endsOf 82 = .ok (.iaload, 1) := by decide +kernel
theorem dX7_endsOf_83 : decode cX7_endsOf 83 = .ok (.sipush 1000, 3) := by decide +kernel
theorem dX7_endsOf_86 : decode cX7_endsOf 86 = .ok (.if_icmp .ge 17, 3) := by decide +kernel
theorem dX7_endsOf_89 : decode cX7_endsOf 89 = .ok (.aload_n 0, 1) := by decide +kernel
theorem dX7_endsOf_90 : decode cX7_endsOf 90 = .ok (.iload_n 1, 1) := by decide +kernel
theorem dX7_endsOf_91 : decode cX7_endsOf 91 = .ok (.iload 4, 2) := by decide +kernel
theorem dX7_endsOf_93 : decode cX7_endsOf 93 = .ok (.invokevirtual 158, 3) := by decide +kernel
theorem dX7_endsOf_96 : decode cX7_endsOf 96 = .ok (.ifCond .eq 7, 3) := by decide +kernel
theorem dX7_endsOf_99 : decode cX7_endsOf 99 = .ok (.iconst 1, 1) := by decide +kernel
theorem dX7_endsOf_100 : decode cX7_endsOf 100 = .ok (.goto 4, 3) := by decide +kernel
theorem dX7_endsOf_103 : decode cX7_endsOf 103 = .ok (.iconst 0, 1) := by decide +kernel
theorem dX7_endsOf_104 : decode cX7_endsOf 104 = .ok (.bastore, 1) := by decide +kernel
theorem dX7_endsOf_105 : decode cX7_endsOf 105 = .ok (.iload_n 2, 1) := by decide +kernel
theorem dX7_endsOf_106 : decode cX7_endsOf 106 = .ok (.aload_n 0, 1) := by decide +kernel
theorem dX7_endsOf_107 : decode cX7_endsOf 107 = .ok (.getfield 62, 3) := by decide +kernel
theorem dX7_endsOf_110 : decode cX7_endsOf 110 = .ok (.iload 4, 2) := by decide +kernel
theorem dX7_endsOf_112 : decode cX7_endsOf 112 = .ok (.baload, 1) := by decide +kernel
theorem dX7_endsOf_113 : decode cX7_endsOf 113 = .ok (.ifCond .eq 7, 3) := by decide +kernel
theorem dX7_endsOf_116 : decode cX7_endsOf 116 = .ok (.iconst 1, 1) := by decide +kernel
theorem dX7_endsOf_117 : decode cX7_endsOf 117 = .ok (.goto 4, 3) := by decide +kernel
theorem dX7_endsOf_120 : decode cX7_endsOf 120 = .ok (.iconst 0, 1) := by decide +kernel
theorem dX7_endsOf_121 : decode cX7_endsOf 121 = .ok (.iadd, 1) := by decide +kernel
theorem dX7_endsOf_122 : decode cX7_endsOf 122 = .ok (.istore_n 2, 1) := by decide +kernel
theorem dX7_endsOf_123 : decode cX7_endsOf 123 = .ok (.iinc 4 1, 3) := by decide +kernel
theorem dX7_endsOf_126 : decode cX7_endsOf 126 = .ok (.goto (-88), 3) := by decide +kernel
theorem dX7_endsOf_129 : decode cX7_endsOf 129 = .ok (.iload_n 2, 1) := by decide +kernel
theorem dX7_endsOf_130 : decode cX7_endsOf 130 = .ok (.ireturn, 1) := by decide +kernel
theorem dX7_hopsOf_0 : decode cX7_hopsOf 0 = .ok (.aload_n 0, 1) := by decide +kernel
theorem dX7_hopsOf_1 : decode cX7_hopsOf 1 = .ok (.iload_n 1, 1) := by decide +kernel
theorem dX7_hopsOf_2 : decode cX7_hopsOf 2 = .ok (.invokevirtual 161, 3) := by decide +kernel
theorem dX7_hopsOf_5 : decode cX7_hopsOf 5 = .ok (.pop, 1) := by decide +kernel
theorem dX7_hopsOf_6 : decode cX7_hopsOf 6 = .ok (.aload_n 0, 1) := by decide +kernel
theorem dX7_hopsOf_7 : decode cX7_hopsOf 7 = .ok (.getfield 62, 3) := by decide +kernel
theorem dX7_hopsOf_10 : decode cX7_hopsOf 10 = .ok (.iload_n 2, 1) := by decide +kernel
theorem dX7_hopsOf_11 : decode cX7_hopsOf 11 = .ok (.baload, 1) := by decide +kernel
theorem dX7_hopsOf_12 : decode cX7_hopsOf 12 = .ok (.ifCond .ne 7, 3) := by decide +kernel
theorem dX7_hopsOf_15 : decode cX7_hopsOf 15 = .ok (.iconst (-1), 1) := by decide +kernel
theorem dX7_hopsOf_16 : decode cX7_hopsOf 16 = .ok (.goto 22, 3) := by decide +kernel
theorem dX7_hopsOf_19 : decode cX7_hopsOf 19 = .ok (.aload_n 0, 1) := by decide +kernel
theorem dX7_hopsOf_20 : decode cX7_hopsOf 20 = .ok (.iload_n 1, 1) := by decide +kernel
theorem dX7_hopsOf_21 : decode cX7_hopsOf 21 = .ok (.iload_n 2, 1) := by decide +kernel
theorem dX7_hopsOf_22 : decode cX7_hopsOf 22 = .ok (.invokevirtual 155, 3) := by decide +kernel
theorem dX7_hopsOf_25 : decode cX7_hopsOf 25 = .ok (.ifCond .eq 7, 3) := by decide +kernel
theorem dX7_hopsOf_28 : decode cX7_hopsOf 28 = .ok (.iconst 0, 1) := by decide +kernel
theorem dX7_hopsOf_29 : decode cX7_hopsOf 29 = .ok (.goto 9, 3) := by decide +kernel
theorem dX7_hopsOf_32 : decode cX7_hopsOf 32 = .ok (.aload_n 0, 1) := by decide +kernel
theorem dX7_hopsOf_33 : decode cX7_hopsOf 33 = .ok (.getfield 56, 3) := by decide +kernel
theorem dX7_hopsOf_36 : decode cX7_hopsOf 36 = .ok (.iload_n 2, 1) := by decide +kernel
theorem dX7_hopsOf_37 : decode cX7_hopsOf 37 = .ok (.iaload, 1) := by decide +kernel
theorem dX7_hopsOf_38 : decode cX7_hopsOf 38 = .ok (.ireturn, 1) := by decide +kernel
theorem dX7_allMoves_0 : decode cX7_allMoves 0 = .ok (.iconst 0, 1) := by decide +kernel
theorem dX7_allMoves_1 : decode cX7_allMoves 1 = .ok (.istore_n 1, 1) := by decide +kernel
theorem dX7_allMoves_2 : decode cX7_allMoves 2 = .ok (.iconst 0, 1) := by decide +kernel
theorem dX7_allMoves_3 : decode cX7_allMoves 3 = .ok (.istore_n 2, 1) := by decide +kernel
theorem dX7_allMoves_4 : decode cX7_allMoves 4 = .ok (.iload_n 2, 1) := by decide +kernel
theorem dX7_allMoves_5 : decode cX7_allMoves 5 = .ok (.bipush 121, 2) := by decide +kernel
theorem dX7_allMoves_7 : decode cX7_allMoves 7 = .ok (.if_icmp .ge 17, 3) := by decide +kernel
theorem dX7_allMoves_10 : decode cX7_allMoves 10 = .ok (.iload_n 1, 1) := by decide +kernel
theorem dX7_allMoves_11 : decode cX7_allMoves 11 = .ok (.aload_n 0, 1) := by decide +kernel
theorem dX7_allMoves_12 : decode cX7_allMoves 12 = .ok (.iload_n 2, 1) := by decide +kernel
theorem dX7_allMoves_13 : decode cX7_allMoves 13 = .ok (.invokevirtual 161, 3) := by decide +kernel
theorem dX7_allMoves_16 : decode cX7_allMoves 16 = .ok (.iadd, 1) := by decide +kernel
theorem dX7_allMoves_17 : decode cX7_allMoves 17 = .ok (.istore_n 1, 1) := by decide +kernel
theorem dX7_allMoves_18 : decode cX7_allMoves 18 = .ok (.iinc 2 1, 3) := by decide +kernel
theorem dX7_allMoves_21 : decode cX7_allMoves 21 = .ok (.goto (-17), 3) := by decide +kernel
theorem dX7_allMoves_24 : decode cX7_allMoves 24 = .ok (.iload_n 1, 1) := by decide +kernel
theorem dX7_allMoves_25 : decode cX7_allMoves 25 = .ok (.ireturn, 1) := by decide +kernel
theorem dX7_turn_0 : decode cX7_turn 0 = .ok (.aload_n 0, 1) := by decide +kernel
theorem dX7_turn_1 : decode cX7_turn 1 = .ok (.iconst 0, 1) := by decide +kernel
theorem dX7_turn_2 : decode cX7_turn 2 = .ok (.putfield 86, 3) := by decide +kernel
theorem dX7_turn_5 : decode cX7_turn 5 = .ok (.aload_n 0, 1) := by decide +kernel
theorem dX7_turn_6 : decode cX7_turn 6 = .ok (.getfield 83, 3) := by decide +kernel
theorem dX7_turn_9 : decode cX7_turn 9 = .ok (.ireturn, 1) := by decide +kernel
theorem dX7_made_0 : decode cX7_made 0 = .ok (.aload_n 0, 1) := by decide +kernel
theorem dX7_made_1 : decode cX7_made 1 = .ok (.iconst 0, 1) := by decide +kernel
theorem dX7_made_2 : decode cX7_made 2 = .ok (.putfield 86, 3) := by decide +kernel
theorem dX7_made_5 : decode cX7_made 5 = .ok (.aload_n 0, 1) := by decide +kernel
theorem dX7_made_6 : decode cX7_made 6 = .ok (.getfield 103, 3) := by decide +kernel
theorem dX7_made_9 : decode cX7_made 9 = .ok (.ireturn, 1) := by decide +kernel
theorem dX7_ends_0 : decode cX7_ends 0 = .ok (.aload_n 0, 1) := by decide +kernel
theorem dX7_ends_1 : decode cX7_ends 1 = .ok (.iload_n 1, 1) := by decide +kernel
theorem dX7_ends_2 : decode cX7_ends 2 = .ok (.invokestatic 124, 3) := by decide +kernel
theorem dX7_ends_5 : decode cX7_ends 5 = .ok (.ifCond .eq 7, 3) := by decide +kernel
theorem dX7_ends_8 : decode cX7_ends 8 = .ok (.iconst 0, 1) := by decide +kernel
theorem dX7_ends_9 : decode cX7_ends 9 = .ok (.goto 4, 3) := by decide +kernel
theorem dX7_ends_12 : decode cX7_ends 12 = .ok (.iconst 1, 1) := by decide +kernel
theorem dX7_ends_13 : decode cX7_ends 13 = .ok (.invokevirtual 96, 3) := by decide +kernel
theorem dX7_ends_16 : decode cX7_ends 16 = .ok (.ifCond .eq 11, 3) := by decide +kernel
theorem dX7_ends_19 : decode cX7_ends 19 = .ok (.aload_n 0, 1) := by decide +kernel
theorem dX7_ends_20 : decode cX7_ends 20 = .ok (.iload_n 1, 1) := by decide +kernel
theorem dX7_ends_21 : decode cX7_ends 21 = .ok (.invokevirtual 161, 3) := by decide +kernel
theorem dX7_ends_24 : decode cX7_ends 24 = .ok (.goto 4, 3) := by decide +kernel
theorem dX7_ends_27 : decode cX7_ends 27 = .ok (.iconst 0, 1) := by decide +kernel
theorem dX7_ends_28 : decode cX7_ends 28 = .ok (.ireturn, 1) := by decide +kernel
theorem dX7_endAt_0 : decode cX7_endAt 0 = .ok (.iload_n 1, 1) := by decide +kernel
theorem dX7_endAt_1 : decode cX7_endAt 1 = .ok (.invokestatic 124, 3) := by decide +kernel
theorem dX7_endAt_4 : decode cX7_endAt 4 = .ok (.ifCond .eq 11, 3) := by decide +kernel
theorem dX7_endAt_7 : decode cX7_endAt 7 = .ok (.aload_n 0, 1) := by decide +kernel
theorem dX7_endAt_8 : decode cX7_endAt 8 = .ok (.iload_n 1, 1) := by decide +kernel
theorem dX7_endAt_9 : decode cX7_endAt 9 = .ok (.invokevirtual 161, 3) := by decide +kernel
theorem dX7_endAt_12 : decode cX7_endAt 12 = .ok (.goto 4, 3) := by decide +kernel
theorem dX7_endAt_15 : decode cX7_endAt 15 = .ok (.iconst 0, 1) := by decide +kernel
theorem dX7_endAt_16 : decode cX7_endAt 16 = .ok (.istore_n 3, 1) := by decide +kernel
theorem dX7_endAt_17 : decode cX7_endAt 17 = .ok (.aload_n 0, 1) := by decide +kernel
theorem dX7_endAt_18 : decode cX7_endAt 18 = .ok (.iload_n 2, 1) := by decide +kernel
theorem dX7_endAt_19 : decode cX7_endAt 19 = .ok (.iconst 0, 1) := by decide +kernel
theorem dX7_endAt_20 : decode cX7_endAt 20 = .ok (.iload_n 3, 1) := by decide +kernel
theorem dX7_endAt_21 : decode cX7_endAt 21 = .ok (.iconst 1, 1) := by decide +kernel
theorem dX7_endAt_22 : decode cX7_endAt 22 = .ok (.isub, 1) := by decide +kernel
theorem dX7_endAt_23 : decode cX7_endAt 23 = .ok (.invokestatic 89, 3) := by decide +kernel
theorem dX7_endAt_26 : decode cX7_endAt 26 = .ok (.ifCond .eq 7, 3) := by decide +kernel
theorem dX7_endAt_29 : decode cX7_endAt 29 = .ok (.iconst 0, 1) := by decide +kernel
theorem dX7_endAt_30 : decode cX7_endAt 30 = .ok (.goto 4, 3) := by decide +kernel
theorem dX7_endAt_33 : decode cX7_endAt 33 = .ok (.iconst 1, 1) := by decide +kernel
theorem dX7_endAt_34 : decode cX7_endAt 34 = .ok (.invokevirtual 96, 3) := by decide +kernel
theorem dX7_endAt_37 : decode cX7_endAt 37 = .ok (.ifCond .ne 5, 3) := by decide +kernel
theorem dX7_endAt_40 : decode cX7_endAt 40 = .ok (.iconst 0, 1) := by decide +kernel
theorem dX7_endAt_41 : decode cX7_endAt 41 = .ok (.ireturn, 1) := by decide +kernel
theorem dX7_endAt_42 : decode cX7_endAt 42 = .ok (.iload_n 2, 1) := by decide +kernel
theorem dX7_endAt_43 : decode cX7_endAt 43 = .ok (.istore 4, 2) := by decide +kernel
theorem dX7_endAt_45 : decode cX7_endAt 45 = .ok (.iconst (-1), 1) := by decide +kernel
theorem dX7_endAt_46 : decode cX7_endAt 46 = .ok (.istore 5, 2) := by decide +kernel
theorem dX7_endAt_48 : decode cX7_endAt 48 = .ok (.iconst 0, 1) := by decide +kernel
theorem dX7_endAt_49 : decode cX7_endAt 49 = .ok (.istore 6, 2) := by decide +kernel
theorem dX7_endAt_51 : decode cX7_endAt 51 = .ok (.iload 6, 2) := by decide +kernel
theorem dX7_endAt_53 : decode cX7_endAt 53 = .ok (.bipush 121, 2) := by decide +kernel
theorem dX7_endAt_55 : decode cX7_endAt 55 = .ok (.if_icmp .ge 58, 3) := by decide +kernel
theorem dX7_endAt_58 : decode cX7_endAt 58 = .ok (.iload 5, 2) := by decide +kernel
theorem dX7_endAt_60 : decode cX7_endAt 60 = .ok (.iconst (-1), 1) := by decide +kernel
theorem dX7_endAt_61 : decode cX7_endAt 61 = .ok (.if_icmp .ne 52, 3) := by decide +kernel
theorem dX7_endAt_64 : decode cX7_endAt 64 = .ok (.aload_n 0, 1) := by decide +kernel
theorem dX7_endAt_65 : decode cX7_endAt 65 = .ok (.getfield 62, 3) := by decide +kernel
theorem dX7_endAt_68 : decode cX7_endAt 68 = .ok (.iload 6, 2) := by decide +kernel
theorem dX7_endAt_70 : decode cX7_endAt 70 = .ok (.baload, 1) := by decide +kernel
theorem dX7_endAt_71 : decode cX7_endAt 71 = .ok (.ifCond .eq 13, 3) := by decide +kernel
theorem dX7_endAt_74 : decode cX7_endAt 74 = .ok (.iload 4, 2) := by decide +kernel
theorem dX7_endAt_76 : decode cX7_endAt 76 = .ok (.ifCond .ne 8, 3) := by decide +kernel
theorem dX7_endAt_79 : decode cX7_endAt 79 = .ok (.iload 6, 2) := by decide +kernel
theorem dX7_endAt_81 : decode cX7_endAt 81 = .ok (.goto 4, 3) := by decide +kernel
theorem dX7_endAt_84 : decode cX7_endAt 84 = .ok (.iconst (-1), 1) := by decide +kernel
theorem dX7_endAt_85 : decode cX7_endAt 85 = .ok (.istore 5, 2) := by decide +kernel
theorem dX7_endAt_87 : decode cX7_endAt 87 = .ok (.iload 4, 2) := by decide +kernel
theorem dX7_endAt_89 : decode cX7_endAt 89 = .ok (.aload_n 0, 1) := by decide +kernel
theorem dX7_endAt_90 : decode cX7_endAt 90 = .ok (.getfield 62, 3) := by decide +kernel
theorem dX7_endAt_93 : decode cX7_endAt 93 = .ok (.iload 6, 2) := by decide +kernel
theorem dX7_endAt_95 : decode cX7_endAt 95 = .ok (.baload, 1) := by decide +kernel
theorem dX7_endAt_96 : decode cX7_endAt 96 = .ok (.ifCond .eq 7, 3) := by decide +kernel
theorem dX7_endAt_99 : decode cX7_endAt 99 = .ok (.iconst 1, 1) := by decide +kernel
theorem dX7_endAt_100 : decode cX7_endAt 100 = .ok (.goto 4, 3) := by decide +kernel
theorem dX7_endAt_103 : decode cX7_endAt 103 = .ok (.iconst 0, 1) := by decide +kernel
theorem dX7_endAt_104 : decode cX7_endAt 104 = .ok (.isub, 1) := by decide +kernel
theorem dX7_endAt_105 : decode cX7_endAt 105 = .ok (.istore 4, 2) := by decide +kernel
theorem dX7_endAt_107 : decode cX7_endAt 107 = .ok (.iinc 6 1, 3) := by decide +kernel
theorem dX7_endAt_110 : decode cX7_endAt 110 = .ok (.goto (-59), 3) := by decide +kernel
theorem dX7_endAt_113 : decode cX7_endAt 113 = .ok (.iload 5, 2) := by decide +kernel
theorem dX7_endAt_115 : decode cX7_endAt 115 = .ok (.ireturn, 1) := by decide +kernel
theorem dX7_moves_0 : decode cX7_moves 0 = .ok (.aload_n 0, 1) := by decide +kernel
theorem dX7_moves_1 : decode cX7_moves 1 = .ok (.iconst 0, 1) := by decide +kernel
theorem dX7_moves_2 : decode cX7_moves 2 = .ok (.putfield 86, 3) := by decide +kernel
theorem dX7_moves_5 : decode cX7_moves 5 = .ok (.aload_n 0, 1) := by decide +kernel
theorem dX7_moves_6 : decode cX7_moves 6 = .ok (.invokevirtual 140, 3) := by decide +kernel
theorem dX7_moves_9 : decode cX7_moves 9 = .ok (.ireturn, 1) := by decide +kernel
theorem dX7_chainAt_0 : decode cX7_chainAt 0 = .ok (.aload_n 0, 1) := by decide +kernel
theorem dX7_chainAt_1 : decode cX7_chainAt 1 = .ok (.iload_n 1, 1) := by decide +kernel
theorem dX7_chainAt_2 : decode cX7_chainAt 2 = .ok (.invokestatic 124, 3) := by decide +kernel
theorem dX7_chainAt_5 : decode cX7_chainAt 5 = .ok (.ifCond .eq 14, 3) := by decide +kernel
theorem dX7_chainAt_8 : decode cX7_chainAt 8 = .ok (.iload_n 2, 1) := by decide +kernel
theorem dX7_chainAt_9 : decode cX7_chainAt 9 = .ok (.invokestatic 124, 3) := by decide +kernel
theorem dX7_chainAt_12 : decode cX7_chainAt 12 = .ok (.ifCond .eq 7, 3) := by decide +kernel
theorem dX7_chainAt_15 : decode cX7_chainAt 15 = .ok (.iload_n 3, 1) := by decide +kernel
theorem dX7_chainAt_16 : decode cX7_chainAt 16 = .ok (.ifCond .ge 7, 3) := by decide +kernel
theorem dX7_chainAt_19 : decode cX7_chainAt 19 = .ok (.iconst 1, 1) := by decide +kernel
theorem dX7_chainAt_20 : decode cX7_chainAt 20 = .ok (.goto 4, 3) := by decide +kernel
theorem dX7_chainAt_23 : decode cX7_chainAt 23 = .ok (.iconst 0, 1) := by decide +kernel
theorem dX7_chainAt_24 : decode cX7_chainAt 24 = .ok (.invokevirtual 96, 3) := by decide +kernel
theorem dX7_chainAt_27 : decode cX7_chainAt 27 = .ok (.ifCond .ne 5, 3) := by decide +kernel
theorem dX7_chainAt_30 : decode cX7_chainAt 30 = .ok (.iconst 0, 1) := by decide +kernel
theorem dX7_chainAt_31 : decode cX7_chainAt 31 = .ok (.ireturn, 1) := by decide +kernel
theorem dX7_chainAt_32 : decode cX7_chainAt 32 = .ok (.aload_n 0, 1) := by decide +kernel
theorem dX7_chainAt_33 : decode cX7_chainAt 33 = .ok (.iload_n 1, 1) := by decide +kernel
theorem dX7_chainAt_34 : decode cX7_chainAt 34 = .ok (.iload_n 2, 1) := by decide +kernel
theorem dX7_chainAt_35 : decode cX7_chainAt 35 = .ok (.invokevirtual 127, 3) := by decide +kernel
theorem dX7_chainAt_38 : decode cX7_chainAt 38 = .ok (.istore 4, 2) := by decide +kernel
theorem dX7_chainAt_40 : decode cX7_chainAt 40 = .ok (.iload 4, 2) := by decide +kernel
theorem dX7_chainAt_42 : decode cX7_chainAt 42 = .ok (.iconst (-1), 1) := by decide +kernel
theorem dX7_chainAt_43 : decode cX7_chainAt 43 = .ok (.if_icmp .eq 9, 3) := by decide +kernel
theorem dX7_chainAt_46 : decode cX7_chainAt 46 = .ok (.iload_n 3, 1) := by decide +kernel
theorem dX7_chainAt_47 : decode cX7_chainAt 47 = .ok (.iload 4, 2) := by decide +kernel
theorem dX7_chainAt_49 : decode cX7_chainAt 49 = .ok (.if_icmp .lt 5, 3) := by decide +kernel
theorem dX7_chainAt_52 : decode cX7_chainAt 52 = .ok (.iconst (-1), 1) := by decide +kernel
theorem dX7_chainAt_53 : decode cX7_chainAt 53 = .ok (.ireturn, 1) := by decide +kernel
theorem dX7_chainAt_54 : decode cX7_chainAt 54 = .ok (.aload_n 0, 1) := by decide +kernel
theorem dX7_chainAt_55 : decode cX7_chainAt 55 = .ok (.iload_n 2, 1) := by decide +kernel
theorem dX7_chainAt_56 : decode cX7_chainAt 56 = .ok (.iload_n 1, 1) := by decide +kernel
theorem dX7_chainAt_57 : decode cX7_chainAt 57 = .ok (.invokevirtual 152, 3) := by decide +kernel
theorem dX7_chainAt_60 : decode cX7_chainAt 60 = .ok (.iload_n 1, 1) := by decide +kernel
theorem dX7_chainAt_61 : decode cX7_chainAt 61 = .ok (.istore 5, 2) := by decide +kernel
theorem dX7_chainAt_63 : decode cX7_chainAt 63 = .ok (.iconst 0, 1) := by decide +kernel
theorem dX7_chainAt_64 : decode cX7_chainAt 64 = .ok (.istore 6, 2) := by decide +kernel
theorem dX7_chainAt_66 : decode cX7_chainAt 66 = .ok (.iload 6, 2) := by decide +kernel
theorem dX7_chainAt_68 : decode cX7_chainAt 68 = .ok (.iload_n 3, 1) := by decide +kernel
theorem dX7_chainAt_69 : decode cX7_chainAt 69 = .ok (.if_icmp .gt 88, 3) := by decide +kernel
theorem dX7_chainAt_72 : decode cX7_chainAt 72 = .ok (.iconst (-1), 1) := by decide +kernel
theorem dX7_chainAt_73 : decode cX7_chainAt 73 = .ok (.istore 7, 2) := by decide +kernel
theorem dX7_chainAt_75 : decode cX7_chainAt 75 = .ok (.iconst 0, 1) := by decide +kernel
theorem dX7_chainAt_76 : decode cX7_chainAt 76 = .ok (.istore 8, 2) := by decide +kernel
theorem dX7_chainAt_78 : decode cX7_chainAt 78 = .ok (.iload 8, 2) := by decide +kernel
theorem dX7_chainAt_80 : decode cX7_chainAt 80 = .ok (.bipush 6, 2) := by decide +kernel
theorem dX7_chainAt_82 : decode cX7_chainAt 82 = .ok (.if_icmp .ge 65, 3) := by decide +kernel
theorem dX7_chainAt_85 : decode cX7_chainAt 85 = .ok (.aload_n 0, 1) := by decide +kernel
theorem dX7_chainAt_86 : decode cX7_chainAt 86 = .ok (.iload 5, 2) := by decide +kernel
theorem dX7_chainAt_88 : decode cX7_chainAt 88 = .ok (.iload 8, 2) := by decide +kernel
theorem dX7_chainAt_90 : decode cX7_chainAt 90 = .ok (.iload_n 1, 1) := by decide +kernel
theorem dX7_chainAt_91 : decode cX7_chainAt 91 = .ok (.invokevirtual 148, 3) := by decide +kernel
theorem dX7_chainAt_94 : decode cX7_chainAt 94 = .ok (.istore 9, 2) := by decide +kernel
theorem dX7_chainAt_96 : decode cX7_chainAt 96 = .ok (.iload 9, 2) := by decide +kernel
theorem dX7_chainAt_98 : decode cX7_chainAt 98 = .ok (.iconst (-1), 1) := by decide +kernel
theorem dX7_chainAt_99 : decode cX7_chainAt 99 = .ok (.if_icmp .eq 38, 3) := by decide +kernel
theorem dX7_chainAt_102 : decode cX7_chainAt 102 = .ok (.aload_n 0, 1) := by decide +kernel
theorem dX7_chainAt_103 : decode cX7_chainAt 103 = .ok (.getfield 56, 3) := by decide +kernel
theorem dX7_chainAt_106 : decode cX7_chainAt 106 = .ok (.iload 9, 2) := by decide +kernel
theorem dX7_chainAt_108 : decode cX7_chainAt 108 = .ok (.iaload, 1) := by decide +kernel
theorem dX7_chainAt_109 : decode cX7_chainAt 109 = .ok (.iload 4, 2) := by decide +kernel
theorem dX7_chainAt_111 : decode cX7_chainAt 111 = .ok (.iconst 1, 1) := by decide +kernel
theorem dX7_chainAt_112 : decode cX7_chainAt 112 = .ok (.isub, 1) := by decide +kernel
theorem dX7_chainAt_113 : decode cX7_chainAt 113 = .ok (.iload 6, 2) := by decide +kernel
theorem dX7_chainAt_115 : decode cX7_chainAt 115 = .ok (.isub, 1) := by decide +kernel
theorem dX7_chainAt_116 : decode cX7_chainAt 116 = .ok (.if_icmp .ne 21, 3) := by decide +kernel
theorem dX7_chainAt_119 : decode cX7_chainAt 119 = .ok (.iload 7, 2) := by decide +kernel
theorem dX7_chainAt_121 : decode cX7_chainAt 121 = .ok (.iconst (-1), 1) := by decide +kernel
theorem dX7_chainAt_122 : decode cX7_chainAt 122 = .ok (.if_icmp .eq 10, 3) := by decide +kernel
theorem dX7_chainAt_125 : decode cX7_chainAt 125 = .ok (.iload 9, 2) := by decide +kernel
theorem dX7_chainAt_127 : decode cX7_chainAt 127 = .ok (.iload 7, 2) := by decide +kernel
theorem dX7_chainAt_129 : decode cX7_chainAt 129 = .ok (.if_icmp .ge 8, 3) := by decide +kernel
theorem dX7_chainAt_132 : decode cX7_chainAt 132 = .ok (.iload 9, 2) := by decide +kernel
theorem dX7_chainAt_134 : decode cX7_chainAt 134 = .ok (.goto 5, 3) := by decide +kernel
theorem dX7_chainAt_137 : decode cX7_chainAt 137 = .ok (.iload 7, 2) := by decide +kernel
theorem dX7_chainAt_139 : decode cX7_chainAt 139 = .ok (.istore 7, 2) := by decide +kernel
theorem dX7_chainAt_141 : decode cX7_chainAt 141 = .ok (.iinc 8 1, 3) := by decide +kernel
theorem dX7_chainAt_144 : decode cX7_chainAt 144 = .ok (.goto (-66), 3) := by decide +kernel
theorem dX7_chainAt_147 : decode cX7_chainAt 147 = .ok (.iload 7, 2) := by decide +kernel
theorem dX7_chainAt_149 : decode cX7_chainAt 149 = .ok (.istore 5, 2) := by decide +kernel
theorem dX7_chainAt_151 : decode cX7_chainAt 151 = .ok (.iinc 6 1, 3) := by decide +kernel
theorem dX7_chainAt_154 : decode cX7_chainAt 154 = .ok (.goto (-88), 3) := by decide +kernel
theorem dX7_chainAt_157 : decode cX7_chainAt 157 = .ok (.iload 5, 2) := by decide +kernel
theorem dX7_chainAt_159 : decode cX7_chainAt 159 = .ok (.ireturn, 1) := by decide +kernel
theorem dX7_hops_0 : decode cX7_hops 0 = .ok (.aload_n 0, 1) := by decide +kernel
theorem dX7_hops_1 : decode cX7_hops 1 = .ok (.iload_n 1, 1) := by decide +kernel
theorem dX7_hops_2 : decode cX7_hops 2 = .ok (.iload_n 2, 1) := by decide +kernel
theorem dX7_hops_3 : decode cX7_hops 3 = .ok (.invokevirtual 144, 3) := by decide +kernel
theorem dX7_hops_6 : decode cX7_hops 6 = .ok (.ifCond .eq 12, 3) := by decide +kernel
theorem dX7_hops_9 : decode cX7_hops 9 = .ok (.aload_n 0, 1) := by decide +kernel
theorem dX7_hops_10 : decode cX7_hops 10 = .ok (.iload_n 1, 1) := by decide +kernel
theorem dX7_hops_11 : decode cX7_hops 11 = .ok (.iload_n 2, 1) := by decide +kernel
theorem dX7_hops_12 : decode cX7_hops 12 = .ok (.invokevirtual 127, 3) := by decide +kernel
theorem dX7_hops_15 : decode cX7_hops 15 = .ok (.goto 4, 3) := by decide +kernel
theorem dX7_hops_18 : decode cX7_hops 18 = .ok (.iconst 0, 1) := by decide +kernel
theorem dX7_hops_19 : decode cX7_hops 19 = .ok (.ireturn, 1) := by decide +kernel
theorem dX7_finished_0 : decode cX7_finished 0 = .ok (.aload_n 0, 1) := by decide +kernel
theorem dX7_finished_1 : decode cX7_finished 1 = .ok (.iload_n 1, 1) := by decide +kernel
theorem dX7_finished_2 : decode cX7_finished 2 = .ok (.iconst 0, 1) := by decide +kernel
theorem dX7_finished_3 : decode cX7_finished 3 = .ok (.iconst 5, 1) := by decide +kernel
theorem dX7_finished_4 : decode cX7_finished 4 = .ok (.invokestatic 89, 3) := by decide +kernel
theorem dX7_finished_7 : decode cX7_finished 7 = .ok (.ifCond .eq 7, 3) := by decide +kernel
theorem dX7_finished_10 : decode cX7_finished 10 = .ok (.iconst 0, 1) := by decide +kernel
theorem dX7_finished_11 : decode cX7_finished 11 = .ok (.goto 4, 3) := by decide +kernel
theorem dX7_finished_14 : decode cX7_finished 14 = .ok (.iconst 1, 1) := by decide +kernel
theorem dX7_finished_15 : decode cX7_finished 15 = .ok (.invokevirtual 96, 3) := by decide +kernel
theorem dX7_finished_18 : decode cX7_finished 18 = .ok (.ifCond .eq 24, 3) := by decide +kernel
theorem dX7_finished_21 : decode cX7_finished 21 = .ok (.iload_n 1, 1) := by decide +kernel
theorem dX7_finished_22 : decode cX7_finished 22 = .ok (.aload_n 0, 1) := by decide +kernel
theorem dX7_finished_23 : decode cX7_finished 23 = .ok (.getfield 109, 3) := by decide +kernel
theorem dX7_finished_26 : decode cX7_finished 26 = .ok (.if_icmp .ge 12, 3) := by decide +kernel
theorem dX7_finished_29 : decode cX7_finished 29 = .ok (.aload_n 0, 1) := by decide +kernel
theorem dX7_finished_30 : decode cX7_finished 30 = .ok (.getfield 38, 3) := by decide +kernel
theorem dX7_finished_33 : decode cX7_finished 33 = .ok (.iload_n 1, 1) := by decide +kernel
theorem dX7_finished_34 : decode cX7_finished 34 = .ok (.iaload, 1) := by decide +kernel
theorem dX7_finished_35 : decode cX7_finished 35 = .ok (.goto 8, 3) := by decide +kernel
theorem dX7_finished_38 : decode cX7_finished 38 = .ok (.iconst (-1), 1) := by decide +kernel
theorem dX7_finished_39 : decode cX7_finished 39 = .ok (.goto 4, 3) := by decide +kernel
theorem dX7_finished_42 : decode cX7_finished 42 = .ok (.iconst 0, 1) := by decide +kernel
theorem dX7_finished_43 : decode cX7_finished 43 = .ok (.ireturn, 1) := by decide +kernel
theorem dX7_isOut_0 : decode cX7_isOut 0 = .ok (.aload_n 0, 1) := by decide +kernel
theorem dX7_isOut_1 : decode cX7_isOut 1 = .ok (.iload_n 1, 1) := by decide +kernel
theorem dX7_isOut_2 : decode cX7_isOut 2 = .ok (.iconst 0, 1) := by decide +kernel
theorem dX7_isOut_3 : decode cX7_isOut 3 = .ok (.iconst 5, 1) := by decide +kernel
theorem dX7_isOut_4 : decode cX7_isOut 4 = .ok (.invokestatic 89, 3) := by decide +kernel
theorem dX7_isOut_7 : decode cX7_isOut 7 = .ok (.ifCond .eq 7, 3) := by decide +kernel
theorem dX7_isOut_10 : decode cX7_isOut 10 = .ok (.iconst 0, 1) := by decide +kernel
theorem dX7_isOut_11 : decode cX7_isOut 11 = .ok (.goto 4, 3) := by decide +kernel
theorem dX7_isOut_14 : decode cX7_isOut 14 = .ok (.iconst 1, 1) := by decide +kernel
theorem dX7_isOut_15 : decode cX7_isOut 15 = .ok (.invokevirtual 96, 3) := by decide +kernel
theorem dX7_isOut_18 : decode cX7_isOut 18 = .ok (.ifCond .eq 19, 3) := by decide +kernel
theorem dX7_isOut_21 : decode cX7_isOut 21 = .ok (.aload_n 0, 1) := by decide +kernel
theorem dX7_isOut_22 : decode cX7_isOut 22 = .ok (.getfield 106, 3) := by decide +kernel
theorem dX7_isOut_25 : decode cX7_isOut 25 = .ok (.iload_n 1, 1) := by decide +kernel
theorem dX7_isOut_26 : decode cX7_isOut 26 = .ok (.ishr, 1) := by decide +kernel
theorem dX7_isOut_27 : decode cX7_isOut 27 = .ok (.iconst 1, 1) := by decide +kernel
theorem dX7_isOut_28 : decode cX7_isOut 28 = .ok (.iand, 1) := by decide +kernel
theorem dX7_isOut_29 : decode cX7_isOut 29 = .ok (.iconst 1, 1) := by decide +kernel
theorem dX7_isOut_30 : decode cX7_isOut 30 = .ok (.if_icmp .ne 7, 3) := by decide +kernel
theorem dX7_isOut_33 : decode cX7_isOut 33 = .ok (.iconst 1, 1) := by decide +kernel
theorem dX7_isOut_34 : decode cX7_isOut 34 = .ok (.goto 4, 3) := by decide +kernel
theorem dX7_isOut_37 : decode cX7_isOut 37 = .ok (.iconst 0, 1) := by decide +kernel
theorem dX7_isOut_38 : decode cX7_isOut 38 = .ok (.ireturn, 1) := by decide +kernel
theorem dX7_wayOf_0 : decode cX7_wayOf 0 = .ok (.iconst 0, 1) := by decide +kernel
theorem dX7_wayOf_1 : decode cX7_wayOf 1 = .ok (.istore_n 2, 1) := by decide +kernel
theorem dX7_wayOf_2 : decode cX7_wayOf 2 = .ok (.iconst 0, 1) := by decide +kernel
theorem dX7_wayOf_3 : decode cX7_wayOf 3 = .ok (.istore_n 3, 1) := by decide +kernel
theorem dX7_wayOf_4 : decode cX7_wayOf 4 = .ok (.iload_n 3, 1) := by decide +kernel
theorem dX7_wayOf_5 : decode cX7_wayOf 5 = .ok (.bipush 121, 2) := by decide +kernel
theorem dX7_wayOf_7 : decode cX7_wayOf 7 = .ok (.if_icmp .ge 29, 3) := by decide +kernel
theorem dX7_wayOf_10 : decode cX7_wayOf 10 = .ok (.aload_n 0, 1) := by decide +kernel
theorem dX7_wayOf_11 : decode cX7_wayOf 11 = .ok (.getfield 32, 3) := by decide +kernel
theorem dX7_wayOf_14 : decode cX7_wayOf 14 = .ok (.iload_n 3, 1) := by decide +kernel
theorem dX7_wayOf_15 : decode cX7_wayOf 15 = .ok (.iaload, 1) := by decide +kernel
theorem dX7_wayOf_16 : decode cX7_wayOf 16 = .ok (.iload_n 1, 1) := by decide +kernel
theorem dX7_wayOf_17 : decode cX7_wayOf 17 = .ok (.if_icmp .ne 13, 3) := by decide +kernel
theorem dX7_wayOf_20 : decode cX7_wayOf 20 = .ok (.aload_n 0, 1) := by decide +kernel
theorem dX7_wayOf_21 : decode cX7_wayOf 21 = .ok (.getfield 69, 3) := by decide +kernel
theorem dX7_wayOf_24 : decode cX7_wayOf 24 = .ok (.iload_n 2, 1) := by decide +kernel
theorem dX7_wayOf_25 : decode cX7_wayOf 25 = .ok (.iload_n 3, 1) := by decide +kernel
theorem dX7_wayOf_26 : decode cX7_wayOf 26 = .ok (.iastore, 1) := by decide +kernel
theorem dX7_wayOf_27 : decode cX7_wayOf 27 = .ok (.iinc 2 1, 3) := by decide +kernel
theorem dX7_wayOf_30 : decode cX7_wayOf 30 = .ok (.iinc 3 1, 3) := by decide +kernel
theorem dX7_wayOf_33 : decode cX7_wayOf 33 = .ok (.goto (-29), 3) := by decide +kernel
theorem dX7_wayOf_36 : decode cX7_wayOf 36 = .ok (.bipush 10, 2) := by decide +kernel
theorem dX7_wayOf_38 : decode cX7_wayOf 38 = .ok (.iload_n 1, 1) := by decide +kernel
theorem dX7_wayOf_39 : decode cX7_wayOf 39 = .ok (.iconst 3, 1) := by decide +kernel
theorem dX7_wayOf_40 : decode cX7_wayOf 40 = .ok (.iadd, 1) := by decide +kernel
theorem dX7_wayOf_41 : decode cX7_wayOf 41 = .ok (.bipush 6, 2) := by decide +kernel
theorem dX7_wayOf_43 : decode cX7_wayOf 43 = .ok (.irem, 1) := by decide +kernel
theorem dX7_wayOf_44 : decode cX7_wayOf 44 = .ok (.imul, 1) := by decide +kernel
theorem dX7_wayOf_45 : decode cX7_wayOf 45 = .ok (.istore_n 3, 1) := by decide +kernel
theorem dX7_wayOf_46 : decode cX7_wayOf 46 = .ok (.aload_n 0, 1) := by decide +kernel
theorem dX7_wayOf_47 : decode cX7_wayOf 47 = .ok (.getfield 66, 3) := by decide +kernel
theorem dX7_wayOf_50 : decode cX7_wayOf 50 = .ok (.iconst 0, 1) := by decide +kernel
theorem dX7_wayOf_51 : decode cX7_wayOf 51 = .ok (.iconst 0, 1) := by decide +kernel
theorem dX7_wayOf_52 : decode cX7_wayOf 52 = .ok (.iastore, 1) := by decide +kernel
theorem dX7_wayOf_53 : decode cX7_wayOf 53 = .ok (.iconst 1, 1) := by decide +kernel
theorem dX7_wayOf_54 : decode cX7_wayOf 54 = .ok (.istore 4, 2) := by decide +kernel
theorem dX7_wayOf_56 : decode cX7_wayOf 56 = .ok (.iload 4, 2) := by decide +kernel
theorem dX7_wayOf_58 : decode cX7_wayOf 58 = .ok (.sipush 1024, 3) := by decide +kernel
theorem dX7_wayOf_61 : decode cX7_wayOf 61 = .ok (.if_icmp .ge 152, 3) := by decide +kernel
theorem dX7_wayOf_64 : decode cX7_wayOf 64 = .ok (.iconst (-1), 1) := by decide +kernel
theorem dX7_wayOf_65 : decode cX7_wayOf 65 = .ok (.istore 5, 2) := by decide +kernel
theorem dX7_wayOf_67 : decode cX7_wayOf 67 = .ok (.iconst 0, 1) := by decide +kernel
theorem dX7_wayOf_68 : decode cX7_wayOf 68 = .ok (.istore 6, 2) := by decide +kernel
theorem dX7_wayOf_70 : decode cX7_wayOf 70 = .ok (.iload 6, 2) := by decide +kernel
theorem dX7_wayOf_72 : decode cX7_wayOf 72 = .ok (.bipush 10, 2) := by decide +kernel
theorem dX7_wayOf_74 : decode cX7_wayOf 74 = .ok (.if_icmp .ge 21, 3) := by decide +kernel
theorem dX7_wayOf_77 : decode cX7_wayOf 77 = .ok (.iload 5, 2) := by decide +kernel
theorem dX7_wayOf_79 : decode cX7_wayOf 79 = .ok (.iload 4, 2) := by decide +kernel
theorem dX7_wayOf_81 : decode cX7_wayOf 81 = .ok (.iload 6, 2) := by decide +kernel
theorem dX7_wayOf_83 : decode cX7_wayOf 83 = .ok (.ishr, 1) := by decide +kernel
theorem dX7_wayOf_84 : decode cX7_wayOf 84 = .ok (.iconst 1, 1) := by decide +kernel
theorem dX7_wayOf_85 : decode cX7_wayOf 85 = .ok (.iand, 1) := by decide +kernel
theorem dX7_wayOf_86 : decode cX7_wayOf 86 = .ok (.iadd, 1) := by decide +kernel
theorem dX7_wayOf_87 : decode cX7_wayOf 87 = .ok (.istore 5, 2) := by decide +kernel
theorem dX7_wayOf_89 : decode cX7_wayOf 89 = .ok (.iinc 6 1, 3) := by decide +kernel
theorem dX7_wayOf_92 : decode cX7_wayOf 92 = .ok (.goto (-22), 3) := by decide +kernel
theorem dX7_wayOf_95 : decode cX7_wayOf 95 = .ok (.aload_n 0, 1) := by decide +kernel
theorem dX7_wayOf_96 : decode cX7_wayOf 96 = .ok (.getfield 66, 3) := by decide +kernel
theorem dX7_wayOf_99 : decode cX7_wayOf 99 = .ok (.iload 4, 2) := by decide +kernel
theorem dX7_wayOf_101 : decode cX7_wayOf 101 = .ok (.ldc 165, 2) := by decide +kernel
theorem dX7_wayOf_103 : decode cX7_wayOf 103 = .ok (.iastore, 1) := by decide +kernel
theorem dX7_wayOf_104 : decode cX7_wayOf 104 = .ok (.iconst 0, 1) := by decide +kernel
theorem dX7_wayOf_105 : decode cX7_wayOf 105 = .ok (.istore 6, 2) := by decide +kernel
theorem dX7_wayOf_107 : decode cX7_wayOf 107 = .ok (.iload 6, 2) := by decide +kernel
theorem dX7_wayOf_109 : decode cX7_wayOf 109 = .ok (.bipush 10, 2) := by decide +kernel
theorem dX7_wayOf_111 : decode cX7_wayOf 111 = .ok (.if_icmp .ge 96, 3) := by decide +kernel
theorem dX7_wayOf_114 : decode cX7_wayOf 114 = .ok (.iload 4, 2) := by decide +kernel
theorem dX7_wayOf_116 : decode cX7_wayOf 116 = .ok (.iload 6, 2) := by decide +kernel
theorem dX7_wayOf_118 : decode cX7_wayOf 118 = .ok (.ishr, 1) := by decide +kernel
theorem dX7_wayOf_119 : decode cX7_wayOf 119 = .ok (.iconst 1, 1) := by decide +kernel
theorem dX7_wayOf_120 : decode cX7_wayOf 120 = .ok (.iand, 1) := by decide +kernel
theorem dX7_wayOf_121 : decode cX7_wayOf 121 = .ok (.iconst 1, 1) := by decide +kernel
theorem dX7_wayOf_122 : decode cX7_wayOf 122 = .ok (.if_icmp .ne 44, 3) := by decide +kernel
theorem dX7_wayOf_125 : decode cX7_wayOf 125 = .ok (.aload_n 0, 1) := by decide +kernel
theorem dX7_wayOf_126 : decode cX7_wayOf 126 = .ok (.getfield 66, 3) := by decide +kernel
theorem dX7_wayOf_129 : decode cX7_wayOf 129 = .ok (.iload 4, 2) := by decide +kernel
theorem dX7_wayOf_131 : decode cX7_wayOf 131 = .ok (.iconst 1, 1) := by decide +kernel
theorem dX7_wayOf_132 : decode cX7_wayOf 132 = .ok (.iload 6, 2) := by decide +kernel
theorem dX7_wayOf_134 : decode cX7_wayOf 134 = .ok (.ishl, 1) := by decide +kernel
theorem dX7_wayOf_135 : decode cX7_wayOf 135 = .ok (.ixor, 1) := by decide +kernel
theorem dX7_wayOf_136 : decode cX7_wayOf 136 = .ok (.iaload, 1) := by decide +kernel
theorem dX7_wayOf_137 : decode cX7_wayOf 137 = .ok (.aload_n 0, 1) := by decide +kernel
theorem dX7_wayOf_138 : decode cX7_wayOf 138 = .ok (.getfield 22, 3) := by decide +kernel
theorem dX7_wayOf_141 : decode cX7_wayOf 141 = .ok (.bipush 121, 2) := by decide +kernel
theorem dX7_wayOf_143 : decode cX7_wayOf 143 = .ok (.aload_n 0, 1) := by decide +kernel
theorem dX7_wayOf_144 : decode cX7_wayOf 144 = .ok (.getfield 69, 3) := by decide +kernel
theorem dX7_wayOf_147 : decode cX7_wayOf 147 = .ok (.iload 5, 2) := by decide +kernel
theorem dX7_wayOf_149 : decode cX7_wayOf 149 = .ok (.iaload, 1) := by decide +kernel
theorem dX7_wayOf_150 : decode cX7_wayOf 150 = .ok (.imul, 1) := by decide +kernel
theorem dX7_wayOf_151 : decode cX7_wayOf 151 = .ok (.aload_n 0, 1) := by decide +kernel
theorem dX7_wayOf_152 : decode cX7_wayOf 152 = .ok (.getfield 25, 3) := by decide +kernel
theorem dX7_wayOf_155 : decode cX7_wayOf 155 = .ok (.iload_n 3, 1) := by decide +kernel
theorem dX7_wayOf_156 : decode cX7_wayOf 156 = .ok (.iload 6, 2) := by decide +kernel
theorem dX7_wayOf_158 : decode cX7_wayOf 158 = .ok (.iadd, 1) := by decide +kernel
theorem dX7_wayOf_159 : decode cX7_wayOf 159 = .ok (.iaload, 1) := by decide +kernel
theorem dX7_wayOf_160 : decode cX7_wayOf 160 = .ok (.iadd, 1) := by decide +kernel
theorem dX7_wayOf_161 : decode cX7_wayOf 161 = .ok (.iaload, 1) := by decide +kernel
theorem dX7_wayOf_162 : decode cX7_wayOf 162 = .ok (.iadd, 1) := by decide +kernel
theorem dX7_wayOf_163 : decode cX7_wayOf 163 = .ok (.goto 5, 3) := by decide +kernel
theorem dX7_wayOf_166 : decode cX7_wayOf 166 = .ok (.ldc 165, 2) := by decide +kernel
theorem dX7_wayOf_168 : decode cX7_wayOf 168 = .ok (.istore 7, 2) := by decide +kernel
theorem dX7_wayOf_170 : decode cX7_wayOf 170 = .ok (.aload_n 0, 1) := by decide +kernel
theorem dX7_wayOf_171 : decode cX7_wayOf 171 = .ok (.getfield 66, 3) := by decide +kernel
theorem dX7_wayOf_174 : decode cX7_wayOf 174 = .ok (.iload 4, 2) := by decide +kernel
theorem dX7_wayOf_176 : decode cX7_wayOf 176 = .ok (.iload 7, 2) := by decide +kernel
theorem dX7_wayOf_178 : decode cX7_wayOf 178 = .ok (.aload_n 0, 1) := by decide +kernel
theorem dX7_wayOf_179 : decode cX7_wayOf 179 = .ok (.getfield 66, 3) := by decide +kernel
theorem dX7_wayOf_182 : decode cX7_wayOf 182 = .ok (.iload 4, 2) := by decide +kernel
theorem dX7_wayOf_184 : decode cX7_wayOf 184 = .ok (.iaload, 1) := by decide +kernel
theorem dX7_wayOf_185 : decode cX7_wayOf 185 = .ok (.if_icmp .ge 8, 3) := by decide +kernel
theorem dX7_wayOf_188 : decode cX7_wayOf 188 = .ok (.iload 7, 2) := by decide +kernel
theorem dX7_wayOf_190 : decode cX7_wayOf 190 = .ok (.goto 10, 3) := by decide +kernel
theorem dX7_wayOf_193 : decode cX7_wayOf 193 = .ok (.aload_n 0, 1) := by decide +kernel
theorem dX7_wayOf_194 : decode cX7_wayOf 194 = .ok (.getfield 66, 3) := by decide +kernel
theorem dX7_wayOf_197 : decode cX7_wayOf 197 = .ok (.iload 4, 2) := by decide +kernel
theorem dX7_wayOf_199 : decode cX7_wayOf 199 = .ok (.iaload, 1) := by decide +kernel
theorem dX7_wayOf_200 : decode cX7_wayOf 200 = .ok (.iastore, 1) := by decide +kernel
theorem dX7_wayOf_201 : decode cX7_wayOf 201 = .ok (.iinc 6 1, 3) := by decide +kernel
theorem dX7_wayOf_204 : decode cX7_wayOf 204 = .ok (.goto (-97), 3) := by decide +kernel
theorem dX7_wayOf_207 : decode cX7_wayOf 207 = .ok (.iinc 4 1, 3) := by decide +kernel
theorem dX7_wayOf_210 : decode cX7_wayOf 210 = .ok (.goto (-154), 3) := by decide +kernel
theorem dX7_wayOf_213 : decode cX7_wayOf 213 = .ok (.aload_n 0, 1) := by decide +kernel
theorem dX7_wayOf_214 : decode cX7_wayOf 214 = .ok (.getfield 66, 3) := by decide +kernel
theorem dX7_wayOf_217 : decode cX7_wayOf 217 = .ok (.sipush 1023, 3) := by decide +kernel
theorem dX7_wayOf_220 : decode cX7_wayOf 220 = .ok (.iaload, 1) := by decide +kernel
theorem dX7_wayOf_221 : decode cX7_wayOf 221 = .ok (.ireturn, 1) := by decide +kernel
theorem dX7_way_0 : decode cX7_way 0 = .ok (.aload_n 0, 1) := by decide +kernel
theorem dX7_way_1 : decode cX7_way 1 = .ok (.iload_n 1, 1) := by decide +kernel
theorem dX7_way_2 : decode cX7_way 2 = .ok (.iconst 0, 1) := by decide +kernel
theorem dX7_way_3 : decode cX7_way 3 = .ok (.iconst 5, 1) := by decide +kernel
theorem dX7_way_4 : decode cX7_way 4 = .ok (.invokestatic 89, 3) := by decide +kernel
theorem dX7_way_7 : decode cX7_way 7 = .ok (.ifCond .eq 7, 3) := by decide +kernel
theorem dX7_way_10 : decode cX7_way 10 = .ok (.iconst 0, 1) := by decide +kernel
theorem dX7_way_11 : decode cX7_way 11 = .ok (.goto 4, 3) := by decide +kernel
theorem dX7_way_14 : decode cX7_way 14 = .ok (.iconst 1, 1) := by decide +kernel
theorem dX7_way_15 : decode cX7_way 15 = .ok (.invokevirtual 96, 3) := by decide +kernel
theorem dX7_way_18 : decode cX7_way 18 = .ok (.ifCond .eq 23, 3) := by decide +kernel
theorem dX7_way_21 : decode cX7_way 21 = .ok (.aload_n 0, 1) := by decide +kernel
theorem dX7_way_22 : decode cX7_way 22 = .ok (.iload_n 1, 1) := by decide +kernel
theorem dX7_way_23 : decode cX7_way 23 = .ok (.invokevirtual 100, 3) := by decide +kernel
theorem dX7_way_26 : decode cX7_way 26 = .ok (.ifCond .eq 11, 3) := by decide +kernel
theorem dX7_way_29 : decode cX7_way 29 = .ok (.aload_n 0, 1) := by decide +kernel
theorem dX7_way_30 : decode cX7_way 30 = .ok (.iload_n 1, 1) := by decide +kernel
theorem dX7_way_31 : decode cX7_way 31 = .ok (.invokevirtual 166, 3) := by decide +kernel
theorem dX7_way_34 : decode cX7_way 34 = .ok (.goto 8, 3) := by decide +kernel
theorem dX7_way_37 : decode cX7_way 37 = .ok (.iconst (-1), 1) := by decide +kernel
theorem dX7_way_38 : decode cX7_way 38 = .ok (.goto 4, 3) := by decide +kernel
theorem dX7_way_41 : decode cX7_way 41 = .ok (.iconst 0, 1) := by decide +kernel
theorem dX7_way_42 : decode cX7_way 42 = .ok (.ireturn, 1) := by decide +kernel
theorem dX7_best_0 : decode cX7_best 0 = .ok (.iconst (-1), 1) := by decide +kernel
theorem dX7_best_1 : decode cX7_best 1 = .ok (.istore_n 1, 1) := by decide +kernel
theorem dX7_best_2 : decode cX7_best 2 = .ok (.ldc 165, 2) := by decide +kernel
theorem dX7_best_4 : decode cX7_best 4 = .ok (.istore_n 2, 1) := by decide +kernel
theorem dX7_best_5 : decode cX7_best 5 = .ok (.iconst 0, 1) := by decide +kernel
theorem dX7_best_6 : decode cX7_best 6 = .ok (.istore_n 3, 1) := by decide +kernel
theorem dX7_best_7 : decode cX7_best 7 = .ok (.iload_n 3, 1) := by decide +kernel
theorem dX7_best_8 : decode cX7_best 8 = .ok (.sipush 14641, 3) := by decide +kernel
theorem dX7_best_11 : decode cX7_best 11 = .ok (.if_icmp .ge 124, 3) := by decide +kernel
theorem dX7_best_14 : decode cX7_best 14 = .ok (.aload_n 0, 1) := by decide +kernel
theorem dX7_best_15 : decode cX7_best 15 = .ok (.getfield 83, 3) := by decide +kernel
theorem dX7_best_18 : decode cX7_best 18 = .ok (.iconst (-1), 1) := by decide +kernel
theorem dX7_best_19 : decode cX7_best 19 = .ok (.if_icmp .eq 116, 3) := by decide +kernel
theorem dX7_best_22 : decode cX7_best 22 = .ok (.iload_n 3, 1) := by decide +kernel
theorem dX7_best_23 : decode cX7_best 23 = .ok (.bipush 121, 2) := by decide +kernel
theorem dX7_best_25 : decode cX7_best 25 = .ok (.idiv, 1) := by decide +kernel
theorem dX7_best_26 : decode cX7_best 26 = .ok (.istore 4, 2) := by decide +kernel
theorem dX7_best_28 : decode cX7_best 28 = .ok (.iload_n 3, 1) := by decide +kernel
theorem dX7_best_29 : decode cX7_best 29 = .ok (.bipush 121, 2) := by decide +kernel
theorem dX7_best_31 : decode cX7_best 31 = .ok (.irem, 1) := by decide +kernel
theorem dX7_best_32 : decode cX7_best 32 = .ok (.istore 5, 2) := by decide +kernel
theorem dX7_best_34 : decode cX7_best 34 = .ok (.iload 5, 2) := by decide +kernel
theorem dX7_best_36 : decode cX7_best 36 = .ok (.ifCond .ne 10, 3) := by decide +kernel
theorem dX7_best_39 : decode cX7_best 39 = .ok (.aload_n 0, 1) := by decide +kernel
theorem dX7_best_40 : decode cX7_best 40 = .ok (.iload 4, 2) := by decide +kernel
theorem dX7_best_42 : decode cX7_best 42 = .ok (.invokevirtual 161, 3) := by decide +kernel
theorem dX7_best_45 : decode cX7_best 45 = .ok (.pop, 1) := by decide +kernel
theorem dX7_best_46 : decode cX7_best 46 = .ok (.aload_n 0, 1) := by decide +kernel
theorem dX7_best_47 : decode cX7_best 47 = .ok (.getfield 62, 3) := by decide +kernel
theorem dX7_best_50 : decode cX7_best 50 = .ok (.iload 5, 2) := by decide +kernel
theorem dX7_best_52 : decode cX7_best 52 = .ok (.baload, 1) := by decide +kernel
theorem dX7_best_53 : decode cX7_best 53 = .ok (.ifCond .eq 76, 3) := by decide +kernel
theorem dX7_best_56 : decode cX7_best 56 = .ok (.aload_n 0, 1) := by decide +kernel
theorem dX7_best_57 : decode cX7_best 57 = .ok (.getfield 32, 3) := by decide +kernel
theorem dX7_best_60 : decode cX7_best 60 = .ok (.iload 5, 2) := by decide +kernel
theorem dX7_best_62 : decode cX7_best 62 = .ok (.aload_n 0, 1) := by decide +kernel
theorem dX7_best_63 : decode cX7_best 63 = .ok (.getfield 83, 3) := by decide +kernel
theorem dX7_best_66 : decode cX7_best 66 = .ok (.iastore, 1) := by decide +kernel
theorem dX7_best_67 : decode cX7_best 67 = .ok (.aload_n 0, 1) := by decide +kernel
theorem dX7_best_68 : decode cX7_best 68 = .ok (.getfield 32, 3) := by decide +kernel
theorem dX7_best_71 : decode cX7_best 71 = .ok (.iload 4, 2) := by decide +kernel
theorem dX7_best_73 : decode cX7_best 73 = .ok (.iconst (-1), 1) := by decide +kernel
theorem dX7_best_74 : decode cX7_best 74 = .ok (.iastore, 1) := by decide +kernel
theorem dX7_best_75 : decode cX7_best 75 = .ok (.aload_n 0, 1) := by decide +kernel
theorem dX7_best_76 : decode cX7_best 76 = .ok (.aload_n 0, 1) := by decide +kernel
theorem dX7_best_77 : decode cX7_best 77 = .ok (.getfield 83, 3) := by decide +kernel
theorem dX7_best_80 : decode cX7_best 80 = .ok (.invokevirtual 166, 3) := by decide +kernel
theorem dX7_best_83 : decode cX7_best 83 = .ok (.istore 6, 2) := by decide +kernel
theorem dX7_best_85 : decode cX7_best 85 = .ok (.aload_n 0, 1) := by decide +kernel
theorem dX7_best_86 : decode cX7_best 86 = .ok (.getfield 32, 3) := by decide +kernel
theorem dX7_best_89 : decode cX7_best 89 = .ok (.iload 5, 2) := by decide +kernel
theorem dX7_best_91 : decode cX7_best 91 = .ok (.iconst (-1), 1) := by decide +kernel
theorem dX7_best_92 : decode cX7_best 92 = .ok (.iastore, 1) := by decide +kernel
theorem dX7_best_93 : decode cX7_best 93 = .ok (.aload_n 0, 1) := by decide +kernel
theorem dX7_best_94 : decode cX7_best 94 = .ok (.getfield 32, 3) := by decide +kernel
theorem dX7_best_97 : decode cX7_best 97 = .ok (.iload 4, 2) := by decide +kernel
theorem dX7_best_99 : decode cX7_best 99 = .ok (.aload_n 0, 1) := by decide +kernel
theorem dX7_best_100 : decode cX7_best 100 = .ok (.getfield 83, 3) := by decide +kernel
theorem dX7_best_103 : decode cX7_best 103 = .ok (.iastore, 1) := by decide +kernel
theorem dX7_best_104 : decode cX7_best 104 = .ok (.iload 6, 2) := by decide +kernel
theorem dX7_best_106 : decode cX7_best 106 = .ok (.iload_n 2, 1) := by decide +kernel
theorem dX7_best_107 : decode cX7_best 107 = .ok (.if_icmp .ge 7, 3) := by decide +kernel
theorem dX7_best_110 : decode cX7_best 110 = .ok (.iload_n 3, 1) := by decide +kernel
theorem dX7_best_111 : decode cX7_best 111 = .ok (.goto 4, 3) := by decide +kernel
theorem dX7_best_114 : decode cX7_best 114 = .ok (.iload_n 1, 1) := by decide +kernel
theorem dX7_best_115 : decode cX7_best 115 = .ok (.istore_n 1, 1) := by decide +kernel
theorem dX7_best_116 : decode cX7_best 116 = .ok (.iload 6, 2) := by decide +kernel
theorem dX7_best_118 : decode cX7_best 118 = .ok (.iload_n 2, 1) := by decide +kernel
theorem dX7_best_119 : decode cX7_best 119 = .ok (.if_icmp .ge 8, 3) := by decide +kernel
theorem dX7_best_122 : decode cX7_best 122 = .ok (.iload 6, 2) := by decide +kernel
theorem dX7_best_124 : decode cX7_best 124 = .ok (.goto 4, 3) := by decide +kernel
theorem dX7_best_127 : decode cX7_best 127 = .ok (.iload_n 2, 1) := by decide +kernel
theorem dX7_best_128 : decode cX7_best 128 = .ok (.istore_n 2, 1) := by decide +kernel
theorem dX7_best_129 : decode cX7_best 129 = .ok (.iinc 3 1, 3) := by decide +kernel
theorem dX7_best_132 : decode cX7_best 132 = .ok (.goto (-125), 3) := by decide +kernel
theorem dX7_best_135 : decode cX7_best 135 = .ok (.iload_n 1, 1) := by decide +kernel
theorem dX7_best_136 : decode cX7_best 136 = .ok (.ireturn, 1) := by decide +kernel
theorem dX7_bestFrom_0 : decode cX7_bestFrom 0 = .ok (.aload_n 0, 1) := by decide +kernel
theorem dX7_bestFrom_1 : decode cX7_bestFrom 1 = .ok (.iconst 0, 1) := by decide +kernel
theorem dX7_bestFrom_2 : decode cX7_bestFrom 2 = .ok (.putfield 86, 3) := by decide +kernel
theorem dX7_bestFrom_5 : decode cX7_bestFrom 5 = .ok (.aload_n 0, 1) := by decide +kernel
theorem dX7_bestFrom_6 : decode cX7_bestFrom 6 = .ok (.invokevirtual 169, 3) := by decide +kernel
theorem dX7_bestFrom_9 : decode cX7_bestFrom 9 = .ok (.istore_n 1, 1) := by decide +kernel
theorem dX7_bestFrom_10 : decode cX7_bestFrom 10 = .ok (.iload_n 1, 1) := by decide +kernel
theorem dX7_bestFrom_11 : decode cX7_bestFrom 11 = .ok (.iconst (-1), 1) := by decide +kernel
theorem dX7_bestFrom_12 : decode cX7_bestFrom 12 = .ok (.if_icmp .ne 7, 3) := by decide +kernel
theorem dX7_bestFrom_15 : decode cX7_bestFrom 15 = .ok (.iconst (-1), 1) := by decide +kernel
theorem dX7_bestFrom_16 : decode cX7_bestFrom 16 = .ok (.goto 7, 3) := by decide +kernel
theorem dX7_bestFrom_19 : decode cX7_bestFrom 19 = .ok (.iload_n 1, 1) := by decide +kernel
theorem dX7_bestFrom_20 : decode cX7_bestFrom 20 = .ok (.bipush 121, 2) := by decide +kernel
theorem dX7_bestFrom_22 : decode cX7_bestFrom 22 = .ok (.idiv, 1) := by decide +kernel
theorem dX7_bestFrom_23 : decode cX7_bestFrom 23 = .ok (.ireturn, 1) := by decide +kernel
theorem dX7_bestTo_0 : decode cX7_bestTo 0 = .ok (.aload_n 0, 1) := by decide +kernel
theorem dX7_bestTo_1 : decode cX7_bestTo 1 = .ok (.iconst 0, 1) := by decide +kernel
theorem dX7_bestTo_2 : decode cX7_bestTo 2 = .ok (.putfield 86, 3) := by decide +kernel
theorem dX7_bestTo_5 : decode cX7_bestTo 5 = .ok (.aload_n 0, 1) := by decide +kernel
theorem dX7_bestTo_6 : decode cX7_bestTo 6 = .ok (.invokevirtual 169, 3) := by decide +kernel
theorem dX7_bestTo_9 : decode cX7_bestTo 9 = .ok (.istore_n 1, 1) := by decide +kernel
theorem dX7_bestTo_10 : decode cX7_bestTo 10 = .ok (.iload_n 1, 1) := by decide +kernel
theorem dX7_bestTo_11 : decode cX7_bestTo 11 = .ok (.iconst (-1), 1) := by decide +kernel
theorem dX7_bestTo_12 : decode cX7_bestTo 12 = .ok (.if_icmp .ne 7, 3) := by decide +kernel
theorem dX7_bestTo_15 : decode cX7_bestTo 15 = .ok (.iconst (-1), 1) := by decide +kernel
theorem dX7_bestTo_16 : decode cX7_bestTo 16 = .ok (.goto 7, 3) := by decide +kernel
theorem dX7_bestTo_19 : decode cX7_bestTo 19 = .ok (.iload_n 1, 1) := by decide +kernel
theorem dX7_bestTo_20 : decode cX7_bestTo 20 = .ok (.bipush 121, 2) := by decide +kernel
theorem dX7_bestTo_22 : decode cX7_bestTo 22 = .ok (.irem, 1) := by decide +kernel
theorem dX7_bestTo_23 : decode cX7_bestTo 23 = .ok (.ireturn, 1) := by decide +kernel
