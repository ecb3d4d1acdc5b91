theorem dL_areGaps_86 : decode cL_areGaps 86 = .ok (.iload 9, 2) := by decide +kernel
theorem dL_areGaps_88 : decode cL_areGaps 88 = .ok (.iload 5, 2) := by decide +kernel
theorem dL_areGaps_90 : decode cL_areGaps 90 = .ok (.iadd, 1) := by decide +kernel
theorem dL_areGaps_91 : decode cL_areGaps 91 = .ok (.istore 9, 2) := by decide +kernel
theorem dL_areGaps_93 : decode cL_areGaps 93 = .ok (.goto (-46), 3) := by decide +kernel
theorem dL_areGaps_96 : decode cL_areGaps 96 = .ok (.iconst (-1), 1) := by decide +kernel
theorem dL_areGaps_97 : decode cL_areGaps 97 = .ok (.istore 9, 2) := by decide +kernel
theorem dL_areGaps_99 : decode cL_areGaps 99 = .ok (.iconst (-1), 1) := by decide +kernel
theorem dL_areGaps_100 : decode cL_areGaps 100 = .ok (.istore 10, 2) := by decide +kernel
theorem dL_areGaps_102 : decode cL_areGaps 102 = .ok (.iconst 0, 1) := by decide +kernel
theorem dL_areGaps_103 : decode cL_areGaps 103 = .ok (.istore 11, 2) := by decide +kernel
theorem dL_areGaps_105 : decode cL_areGaps 105 = .ok (.iload 11, 2) := by decide +kernel
theorem dL_areGaps_107 : decode cL_areGaps 107 = .ok (.aload_n 0, 1) := by decide +kernel
theorem dL_areGaps_108 : decode cL_areGaps 108 = .ok (.iload_n 2, 1) := by decide +kernel
theorem dL_areGaps_109 : decode cL_areGaps 109 = .ok (.iload_n 3, 1) := by decide +kernel
theorem dL_areGaps_110 : decode cL_areGaps 110 = .ok (.invokevirtual 36, 3) := by decide +kernel
theorem dL_areGaps_113 : decode cL_areGaps 113 = .ok (.if_icmp .ge 56, 3) := by decide +kernel
theorem dL_areGaps_116 : decode cL_areGaps 116 = .ok (.aload_n 0, 1) := by decide +kernel
theorem dL_areGaps_117 : decode cL_areGaps 117 = .ok (.iload_n 2, 1) := by decide +kernel
theorem dL_areGaps_118 : decode cL_areGaps 118 = .ok (.iload_n 3, 1) := by decide +kernel
theorem dL_areGaps_119 : decode cL_areGaps 119 = .ok (.iload 11, 2) := by decide +kernel
theorem dL_areGaps_121 : decode cL_areGaps 121 = .ok (.invokevirtual 39, 3) := by decide +kernel
theorem dL_areGaps_124 : decode cL_areGaps 124 = .ok (.istore 12, 2) := by decide +kernel
theorem dL_areGaps_126 : decode cL_areGaps 126 = .ok (.iload 12, 2) := by decide +kernel
theorem dL_areGaps_128 : decode cL_areGaps 128 = .ok (.iload 6, 2) := by decide +kernel
theorem dL_areGaps_130 : decode cL_areGaps 130 = .ok (.if_icmp .ge 8, 3) := by decide +kernel
theorem dL_areGaps_133 : decode cL_areGaps 133 = .ok (.iload 12, 2) := by decide +kernel
theorem dL_areGaps_135 : decode cL_areGaps 135 = .ok (.goto 5, 3) := by decide +kernel
theorem dL_areGaps_138 : decode cL_areGaps 138 = .ok (.iload 9, 2) := by decide +kernel
theorem dL_areGaps_140 : decode cL_areGaps 140 = .ok (.istore 9, 2) := by decide +kernel
theorem dL_areGaps_142 : decode cL_areGaps 142 = .ok (.iload 12, 2) := by decide +kernel
theorem dL_areGaps_144 : decode cL_areGaps 144 = .ok (.iload 6, 2) := by decide +kernel
theorem dL_areGaps_146 : decode cL_areGaps 146 = .ok (.if_icmp .le 13, 3) := by decide +kernel
theorem dL_areGaps_149 : decode cL_areGaps 149 = .ok (.iload 10, 2) := by decide +kernel
theorem dL_areGaps_151 : decode cL_areGaps 151 = .ok (.ifCond .ge 8, 3) := by decide +kernel
theorem dL_areGaps_154 : decode cL_areGaps 154 = .ok (.iload 12, 2) := by decide +kernel
theorem dL_areGaps_156 : decode cL_areGaps 156 = .ok (.goto 5, 3) := by decide +kernel
theorem dL_areGaps_159 : decode cL_areGaps 159 = .ok (.iload 10, 2) := by decide +kernel
theorem dL_areGaps_161 : decode cL_areGaps 161 = .ok (.istore 10, 2) := by decide +kernel
theorem dL_areGaps_163 : decode cL_areGaps 163 = .ok (.iinc 11 1, 3) := by decide +kernel
theorem dL_areGaps_166 : decode cL_areGaps 166 = .ok (.goto (-61), 3) := by decide +kernel
theorem dL_areGaps_169 : decode cL_areGaps 169 = .ok (.aload_n 0, 1) := by decide +kernel
theorem dL_areGaps_170 : decode cL_areGaps 170 = .ok (.iload_n 2, 1) := by decide +kernel
theorem dL_areGaps_171 : decode cL_areGaps 171 = .ok (.iload_n 3, 1) := by decide +kernel
theorem dL_areGaps_172 : decode cL_areGaps 172 = .ok (.iload 6, 2) := by decide +kernel
theorem dL_areGaps_174 : decode cL_areGaps 174 = .ok (.iload 7, 2) := by decide +kernel
theorem dL_areGaps_176 : decode cL_areGaps 176 = .ok (.invokevirtual 84, 3) := by decide +kernel
theorem dL_areGaps_179 : decode cL_areGaps 179 = .ok (.iload 8, 2) := by decide +kernel
theorem dL_areGaps_181 : decode cL_areGaps 181 = .ok (.if_icmp .ne 7, 3) := by decide +kernel
theorem dL_areGaps_184 : decode cL_areGaps 184 = .ok (.iconst 1, 1) := by decide +kernel
theorem dL_areGaps_185 : decode cL_areGaps 185 = .ok (.goto 4, 3) := by decide +kernel
theorem dL_areGaps_188 : decode cL_areGaps 188 = .ok (.iconst 0, 1) := by decide +kernel
theorem dL_areGaps_189 : decode cL_areGaps 189 = .ok (.istore 11, 2) := by decide +kernel
theorem dL_areGaps_191 : decode cL_areGaps 191 = .ok (.aload_n 0, 1) := by decide +kernel
theorem dL_areGaps_192 : decode cL_areGaps 192 = .ok (.iload_n 2, 1) := by decide +kernel
theorem dL_areGaps_193 : decode cL_areGaps 193 = .ok (.iload_n 3, 1) := by decide +kernel
theorem dL_areGaps_194 : decode cL_areGaps 194 = .ok (.iload 6, 2) := by decide +kernel
theorem dL_areGaps_196 : decode cL_areGaps 196 = .ok (.iload 4, 2) := by decide +kernel
theorem dL_areGaps_198 : decode cL_areGaps 198 = .ok (.iload 5, 2) := by decide +kernel
theorem dL_areGaps_200 : decode cL_areGaps 200 = .ok (.irem, 1) := by decide +kernel
theorem dL_areGaps_201 : decode cL_areGaps 201 = .ok (.iadd, 1) := by decide +kernel
theorem dL_areGaps_202 : decode cL_areGaps 202 = .ok (.iconst 2, 1) := by decide +kernel
theorem dL_areGaps_203 : decode cL_areGaps 203 = .ok (.invokestatic 87, 3) := by decide +kernel
theorem dL_areGaps_206 : decode cL_areGaps 206 = .ok (.istore 12, 2) := by decide +kernel
theorem dL_areGaps_208 : decode cL_areGaps 208 = .ok (.aload_n 0, 1) := by decide +kernel
theorem dL_areGaps_209 : decode cL_areGaps 209 = .ok (.iload_n 2, 1) := by decide +kernel
theorem dL_areGaps_210 : decode cL_areGaps 210 = .ok (.iload_n 3, 1) := by decide +kernel
theorem dL_areGaps_211 : decode cL_areGaps 211 = .ok (.iload 6, 2) := by decide +kernel
theorem dL_areGaps_213 : decode cL_areGaps 213 = .ok (.iconst 1, 1) := by decide +kernel
theorem dL_areGaps_214 : decode cL_areGaps 214 = .ok (.invokestatic 87, 3) := by decide +kernel
theorem dL_areGaps_217 : decode cL_areGaps 217 = .ok (.istore 13, 2) := by decide +kernel
theorem dL_areGaps_219 : decode cL_areGaps 219 = .ok (.aload_n 0, 1) := by decide +kernel
theorem dL_areGaps_220 : decode cL_areGaps 220 = .ok (.iload_n 2, 1) := by decide +kernel
theorem dL_areGaps_221 : decode cL_areGaps 221 = .ok (.iload_n 3, 1) := by decide +kernel
theorem dL_areGaps_222 : decode cL_areGaps 222 = .ok (.iload 6, 2) := by decide +kernel
theorem dL_areGaps_224 : decode cL_areGaps 224 = .ok (.invokevirtual 69, 3) := by decide +kernel
theorem dL_areGaps_227 : decode cL_areGaps 227 = .ok (.ifCond .eq 52, 3) := by decide +kernel
theorem dL_areGaps_230 : decode cL_areGaps 230 = .ok (.aload_n 0, 1) := by decide +kernel
theorem dL_areGaps_231 : decode cL_areGaps 231 = .ok (.iload_n 2, 1) := by decide +kernel
theorem dL_areGaps_232 : decode cL_areGaps 232 = .ok (.iload_n 3, 1) := by decide +kernel
theorem dL_areGaps_233 : decode cL_areGaps 233 = .ok (.iload 6, 2) := by decide +kernel
theorem dL_areGaps_235 : decode cL_areGaps 235 = .ok (.invokevirtual 55, 3) := by decide +kernel
theorem dL_areGaps_238 : decode cL_areGaps 238 = .ok (.istore 14, 2) := by decide +kernel
theorem dL_areGaps_240 : decode cL_areGaps 240 = .ok (.iload 11, 2) := by decide +kernel
theorem dL_areGaps_242 : decode cL_areGaps 242 = .ok (.ifCond .eq 35, 3) := by decide +kernel
theorem dL_areGaps_245 : decode cL_areGaps 245 = .ok (.iload 12, 2) := by decide +kernel
theorem dL_areGaps_247 : decode cL_areGaps 247 = .ok (.iload 14, 2) := by decide +kernel
theorem dL_areGaps_249 : decode cL_areGaps 249 = .ok (.if_icmp .ne 28, 3) := by decide +kernel
theorem dL_areGaps_252 : decode cL_areGaps 252 = .ok (.iload 13, 2) := by decide +kernel
theorem dL_areGaps_254 : decode cL_areGaps 254 = .ok (.iload 14, 2) := by decide +kernel
theorem dL_areGaps_256 : decode cL_areGaps 256 = .ok (.if_icmp .ne 21, 3) := by decide +kernel
theorem dL_areGaps_259 : decode cL_areGaps 259 = .ok (.aload_n 0, 1) := by decide +kernel
theorem dL_areGaps_260 : decode cL_areGaps 260 = .ok (.iload_n 2, 1) := by decide +kernel
theorem dL_areGaps_261 : decode cL_areGaps 261 = .ok (.iload_n 3, 1) := by decide +kernel
theorem dL_areGaps_262 : decode cL_areGaps 262 = .ok (.iload 6, 2) := by decide +kernel
theorem dL_areGaps_264 : decode cL_areGaps 264 = .ok (.iconst 0, 1) := by decide +kernel
theorem dL_areGaps_265 : decode cL_areGaps 265 = .ok (.invokestatic 87, 3) := by decide +kernel
theorem dL_areGaps_268 : decode cL_areGaps 268 = .ok (.iload 14, 2) := by decide +kernel
theorem dL_areGaps_270 : decode cL_areGaps 270 = .ok (.if_icmp .ne 7, 3) := by decide +kernel
theorem dL_areGaps_273 : decode cL_areGaps 273 = .ok (.iconst 1, 1) := by decide +kernel
theorem dL_areGaps_274 : decode cL_areGaps 274 = .ok (.goto 4, 3) := by decide +kernel
theorem dL_areGaps_277 : decode cL_areGaps 277 = .ok (.iconst 0, 1) := by decide +kernel
theorem dL_areGaps_278 : decode cL_areGaps 278 = .ok (.ireturn, 1) := by decide +kernel
theorem dL_areGaps_279 : decode cL_areGaps 279 = .ok (.iload 11, 2) := by decide +kernel
theorem dL_areGaps_281 : decode cL_areGaps 281 = .ok (.ifCond .eq 42, 3) := by decide +kernel
theorem dL_areGaps_284 : decode cL_areGaps 284 = .ok (.aload_n 0, 1) := by decide +kernel
theorem dL_areGaps_285 : decode cL_areGaps 285 = .ok (.iload_n 2, 1) := by decide +kernel
theorem dL_areGaps_286 : decode cL_areGaps 286 = .ok (.iload_n 3, 1) := by decide +kernel
theorem dL_areGaps_287 : decode cL_areGaps 287 = .ok (.iload 6, 2) := by decide +kernel
theorem dL_areGaps_289 : decode cL_areGaps 289 = .ok (.iconst 0, 1) := by decide +kernel
theorem dL_areGaps_290 : decode cL_areGaps 290 = .ok (.invokestatic 87, 3) := by decide +kernel
theorem dL_areGaps_293 : decode cL_areGaps 293 = .ok (.ifCond .ne 30, 3) := by decide +kernel
theorem dL_areGaps_296 : decode cL_areGaps 296 = .ok (.iload 13, 2) := by decide +kernel
theorem dL_areGaps_298 : decode cL_areGaps 298 = .ok (.iload 9, 2) := by decide +kernel
theorem dL_areGaps_300 : decode cL_areGaps 300 = .ok (.ifCond .ge 8, 3) := by decide +kernel
theorem dL_areGaps_303 : decode cL_areGaps 303 = .ok (.ldc 31, 2) := by decide +kernel
theorem dL_areGaps_305 : decode cL_areGaps 305 = .ok (.goto 11, 3) := by decide +kernel
theorem dL_areGaps_308 : decode cL_areGaps 308 = .ok (.aload_n 0, 1) := by decide +kernel
theorem dL_areGaps_309 : decode cL_areGaps 309 = .ok (.iload_n 2, 1) := by decide +kernel
theorem dL_areGaps_310 : decode cL_areGaps 310 = .ok (.iload_n 3, 1) := by decide +kernel
theorem dL_areGaps_311 : decode cL_areGaps 311 = .ok (.iload 9, 2) := by decide +kernel
theorem dL_areGaps_313 : decode cL_areGaps 313 = .ok (.invokevirtual 55, 3) := by decide +kernel
theorem dL_areGaps_316 : decode cL_areGaps 316 = .ok (.if_icmp .ne 7, 3) := by decide +kernel
theorem dL_areGaps_319 : decode cL_areGaps 319 = .ok (.iconst 1, 1) := by decide +kernel
theorem dL_areGaps_320 : decode cL_areGaps 320 = .ok (.goto 4, 3) := by decide +kernel
theorem dL_areGaps_323 : decode cL_areGaps 323 = .ok (.iconst 0, 1) := by decide +kernel
theorem dL_areGaps_324 : decode cL_areGaps 324 = .ok (.istore 11, 2) := by decide +kernel
theorem dL_areGaps_326 : decode cL_areGaps 326 = .ok (.iload 9, 2) := by decide +kernel
theorem dL_areGaps_328 : decode cL_areGaps 328 = .ok (.ifCond .lt 8, 3) := by decide +kernel
theorem dL_areGaps_331 : decode cL_areGaps 331 = .ok (.iload 10, 2) := by decide +kernel
theorem dL_areGaps_333 : decode cL_areGaps 333 = .ok (.ifCond .ge 21, 3) := by decide +kernel
theorem dL_areGaps_336 : decode cL_areGaps 336 = .ok (.iload 11, 2) := by decide +kernel
theorem dL_areGaps_338 : decode cL_areGaps 338 = .ok (.ifCond .eq 14, 3) := by decide +kernel
theorem dL_areGaps_341 : decode cL_areGaps 341 = .ok (.iload 12, 2) := by decide +kernel
theorem dL_areGaps_343 : decode cL_areGaps 343 = .ok (.ldc 31, 2) := by decide +kernel
theorem dL_areGaps_345 : decode cL_areGaps 345 = .ok (.if_icmp .ne 7, 3) := by decide +kernel
theorem dL_areGaps_348 : decode cL_areGaps 348 = .ok (.iconst 1, 1) := by decide +kernel
theorem dL_areGaps_349 : decode cL_areGaps 349 = .ok (.goto 4, 3) := by decide +kernel
theorem dL_areGaps_352 : decode cL_areGaps 352 = .ok (.iconst 0, 1) := by decide +kernel
theorem dL_areGaps_353 : decode cL_areGaps 353 = .ok (.ireturn, 1) := by decide +kernel
theorem dL_areGaps_354 : decode cL_areGaps 354 = .ok (.aload_n 0, 1) := by decide +kernel
theorem dL_areGaps_355 : decode cL_areGaps 355 = .ok (.iload_n 2, 1) := by decide +kernel
theorem dL_areGaps_356 : decode cL_areGaps 356 = .ok (.iload_n 3, 1) := by decide +kernel
theorem dL_areGaps_357 : decode cL_areGaps 357 = .ok (.iload 9, 2) := by decide +kernel
theorem dL_areGaps_359 : decode cL_areGaps 359 = .ok (.invokevirtual 55, 3) := by decide +kernel
theorem dL_areGaps_362 : decode cL_areGaps 362 = .ok (.istore 14, 2) := by decide +kernel
theorem dL_areGaps_364 : decode cL_areGaps 364 = .ok (.aload_n 0, 1) := by decide +kernel
theorem dL_areGaps_365 : decode cL_areGaps 365 = .ok (.iload_n 2, 1) := by decide +kernel
theorem dL_areGaps_366 : decode cL_areGaps 366 = .ok (.iload_n 3, 1) := by decide +kernel
theorem dL_areGaps_367 : decode cL_areGaps 367 = .ok (.iload 10, 2) := by decide +kernel
theorem dL_areGaps_369 : decode cL_areGaps 369 = .ok (.invokevirtual 55, 3) := by decide +kernel
theorem dL_areGaps_372 : decode cL_areGaps 372 = .ok (.istore 15, 2) := by decide +kernel
theorem dL_areGaps_374 : decode cL_areGaps 374 = .ok (.iload 11, 2) := by decide +kernel
theorem dL_areGaps_376 : decode cL_areGaps 376 = .ok (.ifCond .eq 45, 3) := by decide +kernel
theorem dL_areGaps_379 : decode cL_areGaps 379 = .ok (.iload 12, 2) := by decide +kernel
theorem dL_areGaps_381 : decode cL_areGaps 381 = .ok (.iload 14, 2) := by decide +kernel
theorem dL_areGaps_383 : decode cL_areGaps 383 = .ok (.iload 15, 2) := by decide +kernel
theorem dL_areGaps_385 : decode cL_areGaps 385 = .ok (.if_icmp .ge 8, 3) := by decide +kernel
theorem dL_areGaps_388 : decode cL_areGaps 388 = .ok (.iload 14, 2) := by decide +kernel
theorem dL_areGaps_390 : decode cL_areGaps 390 = .ok (.goto 5, 3) := by decide +kernel
theorem dL_areGaps_393 : decode cL_areGaps 393 = .ok (.iload 15, 2) := by decide +kernel
theorem dL_areGaps_395 : decode cL_areGaps 395 = .ok (.if_icmp .lt 26, 3) := by decide +kernel
theorem dL_areGaps_398 : decode cL_areGaps 398 = .ok (.iload 12, 2) := by decide +kernel
theorem dL_areGaps_400 : decode cL_areGaps 400 = .ok (.iload 14, 2) := by decide +kernel
theorem dL_areGaps_402 : decode cL_areGaps 402 = .ok (.iload 15, 2) := by decide +kernel
theorem dL_areGaps_404 : decode cL_areGaps 404 = .ok (.if_icmp .ge 8, 3) := by decide +kernel
theorem dL_areGaps_407 : decode cL_areGaps 407 = .ok (.iload 15, 2) := by decide +kernel
theorem dL_areGaps_409 : decode cL_areGaps 409 = .ok (.goto 5, 3) := by decide +kernel
theorem dL_areGaps_412 : decode cL_areGaps 412 = .ok (.iload 14, 2) := by decide +kernel
theorem dL_areGaps_414 : decode cL_areGaps 414 = .ok (.if_icmp .gt 7, 3) := by decide +kernel
theorem dL_areGaps_417 : decode cL_areGaps 417 = .ok (.iconst 1, 1) := by decide +kernel
theorem dL_areGaps_418 : decode cL_areGaps 418 = .ok (.goto 4, 3) := by decide +kernel
theorem dL_areGaps_421 : decode cL_areGaps 421 = .ok (.iconst 0, 1) := by decide +kernel
theorem dL_areGaps_422 : decode cL_areGaps 422 = .ok (.ireturn, 1) := by decide +kernel
set_option maxRecDepth 400000 in
theorem ggL_areWindows_X5_clock : GoodIn wsL_areWindows wsX5_clock := goodIn_r _ [9, 10, 177, 178, 179, 180, 181, 182, 183] rfl (by decide +kernel)
set_option maxRecDepth 20000 in
theorem gL_areWindows_X5_clock : GoodIn wsL_areWindows (wsV RL 61 RX5 yX5_clock wsX5_clock) := goodIn_app (goodIn_of _ (by decide +kernel)) ggL_areWindows_X5_clock
set_option maxRecDepth 400000 in
theorem ggL_areWindows_L_isGone : GoodIn wsL_areWindows wsL_isGone := goodIn_r _ [14, 15, 16, 13, 17, 18] rfl (by decide +kernel)
set_option maxRecDepth 20000 in
theorem gL_areWindows_L_isGone : GoodIn wsL_areWindows (va_wsS RL 65 yL_isGone wsL_isGone) := goodIn_app (goodIn_of _ (by decide +kernel)) ggL_areWindows_L_isGone
set_option maxRecDepth 400000 in
theorem ggL_areWindows_L_length : GoodIn wsL_areWindows wsL_length := goodIn_r _ [17, 18] rfl (by decide +kernel)
set_option maxRecDepth 20000 in
theorem gL_areWindows_L_length : GoodIn wsL_areWindows (va_wsS RL 11 yL_length wsL_length) := goodIn_app (goodIn_of _ (by decide +kernel)) ggL_areWindows_L_length
set_option maxRecDepth 400000 in
theorem ggL_areWindows_X5_parts : GoodIn wsL_areWindows wsX5_parts := goodIn_ca (goodIn_r _ [22, 23, 24, 25, 8, 26, 27, 28, 29, 30, 31, 32, 33, 34, 35, 36, 37, 38, 39, 40, 41, 42, 43, 44, 45, 46, 47, 48, 49, 50, 51, 177, 178, 179, 180, 181, 182, 183, 184, 185, 186, 187, 188, 189] rfl (by decide +kernel)) (goodIn_sub (fun _ h => List.mem_cons_of_mem _ (List.mem_append_left _ (List.mem_append_left _ (List.mem_append_right _ h)))) (by decide +kernel))
set_option maxRecDepth 20000 in
theorem gL_areWindows_X5_parts : GoodIn wsL_areWindows (wsV RL 94 RX5 yX5_parts wsX5_parts) := goodIn_app (goodIn_of _ (by decide +kernel)) ggL_areWindows_X5_parts
set_option maxRecDepth 400000 in
theorem ggL_areWindows_X5_isKnown : GoodIn wsL_areWindows wsX5_isKnown := goodIn_ca (goodIn_r _ [55, 23, 56, 24, 25, 8, 26, 27, 28, 29, 30, 31, 32, 33, 34, 35, 36, 37, 38, 39, 40, 41, 42, 43, 44, 45, 46, 47, 57, 58, 59, 60, 61, 62, 63, 177, 178, 179, 180, 181, 182, 183, 184, 185, 186, 187, 188, 189] rfl (by decide +kernel)) (goodIn_sub (fun _ h => List.mem_cons_of_mem _ (List.mem_append_left _ (List.mem_append_left _ (List.mem_append_right _ h)))) (by decide +kernel))
set_option maxRecDepth 20000 in
theorem gL_areWindows_X5_isKnown : GoodIn wsL_areWindows (wsV RL 97 RX5 yX5_isKnown wsX5_isKnown) := goodIn_app (goodIn_of _ (by decide +kernel)) ggL_areWindows_X5_isKnown
set_option maxRecDepth 400000 in
theorem ggL_areWindows_X5_total : GoodIn wsL_areWindows wsX5_total := goodIn_ca (goodIn_ca (goodIn_ca (goodIn_r _ [67, 68, 69, 70, 71, 72, 8, 73, 74, 75, 76, 77, 24, 25, 26, 27, 28, 78, 79, 80, 81, 82, 83, 23, 56, 29, 30, 31, 32, 33, 34, 35, 36, 37, 38, 39, 40, 41, 42, 43, 44, 45, 46, 47, 57, 58, 59, 60, 61, 62, 63, 84, 85, 86, 87, 88, 89, 90, 91, 92, 93, 94, 95, 96, 97, 98, 99, 100, 101, 102, 103, 104, 105, 106, 107, 108, 109, 110, 111, 112, 113, 114, 115, 116, 117, 118, 119, 120, 121, 122, 123, 124, 125, 126, 127, 128, 129, 130, 131, 132, 133, 134, 135, 136, 137, 138, 139, 140, 177, 178, 179, 180, 181, 182, 183, 190, 191, 192, 193, 194, 195, 196, 197, 184, 185, 186, 187, 188, 189, 198, 199, 200, 201, 202, 203, 204, 205] rfl (by decide +kernel)) (goodIn_sub (fun _ h => List.mem_cons_of_mem _ (List.mem_append_left _ (List.mem_append_right _ h))) (by decide +kernel))) (goodIn_sub (fun _ h => List.mem_cons_of_mem _ (List.mem_append_left _ (List.mem_append_left _ (List.mem_append_right _ h)))) (by decide +kernel))) (goodIn_sub (fun _ h => List.mem_cons_of_mem _ (List.mem_append_right _ h)) (by decide +kernel))
set_option maxRecDepth 20000 in
theorem gL_areWindows_X5_total : GoodIn wsL_areWindows (wsV RL 101 RX5 yX5_total wsX5_total) := goodIn_app (goodIn_of _ (by decide +kernel)) ggL_areWindows_X5_total
set_option maxRecDepth 400000 in
theorem ggL_areWindows_X5_totalByPoints : GoodIn wsL_areWindows wsX5_totalByPoints := goodIn_ca (goodIn_ca (goodIn_ca (goodIn_r _ [144, 82, 83, 56, 68, 145, 69, 70, 71, 72, 8, 73, 74, 75, 76, 77, 24, 25, 26, 27, 28, 84, 85, 86, 87, 88, 89, 90, 91, 146, 147, 148, 149, 150, 151, 152, 153, 154, 155, 156, 157, 158, 159, 160, 161, 128, 129, 130, 131, 132, 133, 134, 135, 136, 137, 138, 139, 140, 126, 127, 177, 178, 179, 180, 181, 182, 183, 198, 199, 200, 201, 202, 190, 191, 192, 193, 194, 195, 196, 197, 206, 207, 208] rfl (by decide +kernel)) (goodIn_sub (fun _ h => List.mem_cons_of_mem _ (List.mem_append_right _ h)) (by decide +kernel))) (goodIn_sub (fun _ h => List.mem_cons_of_mem _ (List.mem_append_left _ (List.mem_append_right _ h))) (by decide +kernel))) (goodIn_sub (fun _ h => List.mem_cons_of_mem _ (List.mem_append_left _ (List.mem_append_left _ (List.mem_append_right _ h)))) (by decide +kernel))
set_option maxRecDepth 20000 in
theorem gL_areWindows_X5_totalByPoints : GoodIn wsL_areWindows (wsV RL 104 RX5 yX5_totalByPoints wsX5_totalByPoints) := goodIn_app (goodIn_of _ (by decide +kernel)) ggL_areWindows_X5_totalByPoints
set_option maxRecDepth 400000 in
theorem ggL_areWindows_X5_increase : GoodIn wsL_areWindows wsX5_increase := goodIn_ca (goodIn_ca (goodIn_ca (goodIn_r _ [165, 70, 71, 72, 8, 73, 74, 75, 76, 77, 24, 25, 26, 27, 28, 166, 167, 168, 169, 82, 83, 170, 68, 171, 78, 79, 80, 81, 23, 56, 29, 30, 31, 32, 33, 34, 35, 36, 37, 38, 39, 40, 41, 42, 43, 44, 45, 46, 47, 57, 58, 59, 60, 61, 62, 63, 84, 85, 86, 87, 88, 89, 90, 91, 92, 93, 94, 95, 96, 97, 98, 99, 100, 101, 102, 103, 104, 105, 106, 107, 108, 109, 110, 111, 112, 113, 114, 115, 116, 117, 118, 119, 120, 121, 122, 123, 124, 125, 126, 127, 128, 129, 130, 131, 132, 133, 134, 135, 136, 137, 138, 139, 140, 177, 178, 179, 180, 181, 182, 183, 198, 199, 200, 201, 202, 190, 191, 192, 193, 194, 195, 196, 197, 184, 185, 186, 187, 188, 189, 203, 204, 205] rfl (by decide +kernel)) (goodIn_sub (fun _ h => List.mem_cons_of_mem _ (List.mem_append_left _ (List.mem_append_right _ h))) (by decide +kernel))) (goodIn_sub (fun _ h => List.mem_cons_of_mem _ (List.mem_append_left _ (List.mem_append_left _ (List.mem_append_right _ h)))) (by decide +kernel))) (goodIn_sub (fun _ h => List.mem_cons_of_mem _ (List.mem_append_right _ h)) (by decide +kernel))
set_option maxRecDepth 20000 in
theorem gL_areWindows_X5_increase : GoodIn wsL_areWindows (wsV RL 107 RX5 yX5_increase wsX5_increase) := goodIn_app (goodIn_of _ (by decide +kernel)) ggL_areWindows_X5_increase
set_option maxRecDepth 400000 in
theorem ggL_areWindows_X5_ratePerHour : GoodIn wsL_areWindows wsX5_ratePerHour := goodIn_ca (goodIn_ca (goodIn_ca (goodIn_r _ [175, 27, 28, 176, 70, 71, 72, 8, 73, 74, 75, 76, 77, 24, 25, 26, 166, 167, 168, 169, 82, 83, 170, 68, 171, 78, 79, 80, 81, 23, 56, 29, 30, 31, 32, 33, 34, 35, 36, 37, 38, 39, 40, 41, 42, 43, 44, 45, 46, 47, 57, 58, 59, 60, 61, 62, 63, 84, 85, 86, 87, 88, 89, 90, 91, 92, 93, 94, 95, 96, 97, 98, 99, 100, 101, 102, 103, 104, 105, 106, 107, 108, 109, 110, 111, 112, 113, 114, 115, 116, 117, 118, 119, 120, 121, 122, 123, 124, 125, 126, 127, 128, 129, 130, 131, 132, 133, 134, 135, 136, 137, 138, 139, 140, 177, 178, 179, 180, 181, 182, 183, 198, 199, 200, 201, 202, 190, 191, 192, 193, 194, 195, 196, 197, 184, 185, 186, 187, 188, 189, 203, 204, 205] rfl (by decide +kernel)) (goodIn_sub (fun _ h => List.mem_cons_of_mem _ (List.mem_append_left _ (List.mem_append_left _ (List.mem_append_right _ h)))) (by decide +kernel))) (goodIn_sub (fun _ h => List.mem_cons_of_mem _ (List.mem_append_left _ (List.mem_append_right _ h))) (by decide +kernel))) (goodIn_sub (fun _ h => List.mem_cons_of_mem _ (List.mem_append_right _ h)) (by decide +kernel))
set_option maxRecDepth 20000 in
theorem gL_areWindows_X5_ratePerHour : GoodIn wsL_areWindows (wsV RL 112 RX5 yX5_ratePerHour wsX5_ratePerHour) := goodIn_app (goodIn_of _ (by decide +kernel)) ggL_areWindows_X5_ratePerHour
theorem dL_areWindows_0 : decode cL_areWindows 0 = .ok (.iload_n 3, 1) := by decide +kernel
theorem dL_areWindows_1 : decode cL_areWindows 1 = .ok (.iconst 3, 1) := by decide +kernel
theorem dL_areWindows_2 : decode cL_areWindows 2 = .ok (.irem, 1) := by decide +kernel
theorem dL_areWindows_3 : decode cL_areWindows 3 = .ok (.ifCond .ne 16, 3) := by decide +kernel
theorem dL_areWindows_6 : decode cL_areWindows 6 = .ok (.iload_n 3, 1) := by decide +kernel
theorem dL_areWindows_7 : decode cL_areWindows 7 = .ok (.iconst 3, 1) := by decide +kernel
theorem dL_areWindows_8 : decode cL_areWindows 8 = .ok (.idiv, 1) := by decide +kernel
theorem dL_areWindows_9 : decode cL_areWindows 9 = .ok (.bipush 40, 2) := by decide +kernel
theorem dL_areWindows_11 : decode cL_areWindows 11 = .ok (.irem, 1) := by decide +kernel
theorem dL_areWindows_12 : decode cL_areWindows 12 = .ok (.sipush 3600, 3) := by decide +kernel
theorem dL_areWindows_15 : decode cL_areWindows 15 = .ok (.imul, 1) := by decide +kernel
theorem dL_areWindows_16 : decode cL_areWindows 16 = .ok (.goto 24, 3) := by decide +kernel
theorem dL_areWindows_19 : decode cL_areWindows 19 = .ok (.aload_n 0, 1) := by decide +kernel
theorem dL_areWindows_20 : decode cL_areWindows 20 = .ok (.invokevirtual 61, 3) := by decide +kernel
theorem dL_areWindows_23 : decode cL_areWindows 23 = .ok (.bipush 60, 2) := by decide +kernel
theorem dL_areWindows_25 : decode cL_areWindows 25 = .ok (.idiv, 1) := by decide +kernel
theorem dL_areWindows_26 : decode cL_areWindows 26 = .ok (.bipush 60, 2) := by decide +kernel
theorem dL_areWindows_28 : decode cL_areWindows 28 = .ok (.imul, 1) := by decide +kernel
theorem dL_areWindows_29 : decode cL_areWindows 29 = .ok (.iload_n 3, 1) := by decide +kernel
theorem dL_areWindows_30 : decode cL_areWindows 30 = .ok (.iconst 3, 1) := by decide +kernel
theorem dL_areWindows_31 : decode cL_areWindows 31 = .ok (.idiv, 1) := by decide +kernel
theorem dL_areWindows_32 : decode cL_areWindows 32 = .ok (.sipush 300, 3) := by decide +kernel
theorem dL_areWindows_35 : decode cL_areWindows 35 = .ok (.irem, 1) := by decide +kernel
theorem dL_areWindows_36 : decode cL_areWindows 36 = .ok (.bipush 60, 2) := by decide +kernel
theorem dL_areWindows_38 : decode cL_areWindows 38 = .ok (.imul, 1) := by decide +kernel
theorem dL_areWindows_39 : decode cL_areWindows 39 = .ok (.isub, 1) := by decide +kernel
theorem dL_areWindows_40 : decode cL_areWindows 40 = .ok (.istore 5, 2) := by decide +kernel
theorem dL_areWindows_42 : decode cL_areWindows 42 = .ok (.iload 5, 2) := by decide +kernel
theorem dL_areWindows_44 : decode cL_areWindows 44 = .ok (.ifCond .ge 7, 3) := by decide +kernel
theorem dL_areWindows_47 : decode cL_areWindows 47 = .ok (.iconst 0, 1) := by decide +kernel
theorem dL_areWindows_48 : decode cL_areWindows 48 = .ok (.goto 5, 3) := by decide +kernel
theorem dL_areWindows_51 : decode cL_areWindows 51 = .ok (.iload 5, 2) := by decide +kernel
theorem dL_areWindows_53 : decode cL_areWindows 53 = .ok (.istore 5, 2) := by decide +kernel
theorem dL_areWindows_55 : decode cL_areWindows 55 = .ok (.iload 5, 2) := by decide +kernel
theorem dL_areWindows_57 : decode cL_areWindows 57 = .ok (.iload 4, 2) := by decide +kernel
theorem dL_areWindows_59 : decode cL_areWindows 59 = .ok (.sipush 200, 3) := by decide +kernel
theorem dL_areWindows_62 : decode cL_areWindows 62 = .ok (.irem, 1) := by decide +kernel
theorem dL_areWindows_63 : decode cL_areWindows 63 = .ok (.bipush 60, 2) := by decide +kernel
theorem dL_areWindows_65 : decode cL_areWindows 65 = .ok (.imul, 1) := by decide +kernel
theorem dL_areWindows_66 : decode cL_areWindows 66 = .ok (.iadd, 1) := by decide +kernel
theorem dL_areWindows_67 : decode cL_areWindows 67 = .ok (.istore 6, 2) := by decide +kernel
theorem dL_areWindows_69 : decode cL_areWindows 69 = .ok (.iload 6, 2) := by decide +kernel
theorem dL_areWindows_71 : decode cL_areWindows 71 = .ok (.iload 4, 2) := by decide +kernel
theorem dL_areWindows_73 : decode cL_areWindows 73 = .ok (.iconst 5, 1) := by decide +kernel
theorem dL_areWindows_74 : decode cL_areWindows 74 = .ok (.irem, 1) := by decide +kernel
theorem dL_areWindows_75 : decode cL_areWindows 75 = .ok (.ifCond .ne 17, 3) := by decide +kernel
theorem dL_areWindows_78 : decode cL_areWindows 78 = .ok (.iload 4, 2) := by decide +kernel
theorem dL_areWindows_80 : decode cL_areWindows 80 = .ok (.iconst 5, 1) := by decide +kernel
theorem dL_areWindows_81 : decode cL_areWindows 81 = .ok (.idiv, 1) := by decide +kernel
theorem dL_areWindows_82 : decode cL_areWindows 82 = .ok (.bipush 50, 2) := by decide +kernel
theorem dL_areWindows_84 : decode cL_areWindows 84 = .ok (.irem, 1) := by decide +kernel
theorem dL_areWindows_85 : decode cL_areWindows 85 = .ok (.sipush 3600, 3) := by decide +kernel
theorem dL_areWindows_88 : decode cL_areWindows 88 = .ok (.imul, 1) := by decide +kernel
theorem dL_areWindows_89 : decode cL_areWindows 89 = .ok (.goto 13, 3) := by decide +kernel
theorem dL_areWindows_92 : decode cL_areWindows 92 = .ok (.iload 4, 2) := by decide +kernel
theorem dL_areWindows_94 : decode cL_areWindows 94 = .ok (.iconst 5, 1) := by decide +kernel
theorem dL_areWindows_95 : decode cL_areWindows 95 = .ok (.idiv, 1) := by decide +kernel
theorem dL_areWindows_96 : decode cL_areWindows 96 = .ok (.bipush 100, 2) := by decide +kernel
theorem dL_areWindows_98 : decode cL_areWindows 98 = .ok (.irem, 1) := by decide +kernel
theorem dL_areWindows_99 : decode cL_areWindows 99 = .ok (.bipush 60, 2) := by decide +kernel
theorem dL_areWindows_101 : decode cL_areWindows 101 = .ok (.imul, 1) := by decide +kernel
theorem dL_areWindows_102 : decode cL_areWindows 102 = .ok (.iadd, 1) := by decide +kernel
theorem dL_areWindows_103 : decode cL_areWindows 103 = .ok (.istore 7, 2) := by decide +kernel
theorem dL_areWindows_105 : decode cL_areWindows 105 = .ok (.iconst 0, 1) := by decide +kernel
theorem dL_areWindows_106 : decode cL_areWindows 106 = .ok (.istore 8, 2) := by decide +kernel
theorem dL_areWindows_108 : decode cL_areWindows 108 = .ok (.iconst 1, 1) := by decide +kernel
theorem dL_areWindows_109 : decode cL_areWindows 109 = .ok (.istore 9, 2) := by decide +kernel
theorem dL_areWindows_111 : decode cL_areWindows 111 = .ok (.iload 5, 2) := by decide +kernel
theorem dL_areWindows_113 : decode cL_areWindows 113 = .ok (.i2l, 1) := by decide +kernel
theorem dL_areWindows_114 : decode cL_areWindows 114 = .ok (.lstore 10, 2) := by decide +kernel
theorem dL_areWindows_116 : decode cL_areWindows 116 = .ok (.lload 10, 2) := by decide +kernel
theorem dL_areWindows_118 : decode cL_areWindows 118 = .ok (.iload 7, 2) := by decide +kernel
theorem dL_areWindows_120 : decode cL_areWindows 120 = .ok (.i2l, 1) := by decide +kernel
theorem dL_areWindows_121 : decode cL_areWindows 121 = .ok (.lcmp, 1) := by decide +kernel
theorem dL_areWindows_122 : decode cL_areWindows 122 = .ok (.ifCond .ge 102, 3) := by decide +kernel
theorem dL_areWindows_125 : decode cL_areWindows 125 = .ok (.lload 10, 2) := by decide +kernel
theorem dL_areWindows_127 : decode cL_areWindows 127 = .ok (.ldc2_w 90, 3) := by decide +kernel
theorem dL_areWindows_130 : decode cL_areWindows 130 = .ok (.lrem, 1) := by decide +kernel
theorem dL_areWindows_131 : decode cL_areWindows 131 = .ok (.lconst 0, 1) := by decide +kernel
theorem dL_areWindows_132 : decode cL_areWindows 132 = .ok (.lcmp, 1) := by decide +kernel
theorem dL_areWindows_133 : decode cL_areWindows 133 = .ok (.ifCond .ne 20, 3) := by decide +kernel
theorem dL_areWindows_136 : decode cL_areWindows 136 = .ok (.lload 10, 2) := by decide +kernel
theorem dL_areWindows_138 : decode cL_areWindows 138 = .ok (.ldc2_w 90, 3) := by decide +kernel
theorem dL_areWindows_141 : decode cL_areWindows 141 = .ok (.ladd, 1) := by decide +kernel
theorem dL_areWindows_142 : decode cL_areWindows 142 = .ok (.iload 7, 2) := by decide +kernel
theorem dL_areWindows_144 : decode cL_areWindows 144 = .ok (.i2l, 1) := by decide +kernel
theorem dL_areWindows_145 : decode cL_areWindows 145 = .ok (.lcmp, 1) := by decide +kernel
theorem dL_areWindows_146 : decode cL_areWindows 146 = .ok (.ifCond .gt 7, 3) := by decide +kernel
theorem dL_areWindows_149 : decode cL_areWindows 149 = .ok (.iconst 3, 1) := by decide +kernel
theorem dL_areWindows_150 : decode cL_areWindows 150 = .ok (.goto 32, 3) := by decide +kernel
theorem dL_areWindows_153 : decode cL_areWindows 153 = .ok (.lload 10, 2) := by decide +kernel
theorem dL_areWindows_155 : decode cL_areWindows 155 = .ok (.ldc2_w 92, 3) := by decide +kernel
theorem dL_areWindows_158 : decode cL_areWindows 158 = .ok (.lrem, 1) := by decide +kernel
theorem dL_areWindows_159 : decode cL_areWindows 159 = .ok (.lconst 0, 1) := by decide +kernel
theorem dL_areWindows_160 : decode cL_areWindows 160 = .ok (.lcmp, 1) := by decide +kernel
theorem dL_areWindows_161 : decode cL_areWindows 161 = .ok (.ifCond .ne 20, 3) := by decide +kernel
theorem dL_areWindows_164 : decode cL_areWindows 164 = .ok (.lload 10, 2) := by decide +kernel
theorem dL_areWindows_166 : decode cL_areWindows 166 = .ok (.ldc2_w 92, 3) := by decide +kernel
theorem dL_areWindows_169 : decode cL_areWindows 169 = .ok (.ladd, 1) := by decide +kernel
theorem dL_areWindows_170 : decode cL_areWindows 170 = .ok (.iload 7, 2) := by decide +kernel
theorem dL_areWindows_172 : decode cL_areWindows 172 = .ok (.i2l, 1) := by decide +kernel
theorem dL_areWindows_173 : decode cL_areWindows 173 = .ok (.lcmp, 1) := by decide +kernel
theorem dL_areWindows_174 : decode cL_areWindows 174 = .ok (.ifCond .gt 7, 3) := by decide +kernel
theorem dL_areWindows_177 : decode cL_areWindows 177 = .ok (.iconst 2, 1) := by decide +kernel
theorem dL_areWindows_178 : decode cL_areWindows 178 = .ok (.goto 4, 3) := by decide +kernel
theorem dL_areWindows_181 : decode cL_areWindows 181 = .ok (.iconst 1, 1) := by decide +kernel
theorem dL_areWindows_182 : decode cL_areWindows 182 = .ok (.istore 12, 2) := by decide +kernel
theorem dL_areWindows_184 : decode cL_areWindows 184 = .ok (.iload 9, 2) := by decide +kernel
theorem dL_areWindows_186 : decode cL_areWindows 186 = .ok (.ifCond .eq 18, 3) := by decide +kernel
theorem dL_areWindows_189 : decode cL_areWindows 189 = .ok (.aload_n 1, 1) := by decide +kernel
theorem dL_areWindows_190 : decode cL_areWindows 190 = .ok (.iload 12, 2) := by decide +kernel
theorem dL_areWindows_192 : decode cL_areWindows 192 = .ok (.lload 10, 2) := by decide +kernel
theorem dL_areWindows_194 : decode cL_areWindows 194 = .ok (.invokestatic 65, 3) := by decide +kernel
theorem dL_areWindows_197 : decode cL_areWindows 197 = .ok (.ifCond .ne 7, 3) := by decide +kernel
theorem dL_areWindows_200 : decode cL_areWindows 200 = .ok (.iconst 1, 1) := by decide +kernel
theorem dL_areWindows_201 : decode cL_areWindows 201 = .ok (.goto 4, 3) := by decide +kernel
theorem dL_areWindows_204 : decode cL_areWindows 204 = .ok (.iconst 0, 1) := by decide +kernel
theorem dL_areWindows_205 : decode cL_areWindows 205 = .ok (.istore 9, 2) := by decide +kernel
theorem dL_areWindows_207 : decode cL_areWindows 207 = .ok (.lload 10, 2) := by decide +kernel
theorem dL_areWindows_209 : decode cL_areWindows 209 = .ok (.iload 12, 2) := by decide +kernel
theorem dL_areWindows_211 : decode cL_areWindows 211 = .ok (.invokestatic 11, 3) := by decide +kernel
theorem dL_areWindows_214 : decode cL_areWindows 214 = .ok (.i2l, 1) := by decide +kernel
theorem dL_areWindows_215 : decode cL_areWindows 215 = .ok (.ladd, 1) := by decide +kernel
theorem dL_areWindows_216 : decode cL_areWindows 216 = .ok (.lstore 10, 2) := by decide +kernel
theorem dL_areWindows_218 : decode cL_areWindows 218 = .ok (.iinc 8 1, 3) := by decide +kernel
theorem dL_areWindows_221 : decode cL_areWindows 221 = .ok (.goto (-105), 3) := by decide +kernel
theorem dL_areWindows_224 : decode cL_areWindows 224 = .ok (.aload_n 0, 1) := by decide +kernel
theorem dL_areWindows_225 : decode cL_areWindows 225 = .ok (.iload 5, 2) := by decide +kernel
theorem dL_areWindows_227 : decode cL_areWindows 227 = .ok (.iload 7, 2) := by decide +kernel
theorem dL_areWindows_229 : decode cL_areWindows 229 = .ok (.invokevirtual 94, 3) := by decide +kernel
theorem dL_areWindows_232 : decode cL_areWindows 232 = .ok (.iload 8, 2) := by decide +kernel
theorem dL_areWindows_234 : decode cL_areWindows 234 = .ok (.if_icmp .ne 42, 3) := by decide +kernel
theorem dL_areWindows_237 : decode cL_areWindows 237 = .ok (.aload_n 0, 1) := by decide +kernel
theorem dL_areWindows_238 : decode cL_areWindows 238 = .ok (.iload 5, 2) := by decide +kernel
theorem dL_areWindows_240 : decode cL_areWindows 240 = .ok (.iload 7, 2) := by decide +kernel
theorem dL_areWindows_242 : decode cL_areWindows 242 = .ok (.invokevirtual 97, 3) := by decide +kernel
theorem dL_areWindows_245 : decode cL_areWindows 245 = .ok (.iload 9, 2) := by decide +kernel
theorem dL_areWindows_247 : decode cL_areWindows 247 = .ok (.if_icmp .ne 29, 3) := by decide +kernel
theorem dL_areWindows_250 : decode cL_areWindows 250 = .ok (.aload_n 0, 1) := by decide +kernel
theorem dL_areWindows_251 : decode cL_areWindows 251 = .ok (.iload 5, 2) := by decide +kernel
theorem dL_areWindows_253 : decode cL_areWindows 253 = .ok (.iload 5, 2) := by decide +kernel
theorem dL_areWindows_255 : decode cL_areWindows 255 = .ok (.invokevirtual 94, 3) := by decide +kernel
theorem dL_areWindows_258 : decode cL_areWindows 258 = .ok (.ifCond .ne 18, 3) := by decide +kernel
theorem dL_areWindows_261 : decode cL_areWindows 261 = .ok (.aload_n 0, 1) := by decide +kernel
theorem dL_areWindows_262 : decode cL_areWindows 262 = .ok (.iload 5, 2) := by decide +kernel
theorem dL_areWindows_264 : decode cL_areWindows 264 = .ok (.iload 5, 2) := by decide +kernel
theorem dL_areWindows_266 : decode cL_areWindows 266 = .ok (.invokevirtual 97, 3) := by decide +kernel
theorem dL_areWindows_269 : decode cL_areWindows 269 = .ok (.ifCond .eq 7, 3) := by decide +kernel
theorem dL_areWindows_272 : decode cL_areWindows 272 = .ok (.iconst 1, 1) := by decide +kernel
theorem dL_areWindows_273 : decode cL_areWindows 273 = .ok (.goto 4, 3) := by decide +kernel
theorem dL_areWindows_276 : decode cL_areWindows 276 = .ok (.iconst 0, 1) := by decide +kernel
theorem dL_areWindows_277 : decode cL_areWindows 277 = .ok (.istore 10, 2) := by decide +kernel
theorem dL_areWindows_279 : decode cL_areWindows 279 = .ok (.iload 9, 2) := by decide +kernel
theorem dL_areWindows_281 : decode cL_areWindows 281 = .ok (.ifCond .eq 25, 3) := by decide +kernel
theorem dL_areWindows_284 : decode cL_areWindows 284 = .ok (.aload_n 0, 1) := by decide +kernel
theorem dL_areWindows_285 : decode cL_areWindows 285 = .ok (.iload 5, 2) := by decide +kernel
theorem dL_areWindows_287 : decode cL_areWindows 287 = .ok (.iload 6, 2) := by decide +kernel
theorem dL_areWindows_289 : decode cL_areWindows 289 = .ok (.invokevirtual 97, 3) := by decide +kernel
theorem dL_areWindows_292 : decode cL_areWindows 292 = .ok (.ifCond .eq 14, 3) := by decide +kernel
theorem dL_areWindows_295 : decode cL_areWindows 295 = .ok (.aload_n 0, 1) := by decide +kernel
theorem dL_areWindows_296 : decode cL_areWindows 296 = .ok (.iload 6, 2) := by decide +kernel
theorem dL_areWindows_298 : decode cL_areWindows 298 = .ok (.iload 7, 2) := by decide +kernel
theorem dL_areWindows_300 : decode cL_areWindows 300 = .ok (.invokevirtual 97, 3) := by decide +kernel
theorem dL_areWindows_303 : decode cL_areWindows 303 = .ok (.ifCond .ne 6, 3) := by decide +kernel
theorem dL_areWindows_306 : decode cL_areWindows 306 = .ok (.iload 10, 2) := by decide +kernel
theorem dL_areWindows_308 : decode cL_areWindows 308 = .ok (.ireturn, 1) := by decide +kernel
theorem dL_areWindows_309 : decode cL_areWindows 309 = .ok (.aload_n 0, 1) := by decide +kernel
theorem dL_areWindows_310 : decode cL_areWindows 310 = .ok (.iload_n 2, 1) := by decide +kernel
theorem dL_areWindows_311 : decode cL_areWindows 311 = .ok (.iload 5, 2) := by decide +kernel
theorem dL_areWindows_313 : decode cL_areWindows 313 = .ok (.iload 7, 2) := by decide +kernel
theorem dL_areWindows_315 : decode cL_areWindows 315 = .ok (.invokevirtual 101, 3) := by decide +kernel
theorem dL_areWindows_318 : decode cL_areWindows 318 = .ok (.lstore 11, 2) := by decide +kernel
theorem dL_areWindows_320 : decode cL_areWindows 320 = .ok (.iload 10, 2) := by decide +kernel
theorem dL_areWindows_322 : decode cL_areWindows 322 = .ok (.ifCond .eq 56, 3) := by decide +kernel
theorem dL_areWindows_325 : decode cL_areWindows 325 = .ok (.lload 11, 2) := by decide +kernel
theorem dL_areWindows_327 : decode cL_areWindows 327 = .ok (.aload_n 0, 1) := by decide +kernel
theorem dL_areWindows_328 : decode cL_areWindows 328 = .ok (.iload_n 2, 1) := by decide +kernel
theorem dL_areWindows_329 : decode cL_areWindows 329 = .ok (.iload 5, 2) := by decide +kernel
theorem dL_areWindows_331 : decode cL_areWindows 331 = .ok (.iload 6, 2) := by decide +kernel
theorem dL_areWindows_333 : decode cL_areWindows 333 = .ok (.invokevirtual 101, 3) := by decide +kernel
theorem dL_areWindows_336 : decode cL_areWindows 336 = .ok (.aload_n 0, 1) := by decide +kernel
theorem dL_areWindows_337 : decode cL_areWindows 337 = .ok (.iload_n 2, 1) := by decide +kernel
theorem dL_areWindows_338 : decode cL_areWindows 338 = .ok (.iload 6, 2) := by decide +kernel
theorem dL_areWindows_340 : decode cL_areWindows 340 = .ok (.iload 7, 2) := by decide +kernel
theorem dL_areWindows_342 : decode cL_areWindows 342 = .ok (.invokevirtual 101, 3) := by decide +kernel
theorem dL_areWindows_345 : decode cL_areWindows 345 = .ok (.ladd, 1) := by decide +kernel
theorem dL_areWindows_346 : decode cL_areWindows 346 = .ok (.lcmp, 1) := by decide +kernel
theorem dL_areWindows_347 : decode cL_areWindows 347 = .ok (.ifCond .ne 31, 3) := by decide +kernel
theorem dL_areWindows_350 : decode cL_areWindows 350 = .ok (.iload 5, 2) := by decide +kernel
theorem dL_areWindows_352 : decode cL_areWindows 352 = .ok (.aload_n 1, 1) := by decide +kernel
theorem dL_areWindows_353 : decode cL_areWindows 353 = .ok (.bipush 6, 2) := by decide +kernel
theorem dL_areWindows_355 : decode cL_areWindows 355 = .ok (.iaload, 1) := by decide +kernel
theorem dL_areWindows_356 : decode cL_areWindows 356 = .ok (.if_icmp .lt 18, 3) := by decide +kernel
theorem dL_areWindows_359 : decode cL_areWindows 359 = .ok (.aload_n 0, 1) := by decide +kernel
theorem dL_areWindows_360 : decode cL_areWindows 360 = .ok (.iload_n 2, 1) := by decide +kernel
theorem dL_areWindows_361 : decode cL_areWindows 361 = .ok (.iload 5, 2) := by decide +kernel
theorem dL_areWindows_363 : decode cL_areWindows 363 = .ok (.iload 7, 2) := by decide +kernel
theorem dL_areWindows_365 : decode cL_areWindows 365 = .ok (.invokevirtual 104, 3) := by decide +kernel
theorem dL_areWindows_368 : decode cL_areWindows 368 = .ok (.lload 11, 2) := by decide +kernel
theorem dL_areWindows_370 : decode cL_areWindows 370 = .ok (.lcmp, 1) := by decide +kernel
theorem dL_areWindows_371 : decode cL_areWindows 371 = .ok (.ifCond .ne 7, 3) := by decide +kernel
theorem dL_areWindows_374 : decode cL_areWindows 374 = .ok (.iconst 1, 1) := by decide +kernel
theorem dL_areWindows_375 : decode cL_areWindows 375 = .ok (.goto 4, 3) := by decide +kernel
theorem dL_areWindows_378 : decode cL_areWindows 378 = .ok (.iconst 0, 1) := by decide +kernel
theorem dL_areWindows_379 : decode cL_areWindows 379 = .ok (.istore 10, 2) := by decide +kernel
theorem dL_areWindows_381 : decode cL_areWindows 381 = .ok (.aload_n 1, 1) := by decide +kernel
theorem dL_areWindows_382 : decode cL_areWindows 382 = .ok (.iload_n 2, 1) := by decide +kernel
theorem dL_areWindows_383 : decode cL_areWindows 383 = .ok (.iaload, 1) := by decide +kernel
theorem dL_areWindows_384 : decode cL_areWindows 384 = .ok (.ifCond .ne 6, 3) := by decide +kernel
theorem dL_areWindows_387 : decode cL_areWindows 387 = .ok (.iload 10, 2) := by decide +kernel
theorem dL_areWindows_389 : decode cL_areWindows 389 = .ok (.ireturn, 1) := by decide +kernel
theorem dL_areWindows_390 : decode cL_areWindows 390 = .ok (.aload_n 0, 1) := by decide +kernel
theorem dL_areWindows_391 : decode cL_areWindows 391 = .ok (.iload_n 2, 1) := by decide +kernel
theorem dL_areWindows_392 : decode cL_areWindows 392 = .ok (.iload 5, 2) := by decide +kernel
theorem dL_areWindows_394 : decode cL_areWindows 394 = .ok (.iload 7, 2) := by decide +kernel
theorem dL_areWindows_396 : decode cL_areWindows 396 = .ok (.invokevirtual 107, 3) := by decide +kernel
theorem dL_areWindows_399 : decode cL_areWindows 399 = .ok (.lstore 13, 2) := by decide +kernel
theorem dL_areWindows_401 : decode cL_areWindows 401 = .ok (.aload_n 0, 1) := by decide +kernel
theorem dL_areWindows_402 : decode cL_areWindows 402 = .ok (.iload_n 2, 1) := by decide +kernel
theorem dL_areWindows_403 : decode cL_areWindows 403 = .ok (.iload 5, 2) := by decide +kernel
theorem dL_areWindows_405 : decode cL_areWindows 405 = .ok (.iload 6, 2) := by decide +kernel
theorem dL_areWindows_407 : decode cL_areWindows 407 = .ok (.invokevirtual 107, 3) := by decide +kernel
theorem dL_areWindows_410 : decode cL_areWindows 410 = .ok (.lstore 15, 2) := by decide +kernel
theorem dL_areWindows_412 : decode cL_areWindows 412 = .ok (.aload_n 0, 1) := by decide +kernel
theorem dL_areWindows_413 : decode cL_areWindows 413 = .ok (.iload_n 2, 1) := by decide +kernel
theorem dL_areWindows_414 : decode cL_areWindows 414 = .ok (.iload 6, 2) := by decide +kernel
theorem dL_areWindows_416 : decode cL_areWindows 416 = .ok (.iload 7, 2) := by decide +kernel
theorem dL_areWindows_418 : decode cL_areWindows 418 = .ok (.invokevirtual 107, 3) := by decide +kernel
theorem dL_areWindows_421 : decode cL_areWindows 421 = .ok (.lstore 17, 2) := by decide +kernel
theorem dL_areWindows_423 : decode cL_areWindows 423 = .ok (.iload 5, 2) := by decide +kernel
theorem dL_areWindows_425 : decode cL_areWindows 425 = .ok (.iload 6, 2) := by decide +kernel
theorem dL_areWindows_427 : decode cL_areWindows 427 = .ok (.if_icmp .eq 36, 3) := by decide +kernel
theorem dL_areWindows_430 : decode cL_areWindows 430 = .ok (.iload 6, 2) := by decide +kernel
theorem dL_areWindows_432 : decode cL_areWindows 432 = .ok (.iload 7, 2) := by decide +kernel
theorem dL_areWindows_434 : decode cL_areWindows 434 = .ok (.if_icmp .eq 29, 3) := by decide +kernel
theorem dL_areWindows_437 : decode cL_areWindows 437 = .ok (.lload 13, 2) := by decide +kernel
theorem dL_areWindows_439 : decode cL_areWindows 439 = .ok (.lload 15, 2) := by decide +kernel
theorem dL_areWindows_441 : decode cL_areWindows 441 = .ok (.lload 17, 2) := by decide +kernel
theorem dL_areWindows_443 : decode cL_areWindows 443 = .ok (.ladd, 1) := by decide +kernel
theorem dL_areWindows_444 : decode cL_areWindows 444 = .ok (.lcmp, 1) := by decide +kernel
theorem dL_areWindows_445 : decode cL_areWindows 445 = .ok (.ifCond .lt 22, 3) := by decide +kernel
theorem dL_areWindows_448 : decode cL_areWindows 448 = .ok (.lload 13, 2) := by decide +kernel
theorem dL_areWindows_450 : decode cL_areWindows 450 = .ok (.lload 15, 2) := by decide +kernel
theorem dL_areWindows_452 : decode cL_areWindows 452 = .ok (.lload 17, 2) := by decide +kernel
theorem dL_areWindows_454 : decode cL_areWindows 454 = .ok (.ladd, 1) := by decide +kernel
theorem dL_areWindows_455 : decode cL_areWindows 455 = .ok (.ldc2_w 110, 3) := by decide +kernel
theorem dL_areWindows_458 : decode cL_areWindows 458 = .ok (.ladd, 1) := by decide +kernel
theorem dL_areWindows_459 : decode cL_areWindows 459 = .ok (.lcmp, 1) := by decide +kernel
theorem dL_areWindows_460 : decode cL_areWindows 460 = .ok (.ifCond .gt 7, 3) := by decide +kernel
theorem dL_areWindows_463 : decode cL_areWindows 463 = .ok (.iconst 1, 1) := by decide +kernel
theorem dL_areWindows_464 : decode cL_areWindows 464 = .ok (.goto 4, 3) := by decide +kernel
theorem dL_areWindows_467 : decode cL_areWindows 467 = .ok (.iconst 0, 1) := by decide +kernel
theorem dL_areWindows_468 : decode cL_areWindows 468 = .ok (.istore 19, 2) := by decide +kernel
theorem dL_areWindows_470 : decode cL_areWindows 470 = .ok (.iload 10, 2) := by decide +kernel
theorem dL_areWindows_472 : decode cL_areWindows 472 = .ok (.ifCond .eq 53, 3) := by decide +kernel
theorem dL_areWindows_475 : decode cL_areWindows 475 = .ok (.lload 13, 2) := by decide +kernel
theorem dL_areWindows_477 : decode cL_areWindows 477 = .ok (.lconst 0, 1) := by decide +kernel
theorem dL_areWindows_478 : decode cL_areWindows 478 = .ok (.lcmp, 1) := by decide +kernel
theorem dL_areWindows_479 : decode cL_areWindows 479 = .ok (.ifCond .lt 46, 3) := by decide +kernel
theorem dL_areWindows_482 : decode cL_areWindows 482 = .ok (.iload 19, 2) := by decide +kernel
theorem dL_areWindows_484 : decode cL_areWindows 484 = .ok (.ifCond .eq 41, 3) := by decide +kernel
theorem dL_areWindows_487 : decode cL_areWindows 487 = .ok (.iload 5, 2) := by decide +kernel
theorem dL_areWindows_489 : decode cL_areWindows 489 = .ok (.iload 7, 2) := by decide +kernel
theorem dL_areWindows_491 : decode cL_areWindows 491 = .ok (.if_icmp .eq 30, 3) := by decide +kernel
theorem dL_areWindows_494 : decode cL_areWindows 494 = .ok (.aload_n 0, 1) := by decide +kernel
theorem dL_areWindows_495 : decode cL_areWindows 495 = .ok (.iload_n 2, 1) := by decide +kernel
theorem dL_areWindows_496 : decode cL_areWindows 496 = .ok (.iload 5, 2) := by decide +kernel
theorem dL_areWindows_498 : decode cL_areWindows 498 = .ok (.iload 7, 2) := by decide +kernel
theorem dL_areWindows_500 : decode cL_areWindows 500 = .ok (.invokevirtual 112, 3) := by decide +kernel
theorem dL_areWindows_503 : decode cL_areWindows 503 = .ok (.lload 13, 2) := by decide +kernel
theorem dL_areWindows_505 : decode cL_areWindows 505 = .ok (.l2d, 1) := by decide +kernel
theorem dL_areWindows_506 : decode cL_areWindows 506 = .ok (.ldc2_w 115, 3) := by decide +kernel
theorem dL_areWindows_509 : decode cL_areWindows 509 = .ok (.dmul, 1) := by decide +kernel
theorem dL_areWindows_510 : decode cL_areWindows 510 = .ok (.iload 7, 2) := by decide +kernel
theorem dL_areWindows_512 : decode cL_areWindows 512 = .ok (.iload 5, 2) := by decide +kernel
theorem dL_areWindows_514 : decode cL_areWindows 514 = .ok (.isub, 1) := by decide +kernel
theorem dL_areWindows_515 : decode cL_areWindows 515 = .ok (.i2d, 1) := by decide +kernel
theorem dL_areWindows_516 : decode cL_areWindows 516 = .ok (.ddiv, 1) := by decide +kernel
theorem dL_areWindows_517 : decode cL_areWindows 517 = .ok (.dcmp .l, 1) := by decide +kernel
theorem dL_areWindows_518 : decode cL_areWindows 518 = .ok (.ifCond .ne 7, 3) := by decide +kernel
theorem dL_areWindows_521 : decode cL_areWindows 521 = .ok (.iconst 1, 1) := by decide +kernel
theorem dL_areWindows_522 : decode cL_areWindows 522 = .ok (.goto 4, 3) := by decide +kernel
theorem dL_areWindows_525 : decode cL_areWindows 525 = .ok (.iconst 0, 1) := by decide +kernel
theorem dL_areWindows_526 : decode cL_areWindows 526 = .ok (.ireturn, 1) := by decide +kernel
set_option maxRecDepth 400000 in
theorem ggL_writes_L_valueAt : GoodIn wsL_writes wsL_valueAt := goodIn_ca (goodIn_ca (goodIn_r _ [5, 6, 1, 7, 8, 9, 10, 11, 12, 13, 14, 15, 16, 17, 18, 19, 20, 21, 22, 23, 24, 25, 26, 27, 28, 29, 30, 31, 32, 33, 34, 35, 36, 37, 230, 231, 232, 233, 234, 235, 236, 237, 238, 239, 240, 241, 242, 243, 244] rfl (by decide +kernel)) (goodIn_sub (fun _ h => List.mem_cons_of_mem _ (List.mem_append_left _ (List.mem_append_left _ (List.mem_append_right _ h)))) (by decide +kernel))) (goodIn_sub (fun _ h => List.mem_cons_of_mem _ (List.mem_append_left _ (List.mem_append_right _ h))) (by decide +kernel))
set_option maxRecDepth 20000 in
theorem gL_writes_L_valueAt : GoodIn wsL_writes (va_wsS RL 117 yL_valueAt wsL_valueAt) := goodIn_app (goodIn_of _ (by decide +kernel)) ggL_writes_L_valueAt
set_option maxRecDepth 400000 in
theorem ggL_writes_X5_rows : GoodIn wsL_writes wsX5_rows := goodIn_ca (goodIn_ca (goodIn_r _ [41, 14, 15, 16, 10, 17, 18, 19, 20, 21, 42, 43, 44, 45, 46, 47, 48, 49, 50, 51, 52, 53, 54, 55, 56, 57, 58, 59, 60, 61, 238, 239, 240, 241, 242, 243, 244, 230, 231, 232, 233, 234, 235, 236, 237, 245, 246, 247] rfl (by decide +kernel)) (goodIn_sub (fun _ h => List.mem_cons_of_mem _ (List.mem_append_left _ (List.mem_append_left _ (List.mem_append_right _ h)))) (by decide +kernel))) (goodIn_sub (fun _ h => List.mem_cons_of_mem _ (List.mem_append_right _ h)) (by decide +kernel))
set_option maxRecDepth 20000 in
theorem gL_writes_X5_rows : GoodIn wsL_writes (wsV RL 36 RX5 yX5_rows wsX5_rows) := goodIn_app (goodIn_of _ (by decide +kernel)) ggL_writes_X5_rows
set_option maxRecDepth 400000 in
theorem ggL_writes_X5_clock : GoodIn wsL_writes wsX5_clock := goodIn_r _ [65, 66, 238, 239, 240, 241, 242, 243, 244] rfl (by decide +kernel)
set_option maxRecDepth 20000 in
theorem gL_writes_X5_clock : GoodIn wsL_writes (wsV RL 61 RX5 yX5_clock wsX5_clock) := goodIn_app (goodIn_of _ (by decide +kernel)) ggL_writes_X5_clock
set_option maxRecDepth 400000 in
theorem ggL_writes_L_put : GoodIn wsL_writes wsL_put := goodIn_ca (goodIn_ca (goodIn_ca (goodIn_r _ [69, 70, 6, 71, 72, 73, 10, 74, 14, 15, 16, 17, 18, 19, 20, 21, 75, 76, 77, 78, 45, 46, 79, 80, 81, 82, 83, 84, 66, 85, 86, 87, 88, 89, 25, 26, 90, 91, 92, 93, 12, 94, 95, 96, 97, 98, 27, 28, 29, 30, 31, 32, 33, 34, 35, 36, 37, 99, 100, 101, 50, 102, 52, 103, 104, 105, 106, 107, 108, 109, 110, 111, 112, 113, 114, 115, 116, 117, 118, 119, 120, 121, 122, 123, 124, 125, 126, 127, 128, 129, 55, 56, 57, 58, 59, 60, 61, 130, 131, 132, 133, 134, 135, 136, 137, 138, 139, 140, 141, 142, 143, 144, 145, 146, 147, 148, 149, 150, 151, 152, 153, 154, 155, 156, 157, 158, 159, 160, 161, 162, 163, 164, 165, 166, 167, 168, 169, 170, 171, 172, 173, 174, 175, 176, 177, 178, 179, 180, 181, 182, 183, 184, 185, 186, 187, 188, 189, 190, 191, 192, 193, 194, 195, 196, 197, 198, 199, 200, 201, 238, 239, 240, 241, 242, 243, 244, 230, 231, 232, 233, 234, 235, 236, 237, 245, 246, 247, 248, 249, 250, 251, 252, 253, 254, 255] rfl (by decide +kernel)) (goodIn_sub (fun _ h => List.mem_cons_of_mem _ (List.mem_append_left _ (List.mem_append_left _ (List.mem_append_right _ h)))) (by decide +kernel))) (goodIn_sub (fun _ h => List.mem_cons_of_mem _ (List.mem_append_right _ h)) (by decide +kernel))) (goodIn_sub (fun _ h => List.mem_cons_of_mem _ (List.mem_append_left _ (List.mem_append_right _ h))) (by decide +kernel))
set_option maxRecDepth 20000 in
theorem gL_writes_L_put : GoodIn wsL_writes (va_wsS RL 120 yL_put wsL_put) := goodIn_app (goodIn_of _ (by decide +kernel)) ggL_writes_L_put
set_option maxRecDepth 400000 in
theorem ggL_writes_X5_valueAt : GoodIn wsL_writes wsX5_valueAt := goodIn_ca (goodIn_ca (goodIn_r _ [11, 12, 13, 14, 15, 16, 10, 17, 18, 19, 20, 21, 22, 23, 24, 25, 26, 27, 28, 29, 30, 31, 32, 33, 34, 35, 36, 37, 230, 231, 232, 233, 234, 235, 236, 237, 238, 239, 240, 241, 242, 243, 244] rfl (by decide +kernel)) (goodIn_sub (fun _ h => List.mem_cons_of_mem _ (List.mem_append_left _ (List.mem_append_left _ (List.mem_append_right _ h)))) (by decide +kernel))) (goodIn_sub (fun _ h => List.mem_cons_of_mem _ (List.mem_append_left _ (List.mem_append_right _ h))) (by decide +kernel))
set_option maxRecDepth 20000 in
theorem gL_writes_X5_valueAt : GoodIn wsL_writes (wsV RL 27 RX5 yX5_valueAt wsX5_valueAt) := goodIn_app (goodIn_of _ (by decide +kernel)) ggL_writes_X5_valueAt
set_option maxRecDepth 400000 in
theorem ggL_writes_X5_least : GoodIn wsL_writes wsX5_least := goodIn_ca (goodIn_ca (goodIn_ca (goodIn_r _ [205, 206, 207, 208, 209, 10, 210, 25, 26, 211, 212, 213, 214, 215, 216, 217, 218, 45, 46, 14, 15, 16, 17, 18, 19, 20, 21, 42, 43, 44, 219, 56, 57, 50, 58, 59, 60, 61, 220, 118, 119, 120, 121, 122, 123, 221, 222, 223, 133, 224, 135, 141, 142, 143, 144, 145, 146, 147, 148, 136, 137, 248, 249, 250, 251, 252, 253, 254, 255, 238, 239, 240, 241, 242, 243, 244, 230, 231, 232, 233, 234, 245, 246, 247] rfl (by decide +kernel)) (goodIn_sub (fun _ h => List.mem_cons_of_mem _ (List.mem_append_left _ (List.mem_append_right _ h))) (by decide +kernel))) (goodIn_sub (fun _ h => List.mem_cons_of_mem _ (List.mem_append_right _ h)) (by decide +kernel))) (goodIn_sub (fun _ h => List.mem_cons_of_mem _ (List.mem_append_left _ (List.mem_append_left _ (List.mem_append_right _ h)))) (by decide +kernel))
set_option maxRecDepth 20000 in
theorem gL_writes_X5_least : GoodIn wsL_writes (wsV RL 72 RX5 yX5_least wsX5_least) := goodIn_app (goodIn_of _ (by decide +kernel)) ggL_writes_X5_least
set_option maxRecDepth 400000 in
theorem ggL_writes_X5_greatest : GoodIn wsL_writes wsX5_greatest := goodIn_ca (goodIn_ca (goodIn_ca (goodIn_r _ [228, 229, 207, 208, 209, 10, 210, 25, 26, 211, 212, 213, 214, 215, 216, 217, 218, 45, 46, 14, 15, 16, 17, 18, 19, 20, 21, 42, 43, 44, 219, 56, 57, 50, 58, 59, 60, 61, 220, 118, 119, 120, 121, 122, 123, 221, 222, 223, 133, 224, 135, 141, 142, 143, 144, 145, 146, 147, 148, 136, 137, 248, 249, 250, 251, 252, 253, 254, 255, 238, 239, 240, 241, 242, 243, 244, 230, 231, 232, 233, 234, 245, 246, 247] rfl (by decide +kernel)) (goodIn_sub (fun _ h => List.mem_cons_of_mem _ (List.mem_append_left _ (List.mem_append_right _ h))) (by decide +kernel))) (goodIn_sub (fun _ h => List.mem_cons_of_mem _ (List.mem_append_right _ h)) (by decide +kernel))) (goodIn_sub (fun _ h => List.mem_cons_of_mem _ (List.mem_append_left _ (List.mem_append_left _ (List.mem_append_right _ h)))) (by decide +kernel))
set_option maxRecDepth 20000 in
theorem gL_writes_X5_greatest : GoodIn wsL_writes (wsV RL 75 RX5 yX5_greatest wsX5_greatest) := goodIn_app (goodIn_of _ (by decide +kernel)) ggL_writes_X5_greatest
theorem dL_writes_0 : decode cL_writes 0 = .ok (.aload_n 0, 1) := by decide +kernel
theorem dL_writes_1 : decode cL_writes 1 = .ok (.iload_n 2, 1) := by decide +kernel
theorem dL_writes_2 : decode cL_writes 2 = .ok (.iload_n 3, 1) := by decide +kernel
theorem dL_writes_3 : decode cL_writes 3 = .ok (.invokestatic 117, 3) := by decide +kernel
theorem dL_writes_6 : decode cL_writes 6 = .ok (.istore 5, 2) := by decide +kernel
theorem dL_writes_8 : decode cL_writes 8 = .ok (.aload_n 0, 1) := by decide +kernel
theorem dL_writes_9 : decode cL_writes 9 = .ok (.iload_n 2, 1) := by decide +kernel
theorem dL_writes_10 : decode cL_writes 10 = .ok (.iconst 0, 1) := by decide +kernel
theorem dL_writes_11 : decode cL_writes 11 = .ok (.invokevirtual 36, 3) := by decide +kernel
theorem dL_writes_14 : decode cL_writes 14 = .ok (.istore 6, 2) := by decide +kernel
theorem dL_writes_16 : decode cL_writes 16 = .ok (.iload_n 3, 1) := by decide +kernel
theorem dL_writes_17 : decode cL_writes 17 = .ok (.aload_n 0, 1) := by decide +kernel
theorem dL_writes_18 : decode cL_writes 18 = .ok (.invokevirtual 61, 3) := by decide +kernel
theorem dL_writes_21 : decode cL_writes 21 = .ok (.sipush 3600, 3) := by decide +kernel
theorem dL_writes_24 : decode cL_writes 24 = .ok (.isub, 1) := by decide +kernel
theorem dL_writes_25 : decode cL_writes 25 = .ok (.if_icmp .ge 7, 3) := by decide +kernel
theorem dL_writes_28 : decode cL_writes 28 = .ok (.iconst 1, 1) := by decide +kernel
theorem dL_writes_29 : decode cL_writes 29 = .ok (.goto 4, 3) := by decide +kernel
theorem dL_writes_32 : decode cL_writes 32 = .ok (.iconst 0, 1) := by decide +kernel
theorem dL_writes_33 : decode cL_writes 33 = .ok (.istore 7, 2) := by decide +kernel
theorem dL_writes_35 : decode cL_writes 35 = .ok (.iload 5, 2) := by decide +kernel
theorem dL_writes_37 : decode cL_writes 37 = .ok (.ldc 31, 2) := by decide +kernel
theorem dL_writes_39 : decode cL_writes 39 = .ok (.if_icmp .ne 14, 3) := by decide +kernel
theorem dL_writes_42 : decode cL_writes 42 = .ok (.iload 6, 2) := by decide +kernel
theorem dL_writes_44 : decode cL_writes 44 = .ok (.bipush 100, 2) := by decide +kernel
theorem dL_writes_46 : decode cL_writes 46 = .ok (.if_icmp .ne 7, 3) := by decide +kernel
theorem dL_writes_49 : decode cL_writes 49 = .ok (.iconst 1, 1) := by decide +kernel
theorem dL_writes_50 : decode cL_writes 50 = .ok (.goto 4, 3) := by decide +kernel
theorem dL_writes_53 : decode cL_writes 53 = .ok (.iconst 0, 1) := by decide +kernel
theorem dL_writes_54 : decode cL_writes 54 = .ok (.istore 8, 2) := by decide +kernel
theorem dL_writes_56 : decode cL_writes 56 = .ok (.aload_n 0, 1) := by decide +kernel
theorem dL_writes_57 : decode cL_writes 57 = .ok (.iload_n 2, 1) := by decide +kernel
theorem dL_writes_58 : decode cL_writes 58 = .ok (.iload_n 3, 1) := by decide +kernel
theorem dL_writes_59 : decode cL_writes 59 = .ok (.iload 4, 2) := by decide +kernel
theorem dL_writes_61 : decode cL_writes 61 = .ok (.invokestatic 120, 3) := by decide +kernel
theorem dL_writes_64 : decode cL_writes 64 = .ok (.istore 9, 2) := by decide +kernel
theorem dL_writes_66 : decode cL_writes 66 = .ok (.iload_n 3, 1) := by decide +kernel
theorem dL_writes_67 : decode cL_writes 67 = .ok (.aload_n 0, 1) := by decide +kernel
theorem dL_writes_68 : decode cL_writes 68 = .ok (.invokevirtual 61, 3) := by decide +kernel
theorem dL_writes_71 : decode cL_writes 71 = .ok (.if_icmp .le 15, 3) := by decide +kernel
theorem dL_writes_74 : decode cL_writes 74 = .ok (.iload 9, 2) := by decide +kernel
theorem dL_writes_76 : decode cL_writes 76 = .ok (.iconst (-1), 1) := by decide +kernel
theorem dL_writes_77 : decode cL_writes 77 = .ok (.if_icmp .ne 7, 3) := by decide +kernel
theorem dL_writes_80 : decode cL_writes 80 = .ok (.iconst 1, 1) := by decide +kernel
theorem dL_writes_81 : decode cL_writes 81 = .ok (.goto 4, 3) := by decide +kernel
theorem dL_writes_84 : decode cL_writes 84 = .ok (.iconst 0, 1) := by decide +kernel
theorem dL_writes_85 : decode cL_writes 85 = .ok (.ireturn, 1) := by decide +kernel
theorem dL_writes_86 : decode cL_writes 86 = .ok (.iload 7, 2) := by decide +kernel
theorem dL_writes_88 : decode cL_writes 88 = .ok (.ifCond .ne 8, 3) := by decide +kernel
theorem dL_writes_91 : decode cL_writes 91 = .ok (.iload 8, 2) := by decide +kernel
theorem dL_writes_93 : decode cL_writes 93 = .ok (.ifCond .eq 38, 3) := by decide +kernel
theorem dL_writes_96 : decode cL_writes 96 = .ok (.iload 9, 2) := by decide +kernel
theorem dL_writes_98 : decode cL_writes 98 = .ok (.bipush (-2), 2) := by decide +kernel
theorem dL_writes_100 : decode cL_writes 100 = .ok (.if_icmp .ne 29, 3) := by decide +kernel
theorem dL_writes_103 : decode cL_writes 103 = .ok (.aload_n 0, 1) := by decide +kernel
theorem dL_writes_104 : decode cL_writes 104 = .ok (.iload_n 2, 1) := by decide +kernel
theorem dL_writes_105 : decode cL_writes 105 = .ok (.iload_n 3, 1) := by decide +kernel
theorem dL_writes_106 : decode cL_writes 106 = .ok (.invokestatic 117, 3) := by decide +kernel
theorem dL_writes_109 : decode cL_writes 109 = .ok (.iload 5, 2) := by decide +kernel
theorem dL_writes_111 : decode cL_writes 111 = .ok (.if_icmp .ne 18, 3) := by decide +kernel
theorem dL_writes_114 : decode cL_writes 114 = .ok (.aload_n 0, 1) := by decide +kernel
theorem dL_writes_115 : decode cL_writes 115 = .ok (.iload_n 2, 1) := by decide +kernel
theorem dL_writes_116 : decode cL_writes 116 = .ok (.iconst 0, 1) := by decide +kernel
theorem dL_writes_117 : decode cL_writes 117 = .ok (.invokevirtual 36, 3) := by decide +kernel
theorem dL_writes_120 : decode cL_writes 120 = .ok (.iload 6, 2) := by decide +kernel
theorem dL_writes_122 : decode cL_writes 122 = .ok (.if_icmp .ne 7, 3) := by decide +kernel
theorem dL_writes_125 : decode cL_writes 125 = .ok (.iconst 1, 1) := by decide +kernel
theorem dL_writes_126 : decode cL_writes 126 = .ok (.goto 4, 3) := by decide +kernel
theorem dL_writes_129 : decode cL_writes 129 = .ok (.iconst 0, 1) := by decide +kernel
theorem dL_writes_130 : decode cL_writes 130 = .ok (.ireturn, 1) := by decide +kernel
theorem dL_writes_131 : decode cL_writes 131 = .ok (.iload 9, 2) := by decide +kernel
theorem dL_writes_133 : decode cL_writes 133 = .ok (.iload 5, 2) := by decide +kernel
theorem dL_writes_135 : decode cL_writes 135 = .ok (.ldc 31, 2) := by decide +kernel
theorem dL_writes_137 : decode cL_writes 137 = .ok (.if_icmp .ne 7, 3) := by decide +kernel
theorem dL_writes_140 : decode cL_writes 140 = .ok (.iconst 0, 1) := by decide +kernel
theorem dL_writes_141 : decode cL_writes 141 = .ok (.goto 4, 3) := by decide +kernel
theorem dL_writes_144 : decode cL_writes 144 = .ok (.iconst 1, 1) := by decide +kernel
theorem dL_writes_145 : decode cL_writes 145 = .ok (.if_icmp .ne 34, 3) := by decide +kernel
theorem dL_writes_148 : decode cL_writes 148 = .ok (.aload_n 0, 1) := by decide +kernel
theorem dL_writes_149 : decode cL_writes 149 = .ok (.iload_n 2, 1) := by decide +kernel
theorem dL_writes_150 : decode cL_writes 150 = .ok (.iload_n 3, 1) := by decide +kernel
theorem dL_writes_151 : decode cL_writes 151 = .ok (.invokevirtual 27, 3) := by decide +kernel
theorem dL_writes_154 : decode cL_writes 154 = .ok (.iload 4, 2) := by decide +kernel
theorem dL_writes_156 : decode cL_writes 156 = .ok (.if_icmp .ne 23, 3) := by decide +kernel
theorem dL_writes_159 : decode cL_writes 159 = .ok (.aload_n 0, 1) := by decide +kernel
theorem dL_writes_160 : decode cL_writes 160 = .ok (.iload_n 2, 1) := by decide +kernel
theorem dL_writes_161 : decode cL_writes 161 = .ok (.iconst 0, 1) := by decide +kernel
theorem dL_writes_162 : decode cL_writes 162 = .ok (.invokevirtual 36, 3) := by decide +kernel
theorem dL_writes_165 : decode cL_writes 165 = .ok (.iload 6, 2) := by decide +kernel
theorem dL_writes_167 : decode cL_writes 167 = .ok (.iconst 1, 1) := by decide +kernel
theorem dL_writes_168 : decode cL_writes 168 = .ok (.iadd, 1) := by decide +kernel
theorem dL_writes_169 : decode cL_writes 169 = .ok (.iload 9, 2) := by decide +kernel
theorem dL_writes_171 : decode cL_writes 171 = .ok (.isub, 1) := by decide +kernel
theorem dL_writes_172 : decode cL_writes 172 = .ok (.if_icmp .ne 7, 3) := by decide +kernel
theorem dL_writes_175 : decode cL_writes 175 = .ok (.iconst 1, 1) := by decide +kernel
theorem dL_writes_176 : decode cL_writes 176 = .ok (.goto 4, 3) := by decide +kernel
theorem dL_writes_179 : decode cL_writes 179 = .ok (.iconst 0, 1) := by decide +kernel
theorem dL_writes_180 : decode cL_writes 180 = .ok (.istore 10, 2) := by decide +kernel
theorem dL_writes_182 : decode cL_writes 182 = .ok (.iconst 1, 1) := by decide +kernel
theorem dL_writes_183 : decode cL_writes 183 = .ok (.istore 11, 2) := by decide +kernel
theorem dL_writes_185 : decode cL_writes 185 = .ok (.iload 11, 2) := by decide +kernel
theorem dL_writes_187 : decode cL_writes 187 = .ok (.iconst 4, 1) := by decide +kernel
theorem dL_writes_188 : decode cL_writes 188 = .ok (.if_icmp .ge 47, 3) := by decide +kernel
theorem dL_writes_191 : decode cL_writes 191 = .ok (.iload 10, 2) := by decide +kernel
theorem dL_writes_193 : decode cL_writes 193 = .ok (.ifCond .eq 33, 3) := by decide +kernel
theorem dL_writes_196 : decode cL_writes 196 = .ok (.aload_n 0, 1) := by decide +kernel
theorem dL_writes_197 : decode cL_writes 197 = .ok (.iload_n 2, 1) := by decide +kernel
theorem dL_writes_198 : decode cL_writes 198 = .ok (.iload 11, 2) := by decide +kernel
theorem dL_writes_200 : decode cL_writes 200 = .ok (.iload_n 3, 1) := by decide +kernel
theorem dL_writes_201 : decode cL_writes 201 = .ok (.invokevirtual 72, 3) := by decide +kernel
theorem dL_writes_204 : decode cL_writes 204 = .ok (.iload 4, 2) := by decide +kernel
theorem dL_writes_206 : decode cL_writes 206 = .ok (.if_icmp .gt 20, 3) := by decide +kernel
theorem dL_writes_209 : decode cL_writes 209 = .ok (.iload 4, 2) := by decide +kernel
theorem dL_writes_211 : decode cL_writes 211 = .ok (.aload_n 0, 1) := by decide +kernel
theorem dL_writes_212 : decode cL_writes 212 = .ok (.iload_n 2, 1) := by decide +kernel
theorem dL_writes_213 : decode cL_writes 213 = .ok (.iload 11, 2) := by decide +kernel
theorem dL_writes_215 : decode cL_writes 215 = .ok (.iload_n 3, 1) := by decide +kernel
theorem dL_writes_216 : decode cL_writes 216 = .ok (.invokevirtual 75, 3) := by decide +kernel
theorem dL_writes_219 : decode cL_writes 219 = .ok (.if_icmp .gt 7, 3) := by decide +kernel
theorem dL_writes_222 : decode cL_writes 222 = .ok (.iconst 1, 1) := by decide +kernel
theorem dL_writes_223 : decode cL_writes 223 = .ok (.goto 4, 3) := by decide +kernel
theorem dL_writes_226 : decode cL_writes 226 = .ok (.iconst 0, 1) := by decide +kernel
theorem dL_writes_227 : decode cL_writes 227 = .ok (.istore 10, 2) := by decide +kernel
theorem dL_writes_229 : decode cL_writes 229 = .ok (.iinc 11 1, 3) := by decide +kernel
theorem dL_writes_232 : decode cL_writes 232 = .ok (.goto (-47), 3) := by decide +kernel
theorem dL_writes_235 : decode cL_writes 235 = .ok (.iload 10, 2) := by decide +kernel
theorem dL_writes_237 : decode cL_writes 237 = .ok (.ireturn, 1) := by decide +kernel
set_option maxRecDepth 400000 in
theorem ggL_tries_X5_clock : GoodIn wsL_tries wsX5_clock := goodIn_r _ [6, 7, 262, 263, 264, 265, 266, 267, 268] rfl (by decide +kernel)
set_option maxRecDepth 20000 in
theorem gL_tries_X5_clock : GoodIn wsL_tries (wsV RL 61 RX5 yX5_clock wsX5_clock) := goodIn_app (goodIn_of _ (by decide +kernel)) ggL_tries_X5_clock
set_option maxRecDepth 400000 in
theorem ggL_tries_X5_rows : GoodIn wsL_tries wsX5_rows := goodIn_ca (goodIn_ca (goodIn_r _ [11, 12, 13, 14, 5, 15, 16, 17, 18, 19, 20, 21, 22, 23, 24, 25, 26, 27, 28, 29, 30, 31, 32, 33, 34, 35, 36, 37, 38, 39, 262, 263, 264, 265, 266, 267, 268, 269, 270, 271, 272, 273, 274, 275, 276, 277, 278, 279] rfl (by decide +kernel)) (goodIn_sub (fun _ h => List.mem_cons_of_mem _ (List.mem_append_left _ (List.mem_append_left _ (List.mem_append_right _ h)))) (by decide +kernel))) (goodIn_sub (fun _ h => List.mem_cons_of_mem _ (List.mem_append_left _ (List.mem_append_right _ h))) (by decide +kernel))
set_option maxRecDepth 20000 in
theorem gL_tries_X5_rows : GoodIn wsL_tries (wsV RL 36 RX5 yX5_rows wsX5_rows) := goodIn_app (goodIn_of _ (by decide +kernel)) ggL_tries_X5_rows
set_option maxRecDepth 400000 in
theorem ggL_tries_L_valueAt : GoodIn wsL_tries wsL_valueAt := goodIn_ca (goodIn_ca (goodIn_r _ [43, 44, 1, 45, 46, 47, 5, 48, 49, 50, 12, 13, 14, 15, 16, 17, 18, 19, 51, 52, 53, 54, 55, 56, 57, 58, 59, 60, 61, 62, 63, 64, 65, 66, 269, 270, 271, 272, 273, 274, 275, 276, 262, 263, 264, 265, 266, 267, 268] rfl (by decide +kernel)) (goodIn_sub (fun _ h => List.mem_cons_of_mem _ (List.mem_append_left _ (List.mem_append_left _ (List.mem_append_right _ h)))) (by decide +kernel))) (goodIn_sub (fun _ h => List.mem_cons_of_mem _ (List.mem_append_right _ h)) (by decide +kernel))
set_option maxRecDepth 20000 in
theorem gL_tries_L_valueAt : GoodIn wsL_tries (va_wsS RL 117 yL_valueAt wsL_valueAt) := goodIn_app (goodIn_of _ (by decide +kernel)) ggL_tries_L_valueAt
set_option maxRecDepth 400000 in
theorem ggL_tries_L_tale : GoodIn wsL_tries wsL_tale := goodIn_ca (goodIn_ca (goodIn_ca (goodIn_r _ [69, 70, 8, 9, 10, 5, 11, 12, 13, 14, 15, 16, 17, 18, 19, 20, 21, 22, 23, 24, 25, 26, 27, 28, 29, 30, 31, 32, 33, 34, 35, 36, 37, 38, 39, 71, 72, 73, 74, 54, 55, 49, 75, 76, 77, 78, 79, 80, 81, 82, 83, 84, 85, 86, 87, 88, 45, 46, 47, 48, 50, 51, 52, 53, 56, 57, 58, 59, 60, 61, 62, 63, 64, 65, 66, 89, 90, 91, 92, 93, 94, 95, 96, 97, 98, 99, 100, 101, 102, 103, 104, 105, 106, 107, 108, 109, 110, 111, 112, 113, 114, 115, 116, 117, 118, 119, 120, 121, 122, 123, 124, 125, 126, 127, 128, 129, 130, 131, 132, 133, 134, 135, 136, 137, 262, 263, 264, 265, 266, 267, 268, 269, 270, 271, 272, 273, 274, 275, 276, 277, 278, 279, 280, 281, 282, 283, 284, 285, 286, 287] rfl (by decide +kernel)) (goodIn_sub (fun _ h => List.mem_cons_of_mem _ (List.mem_append_left _ (List.mem_append_left _ (List.mem_append_right _ h)))) (by decide +kernel))) (goodIn_sub (fun _ h => List.mem_cons_of_mem _ (List.mem_append_left _ (List.mem_append_right _ h))) (by decide +kernel))) (goodIn_sub (fun _ h => List.mem_cons_of_mem _ (List.mem_append_right _ h)) (by decide +kernel))
set_option maxRecDepth 20000 in
theorem gL_tries_L_tale : GoodIn wsL_tries (va_wsS RL 123 yL_tale wsL_tale) := goodIn_app (goodIn_of _ (by decide +kernel)) ggL_tries_L_tale
set_option maxRecDepth 400000 in
theorem ggL_tries_X5_put : GoodIn wsL_tries wsX5_put := goodIn_ca (goodIn_ca (goodIn_ca (goodIn_r _ [141, 12, 13, 14, 5, 15, 16, 17, 18, 19, 142, 143, 144, 145, 23, 24, 146, 147, 148, 149, 150, 151, 7, 152, 153, 154, 155, 156, 54, 55, 157, 158, 159, 160, 49, 79, 161, 162, 163, 164, 56, 57, 58, 59, 60, 61, 62, 63, 64, 65, 66, 165, 166, 167, 28, 168, 30, 169, 170, 171, 172, 173, 174, 175, 176, 177, 178, 179, 180, 181, 182, 183, 107, 108, 109, 110, 111, 112, 184, 185, 186, 187, 188, 189, 33, 34, 35, 36, 37, 38, 39, 190, 191, 192, 85, 193, 117, 87, 88, 194, 195, 196, 118, 119, 120, 121, 122, 83, 84, 86, 197, 198, 199, 200, 201, 202, 203, 204, 205, 206, 207, 208, 209, 210, 211, 212, 213, 214, 215, 216, 217, 218, 219, 220, 221, 222, 223, 224, 225, 226, 227, 228, 229, 230, 231, 232, 233, 234, 235, 236, 237, 238, 239, 240, 241, 242, 243, 244, 245, 246, 247, 248, 249, 262, 263, 264, 265, 266, 267, 268, 269, 270, 271, 272, 273, 274, 275, 276, 277, 278, 279, 280, 281, 282, 283, 284, 285, 286, 287] rfl (by decide +kernel)) (goodIn_sub (fun _ h => List.mem_cons_of_mem _ (List.mem_append_left _ (List.mem_append_left _ (List.mem_append_right _ h)))) (by decide +kernel))) (goodIn_sub (fun _ h => List.mem_cons_of_mem _ (List.mem_append_left _ (List.mem_append_right _ h))) (by decide +kernel))) (goodIn_sub (fun _ h => List.mem_cons_of_mem _ (List.mem_append_right _ h)) (by decide +kernel))
set_option maxRecDepth 20000 in
theorem gL_tries_X5_put : GoodIn wsL_tries (wsV RL 17 RX5 yX5_put wsX5_put) := goodIn_app (goodIn_of _ (by decide +kernel)) ggL_tries_X5_put
set_option maxRecDepth 400000 in
theorem ggL_tries_X5_erase : GoodIn wsL_tries wsX5_erase := goodIn_ca (goodIn_ca (goodIn_r _ [253, 54, 55, 49, 50, 12, 13, 14, 5, 15, 16, 17, 18, 19, 51, 52, 53, 56, 57, 58, 59, 60, 61, 62, 63, 64, 65, 66, 161, 162, 163, 164, 7, 254, 255, 256, 28, 257, 30, 258, 259, 260, 261, 173, 174, 175, 176, 177, 180, 181, 182, 183, 107, 108, 109, 110, 111, 112, 184, 185, 186, 187, 188, 189, 33, 34, 35, 36, 37, 38, 39, 190, 191, 192, 85, 193, 117, 87, 88, 194, 195, 196, 118, 119, 120, 121, 122, 83, 84, 86, 197, 198, 199, 200, 201, 202, 203, 204, 205, 206, 207, 208, 209, 210, 211, 212, 213, 214, 215, 216, 217, 218, 219, 220, 178, 221, 222, 223, 224, 225, 226, 227, 228, 229, 230, 231, 232, 233, 234, 235, 236, 237, 238, 239, 240, 241, 242, 243, 244, 245, 246, 247, 248, 249, 269, 270, 271, 272, 273, 274, 275, 276, 262, 263, 264, 265, 266, 267, 268, 277, 278, 279, 280, 281, 282, 283, 284, 285, 286, 287] rfl (by decide +kernel)) (goodIn_sub (fun _ h => List.mem_cons_of_mem _ (List.mem_append_right _ h)) (by decide +kernel))) (goodIn_sub (fun _ h => List.mem_cons_of_mem _ (List.mem_append_left _ (List.mem_append_left _ (List.mem_append_right _ h)))) (by decide +kernel))
set_option maxRecDepth 20000 in
theorem gL_tries_X5_erase : GoodIn wsL_tries (wsV RL 127 RX5 yX5_erase wsX5_erase) := goodIn_app (goodIn_of _ (by decide +kernel)) ggL_tries_X5_erase
theorem dL_tries_0 : decode cL_tries 0 = .ok (.iload_n 2, 1) := by decide +kernel
theorem dL_tries_1 : decode cL_tries 1 = .ok (.aload_n 0, 1) := by decide +kernel
theorem dL_tries_2 : decode cL_tries 2 = .ok (.invokevirtual 61, 3) := by decide +kernel
theorem dL_tries_5 : decode cL_tries 5 = .ok (.if_icmp .gt 37, 3) := by decide +kernel
theorem dL_tries_8 : decode cL_tries 8 = .ok (.iload_n 2, 1) := by decide +kernel
theorem dL_tries_9 : decode cL_tries 9 = .ok (.aload_n 0, 1) := by decide +kernel
theorem dL_tries_10 : decode cL_tries 10 = .ok (.invokevirtual 61, 3) := by decide +kernel
theorem dL_tries_13 : decode cL_tries 13 = .ok (.sipush 3600, 3) := by decide +kernel
theorem dL_tries_16 : decode cL_tries 16 = .ok (.isub, 1) := by decide +kernel
theorem dL_tries_17 : decode cL_tries 17 = .ok (.if_icmp .lt 25, 3) := by decide +kernel
theorem dL_tries_20 : decode cL_tries 20 = .ok (.aload_n 0, 1) := by decide +kernel
theorem dL_tries_21 : decode cL_tries 21 = .ok (.iload_n 1, 1) := by decide +kernel
theorem dL_tries_22 : decode cL_tries 22 = .ok (.iconst 0, 1) := by decide +kernel
theorem dL_tries_23 : decode cL_tries 23 = .ok (.invokevirtual 36, 3) := by decide +kernel
theorem dL_tries_26 : decode cL_tries 26 = .ok (.bipush 100, 2) := by decide +kernel
theorem dL_tries_28 : decode cL_tries 28 = .ok (.if_icmp .eq 14, 3) := by decide +kernel
theorem dL_tries_31 : decode cL_tries 31 = .ok (.aload_n 0, 1) := by decide +kernel
theorem dL_tries_32 : decode cL_tries 32 = .ok (.iload_n 1, 1) := by decide +kernel
theorem dL_tries_33 : decode cL_tries 33 = .ok (.iload_n 2, 1) := by decide +kernel
theorem dL_tries_34 : decode cL_tries 34 = .ok (.invokestatic 117, 3) := by decide +kernel
theorem dL_tries_37 : decode cL_tries 37 = .ok (.ldc 31, 2) := by decide +kernel
theorem dL_tries_39 : decode cL_tries 39 = .ok (.if_icmp .eq 5, 3) := by decide +kernel
theorem dL_tries_42 : decode cL_tries 42 = .ok (.iconst 1, 1) := by decide +kernel
theorem dL_tries_43 : decode cL_tries 43 = .ok (.ireturn, 1) := by decide +kernel
theorem dL_tries_44 : decode cL_tries 44 = .ok (.aload_n 0, 1) := by decide +kernel
theorem dL_tries_45 : decode cL_tries 45 = .ok (.iload_n 1, 1) := by decide +kernel
theorem dL_tries_46 : decode cL_tries 46 = .ok (.invokestatic 123, 3) := by decide +kernel
theorem dL_tries_49 : decode cL_tries 49 = .ok (.lstore 4, 2) := by decide +kernel
theorem dL_tries_51 : decode cL_tries 51 = .ok (.aload_n 0, 1) := by decide +kernel
theorem dL_tries_52 : decode cL_tries 52 = .ok (.iload_n 1, 1) := by decide +kernel
theorem dL_tries_53 : decode cL_tries 53 = .ok (.iload_n 2, 1) := by decide +kernel
theorem dL_tries_54 : decode cL_tries 54 = .ok (.iload_n 3, 1) := by decide +kernel
theorem dL_tries_55 : decode cL_tries 55 = .ok (.invokevirtual 17, 3) := by decide +kernel
theorem dL_tries_58 : decode cL_tries 58 = .ok (.ifCond .ne 17, 3) := by decide +kernel
theorem dL_tries_61 : decode cL_tries 61 = .ok (.aload_n 0, 1) := by decide +kernel
theorem dL_tries_62 : decode cL_tries 62 = .ok (.iload_n 1, 1) := by decide +kernel
theorem dL_tries_63 : decode cL_tries 63 = .ok (.iload_n 2, 1) := by decide +kernel
theorem dL_tries_64 : decode cL_tries 64 = .ok (.invokevirtual 127, 3) := by decide +kernel
theorem dL_tries_67 : decode cL_tries 67 = .ok (.iload_n 3, 1) := by decide +kernel
theorem dL_tries_68 : decode cL_tries 68 = .ok (.if_icmp .ne 7, 3) := by decide +kernel
theorem dL_tries_71 : decode cL_tries 71 = .ok (.iconst 1, 1) := by decide +kernel
theorem dL_tries_72 : decode cL_tries 72 = .ok (.goto 4, 3) := by decide +kernel
theorem dL_tries_75 : decode cL_tries 75 = .ok (.iconst 0, 1) := by decide +kernel
theorem dL_tries_76 : decode cL_tries 76 = .ok (.istore 6, 2) := by decide +kernel
theorem dL_tries_78 : decode cL_tries 78 = .ok (.iload 6, 2) := by decide +kernel
theorem dL_tries_80 : decode cL_tries 80 = .ok (.ifCond .eq 29, 3) := by decide +kernel
theorem dL_tries_83 : decode cL_tries 83 = .ok (.aload_n 0, 1) := by decide +kernel
theorem dL_tries_84 : decode cL_tries 84 = .ok (.iload_n 1, 1) := by decide +kernel
theorem dL_tries_85 : decode cL_tries 85 = .ok (.invokestatic 123, 3) := by decide +kernel
theorem dL_tries_88 : decode cL_tries 88 = .ok (.lload 4, 2) := by decide +kernel
theorem dL_tries_90 : decode cL_tries 90 = .ok (.lcmp, 1) := by decide +kernel
theorem dL_tries_91 : decode cL_tries 91 = .ok (.ifCond .ne 18, 3) := by decide +kernel
theorem dL_tries_94 : decode cL_tries 94 = .ok (.aload_n 0, 1) := by decide +kernel
theorem dL_tries_95 : decode cL_tries 95 = .ok (.iload_n 1, 1) := by decide +kernel
theorem dL_tries_96 : decode cL_tries 96 = .ok (.iload_n 2, 1) := by decide +kernel
theorem dL_tries_97 : decode cL_tries 97 = .ok (.invokestatic 117, 3) := by decide +kernel
theorem dL_tries_100 : decode cL_tries 100 = .ok (.ldc 31, 2) := by decide +kernel
theorem dL_tries_102 : decode cL_tries 102 = .ok (.if_icmp .ne 7, 3) := by decide +kernel
theorem dL_tries_105 : decode cL_tries 105 = .ok (.iconst 1, 1) := by decide +kernel
theorem dL_tries_106 : decode cL_tries 106 = .ok (.goto 4, 3) := by decide +kernel
theorem dL_tries_109 : decode cL_tries 109 = .ok (.iconst 0, 1) := by decide +kernel
theorem dL_tries_110 : decode cL_tries 110 = .ok (.ireturn, 1) := by decide +kernel
set_option maxRecDepth 400000 in
theorem ggL_writesMany_L_put : GoodIn wsL_writesMany wsL_put := goodIn_ca (goodIn_ca (goodIn_ca (goodIn_r _ [6, 7, 8, 9, 10, 11, 12, 13, 14, 15, 16, 17, 18, 19, 20, 21, 22, 23, 24, 25, 26, 27, 28, 29, 30, 31, 32, 33, 34, 35, 36, 37, 38, 39, 40, 41, 42, 43, 44, 45, 46, 47, 48, 49, 50, 51, 52, 53, 54, 55, 56, 57, 58, 59, 60, 61, 62, 63, 64, 65, 66, 67, 68, 69, 70, 71, 72, 73, 74, 75, 76, 77, 78, 79, 80, 81, 82, 83, 84, 85, 86, 87, 88, 89, 90, 91, 92, 93, 94, 95, 96, 97, 98, 99, 100, 101, 102, 103, 104, 105, 106, 107, 108, 109, 110, 111, 112, 113, 114, 115, 116, 117, 118, 119, 120, 121, 122, 123, 124, 125, 126, 127, 128, 129, 130, 131, 132, 133, 134, 135, 136, 137, 138, 139, 140, 141, 142, 143, 144, 145, 146, 147, 148, 149, 150, 151, 152, 153, 154, 155, 156, 157, 158, 159, 160, 161, 162, 163, 164, 165, 166, 167, 168, 169, 170, 171, 172, 173, 174, 182, 183, 184, 185, 186, 187, 188, 189, 190, 191, 192, 193, 194, 195, 196, 197, 198, 199, 200, 201, 202, 203, 204, 205, 206, 207] rfl (by decide +kernel)) (goodIn_sub (fun _ h => List.mem_cons_of_mem _ (List.mem_append_left _ (List.mem_append_left _ (List.mem_append_right _ h)))) (by decide +kernel))) (goodIn_sub (fun _ h => List.mem_cons_of_mem _ (List.mem_append_left _ (List.mem_append_right _ h))) (by decide +kernel))) (goodIn_sub (fun _ h => List.mem_cons_of_mem _ (List.mem_append_right _ h)) (by decide +kernel))
set_option maxRecDepth 20000 in
theorem gL_writesMany_L_put : GoodIn wsL_writesMany (va_wsS RL 120 yL_put wsL_put) := goodIn_app (goodIn_of _ (by decide +kernel)) ggL_writesMany_L_put
set_option maxRecDepth 400000 in
theorem ggL_writesMany_X5_putMany : GoodIn wsL_writesMany wsX5_putMany := goodIn_ca (goodIn_ca (goodIn_ca (goodIn_r _ [178, 14, 15, 16, 12, 17, 18, 19, 20, 21, 22, 23, 24, 25, 26, 27, 28, 29, 30, 31, 32, 33, 34, 35, 179, 180, 181, 36, 37, 38, 39, 40, 41, 42, 43, 44, 45, 46, 47, 48, 49, 50, 51, 52, 53, 54, 55, 56, 57, 58, 59, 60, 61, 62, 63, 64, 65, 66, 67, 68, 69, 70, 71, 72, 73, 74, 75, 76, 77, 78, 79, 80, 81, 82, 83, 84, 85, 86, 87, 88, 89, 90, 91, 92, 93, 94, 95, 96, 97, 98, 99, 100, 101, 102, 103, 104, 105, 106, 107, 108, 109, 110, 111, 112, 113, 114, 115, 116, 117, 118, 119, 120, 121, 122, 123, 124, 125, 126, 127, 128, 129, 130, 131, 132, 133, 134, 135, 136, 137, 138, 139, 140, 141, 142, 143, 144, 145, 146, 147, 148, 149, 150, 151, 152, 153, 154, 155, 156, 157, 158, 159, 160, 161, 162, 163, 164, 165, 166, 167, 168, 169, 170, 171, 172, 173, 174, 182, 183, 184, 185, 186, 187, 188, 189, 190, 191, 192, 193, 194, 195, 196, 197, 198, 199, 200, 201, 202, 203, 204, 205, 206, 207] rfl (by decide +kernel)) (goodIn_sub (fun _ h => List.mem_cons_of_mem _ (List.mem_append_left _ (List.mem_append_left _ (List.mem_append_right _ h)))) (by decide +kernel))) (goodIn_sub (fun _ h => List.mem_cons_of_mem _ (List.mem_append_left _ (List.mem_append_right _ h))) (by decide +kernel))) (goodIn_sub (fun _ h => List.mem_cons_of_mem _ (List.mem_append_right _ h)) (by decide +kernel))
set_option maxRecDepth 20000 in
theorem gL_writesMany_X5_putMany : GoodIn wsL_writesMany (wsV RL 132 RX5 yX5_putMany wsX5_putMany) := goodIn_app (goodIn_of _ (by decide +kernel)) ggL_writesMany_X5_putMany
theorem dL_writesMany_0 : decode cL_writesMany 0 = .ok (.iconst 0, 1) := by decide +kernel
theorem dL_writesMany_1 : decode cL_writesMany 1 = .ok (.istore 9, 2) := by decide +kernel
theorem dL_writesMany_3 : decode cL_writesMany 3 = .ok (.iconst 0, 1) := by decide +kernel
theorem dL_writesMany_4 : decode cL_writesMany 4 = .ok (.istore 10, 2) := by decide +kernel
theorem dL_writesMany_6 : decode cL_writesMany 6 = .ok (.iload 10, 2) := by decide +kernel
theorem dL_writesMany_8 : decode cL_writesMany 8 = .ok (.iload 7, 2) := by decide +kernel
theorem dL_writesMany_10 : decode cL_writesMany 10 = .ok (.if_icmp .ge 76, 3) := by decide +kernel
theorem dL_writesMany_13 : decode cL_writesMany 13 = .ok (.iload 9, 2) := by decide +kernel
theorem dL_writesMany_15 : decode cL_writesMany 15 = .ok (.iload 10, 2) := by decide +kernel
theorem dL_writesMany_17 : decode cL_writesMany 17 = .ok (.if_icmp .ne 69, 3) := by decide +kernel
theorem dL_writesMany_20 : decode cL_writesMany 20 = .ok (.iload 4, 2) := by decide +kernel
theorem dL_writesMany_22 : decode cL_writesMany 22 = .ok (.iload 10, 2) := by decide +kernel
theorem dL_writesMany_24 : decode cL_writesMany 24 = .ok (.iload 6, 2) := by decide +kernel
theorem dL_writesMany_26 : decode cL_writesMany 26 = .ok (.imul, 1) := by decide +kernel
theorem dL_writesMany_27 : decode cL_writesMany 27 = .ok (.iadd, 1) := by decide +kernel
theorem dL_writesMany_28 : decode cL_writesMany 28 = .ok (.istore 11, 2) := by decide +kernel
theorem dL_writesMany_30 : decode cL_writesMany 30 = .ok (.iload 9, 2) := by decide +kernel
theorem dL_writesMany_32 : decode cL_writesMany 32 = .ok (.iload 11, 2) := by decide +kernel
theorem dL_writesMany_34 : decode cL_writesMany 34 = .ok (.iload 8, 2) := by decide +kernel
theorem dL_writesMany_36 : decode cL_writesMany 36 = .ok (.ifCond .eq 7, 3) := by decide +kernel
theorem dL_writesMany_39 : decode cL_writesMany 39 = .ok (.iconst 0, 1) := by decide +kernel
theorem dL_writesMany_40 : decode cL_writesMany 40 = .ok (.goto 5, 3) := by decide +kernel
theorem dL_writesMany_43 : decode cL_writesMany 43 = .ok (.ldc 130, 2) := by decide +kernel
theorem dL_writesMany_45 : decode cL_writesMany 45 = .ok (.if_icmp .lt 31, 3) := by decide +kernel
theorem dL_writesMany_48 : decode cL_writesMany 48 = .ok (.iload 11, 2) := by decide +kernel
theorem dL_writesMany_50 : decode cL_writesMany 50 = .ok (.ldc 131, 2) := by decide +kernel
theorem dL_writesMany_52 : decode cL_writesMany 52 = .ok (.if_icmp .gt 24, 3) := by decide +kernel
theorem dL_writesMany_55 : decode cL_writesMany 55 = .ok (.aload_n 1, 1) := by decide +kernel
theorem dL_writesMany_56 : decode cL_writesMany 56 = .ok (.iload_n 2, 1) := by decide +kernel
theorem dL_writesMany_57 : decode cL_writesMany 57 = .ok (.iload_n 3, 1) := by decide +kernel
theorem dL_writesMany_58 : decode cL_writesMany 58 = .ok (.iload 10, 2) := by decide +kernel
theorem dL_writesMany_60 : decode cL_writesMany 60 = .ok (.iload 5, 2) := by decide +kernel
theorem dL_writesMany_62 : decode cL_writesMany 62 = .ok (.imul, 1) := by decide +kernel
theorem dL_writesMany_63 : decode cL_writesMany 63 = .ok (.iadd, 1) := by decide +kernel
theorem dL_writesMany_64 : decode cL_writesMany 64 = .ok (.iload 11, 2) := by decide +kernel
theorem dL_writesMany_66 : decode cL_writesMany 66 = .ok (.invokestatic 120, 3) := by decide +kernel
theorem dL_writesMany_69 : decode cL_writesMany 69 = .ok (.ifCond .lt 7, 3) := by decide +kernel
theorem dL_writesMany_72 : decode cL_writesMany 72 = .ok (.iconst 1, 1) := by decide +kernel
theorem dL_writesMany_73 : decode cL_writesMany 73 = .ok (.goto 4, 3) := by decide +kernel
theorem dL_writesMany_76 : decode cL_writesMany 76 = .ok (.iconst 0, 1) := by decide +kernel
theorem dL_writesMany_77 : decode cL_writesMany 77 = .ok (.iadd, 1) := by decide +kernel
theorem dL_writesMany_78 : decode cL_writesMany 78 = .ok (.istore 9, 2) := by decide +kernel
theorem dL_writesMany_80 : decode cL_writesMany 80 = .ok (.iinc 10 1, 3) := by decide +kernel
theorem dL_writesMany_83 : decode cL_writesMany 83 = .ok (.goto (-77), 3) := by decide +kernel
theorem dL_writesMany_86 : decode cL_writesMany 86 = .ok (.iload 9, 2) := by decide +kernel
theorem dL_writesMany_88 : decode cL_writesMany 88 = .ok (.ifCond .eq 22, 3) := by decide +kernel
theorem dL_writesMany_91 : decode cL_writesMany 91 = .ok (.aload_n 0, 1) := by decide +kernel
theorem dL_writesMany_92 : decode cL_writesMany 92 = .ok (.iload_n 2, 1) := by decide +kernel
theorem dL_writesMany_93 : decode cL_writesMany 93 = .ok (.iload_n 3, 1) := by decide +kernel
theorem dL_writesMany_94 : decode cL_writesMany 94 = .ok (.iload 4, 2) := by decide +kernel
theorem dL_writesMany_96 : decode cL_writesMany 96 = .ok (.iload 5, 2) := by decide +kernel
theorem dL_writesMany_98 : decode cL_writesMany 98 = .ok (.iload 6, 2) := by decide +kernel
theorem dL_writesMany_100 : decode cL_writesMany 100 = .ok (.iload 7, 2) := by decide +kernel
theorem dL_writesMany_102 : decode cL_writesMany 102 = .ok (.invokevirtual 132, 3) := by decide +kernel
theorem dL_writesMany_105 : decode cL_writesMany 105 = .ok (.iload 9, 2) := by decide +kernel
theorem dL_writesMany_107 : decode cL_writesMany 107 = .ok (.if_icmp .ne 7, 3) := by decide +kernel
theorem dL_writesMany_110 : decode cL_writesMany 110 = .ok (.iconst 1, 1) := by decide +kernel
theorem dL_writesMany_111 : decode cL_writesMany 111 = .ok (.goto 4, 3) := by decide +kernel
theorem dL_writesMany_114 : decode cL_writesMany 114 = .ok (.iconst 0, 1) := by decide +kernel
theorem dL_writesMany_115 : decode cL_writesMany 115 = .ok (.ireturn, 1) := by decide +kernel
set_option maxRecDepth 400000 in
theorem ggL_goesOn_L_allRows : GoodIn wsL_goesOn wsL_allRows := goodIn_ca (goodIn_ca (goodIn_r _ [4, 5, 6, 7, 8, 9, 10, 11, 12, 13, 14, 15, 16, 17, 18, 19, 20, 21, 22, 23, 24, 25, 26, 27, 28, 29, 30, 31, 32, 33, 34, 35, 36, 37, 107, 108, 109, 110, 111, 112, 113, 114, 115, 116, 117, 118, 119, 120, 121, 122, 123, 124] rfl (by decide +kernel)) (goodIn_sub (fun _ h => List.mem_cons_of_mem _ (List.mem_append_left _ (List.mem_append_right _ h))) (by decide +kernel))) (goodIn_sub (fun _ h => List.mem_cons_of_mem _ (List.mem_append_right _ h)) (by decide +kernel))
set_option maxRecDepth 20000 in
theorem gL_goesOn_L_allRows : GoodIn wsL_goesOn (va_wsS RL 136 yL_allRows wsL_allRows) := goodIn_app (goodIn_of _ (by decide +kernel)) ggL_goesOn_L_allRows
set_option maxRecDepth 400000 in
theorem ggL_goesOn_X5_clock : GoodIn wsL_goesOn wsX5_clock := goodIn_r _ [41, 42, 107, 108, 109, 110, 111, 112, 113] rfl (by decide +kernel)
set_option maxRecDepth 20000 in
theorem gL_goesOn_X5_clock : GoodIn wsL_goesOn (wsV RL 61 RX5 yX5_clock wsX5_clock) := goodIn_app (goodIn_of _ (by decide +kernel)) ggL_goesOn_X5_clock
set_option maxRecDepth 400000 in
theorem ggL_goesOn_X5_advance : GoodIn wsL_goesOn wsX5_advance := goodIn_ca (goodIn_ca (goodIn_r _ [46, 47, 42, 48, 49, 50, 51, 52, 18, 19, 8, 20, 21, 22, 53, 54, 55, 56, 57, 58, 59, 60, 61, 16, 10, 11, 12, 13, 14, 15, 17, 62, 63, 64, 26, 65, 28, 66, 67, 68, 69, 70, 71, 72, 73, 74, 75, 76, 77, 78, 79, 80, 81, 82, 83, 84, 85, 31, 32, 33, 34, 35, 36, 37, 86, 87, 88, 89, 90, 91, 92, 93, 94, 95, 96, 97, 98, 99, 100, 101, 102, 103, 104, 105, 106, 107, 108, 109, 110, 111, 112, 113, 114, 115, 116, 117, 118, 119, 120, 121, 122, 123, 124, 125, 126, 127, 128, 129, 130, 131, 132] rfl (by decide +kernel)) (goodIn_sub (fun _ h => List.mem_cons_of_mem _ (List.mem_append_right _ h)) (by decide +kernel))) (goodIn_sub (fun _ h => List.mem_cons_of_mem _ (List.mem_append_left _ (List.mem_append_right _ h))) (by decide +kernel))
set_option maxRecDepth 20000 in
theorem gL_goesOn_X5_advance : GoodIn wsL_goesOn (wsV RL 140 RX5 yX5_advance wsX5_advance) := goodIn_app (goodIn_of _ (by decide +kernel)) ggL_goesOn_X5_advance
theorem dL_goesOn_0 : decode cL_goesOn 0 = .ok (.aload_n 0, 1) := by decide +kernel
theorem dL_goesOn_1 : decode cL_goesOn 1 = .ok (.invokestatic 136, 3) := by decide +kernel
theorem dL_goesOn_4 : decode cL_goesOn 4 = .ok (.istore 4, 2) := by decide +kernel
theorem dL_goesOn_6 : decode cL_goesOn 6 = .ok (.aload_n 0, 1) := by decide +kernel
theorem dL_goesOn_7 : decode cL_goesOn 7 = .ok (.invokevirtual 61, 3) := by decide +kernel
theorem dL_goesOn_10 : decode cL_goesOn 10 = .ok (.istore 5, 2) := by decide +kernel
theorem dL_goesOn_12 : decode cL_goesOn 12 = .ok (.aload_n 0, 1) := by decide +kernel
theorem dL_goesOn_13 : decode cL_goesOn 13 = .ok (.iload_n 3, 1) := by decide +kernel
theorem dL_goesOn_14 : decode cL_goesOn 14 = .ok (.invokevirtual 140, 3) := by decide +kernel
theorem dL_goesOn_17 : decode cL_goesOn 17 = .ok (.istore 6, 2) := by decide +kernel
theorem dL_goesOn_19 : decode cL_goesOn 19 = .ok (.aload_n 1, 1) := by decide +kernel
theorem dL_goesOn_20 : decode cL_goesOn 20 = .ok (.iload_n 3, 1) := by decide +kernel
theorem dL_goesOn_21 : decode cL_goesOn 21 = .ok (.invokevirtual 140, 3) := by decide +kernel
theorem dL_goesOn_24 : decode cL_goesOn 24 = .ok (.iload 6, 2) := by decide +kernel
theorem dL_goesOn_26 : decode cL_goesOn 26 = .ok (.if_icmp .ne 30, 3) := by decide +kernel
theorem dL_goesOn_29 : decode cL_goesOn 29 = .ok (.aload_n 0, 1) := by decide +kernel
theorem dL_goesOn_30 : decode cL_goesOn 30 = .ok (.invokevirtual 61, 3) := by decide +kernel
theorem dL_goesOn_33 : decode cL_goesOn 33 = .ok (.iload 5, 2) := by decide +kernel
theorem dL_goesOn_35 : decode cL_goesOn 35 = .ok (.iload_n 3, 1) := by decide +kernel
theorem dL_goesOn_36 : decode cL_goesOn 36 = .ok (.iadd, 1) := by decide +kernel
theorem dL_goesOn_37 : decode cL_goesOn 37 = .ok (.if_icmp .ne 19, 3) := by decide +kernel
theorem dL_goesOn_40 : decode cL_goesOn 40 = .ok (.aload_n 0, 1) := by decide +kernel
theorem dL_goesOn_41 : decode cL_goesOn 41 = .ok (.invokestatic 136, 3) := by decide +kernel
theorem dL_goesOn_44 : decode cL_goesOn 44 = .ok (.iload 4, 2) := by decide +kernel
theorem dL_goesOn_46 : decode cL_goesOn 46 = .ok (.iload 6, 2) := by decide +kernel
theorem dL_goesOn_48 : decode cL_goesOn 48 = .ok (.isub, 1) := by decide +kernel
theorem dL_goesOn_49 : decode cL_goesOn 49 = .ok (.if_icmp .ne 7, 3) := by decide +kernel
theorem dL_goesOn_52 : decode cL_goesOn 52 = .ok (.iconst 1, 1) := by decide +kernel
theorem dL_goesOn_53 : decode cL_goesOn 53 = .ok (.goto 4, 3) := by decide +kernel
theorem dL_goesOn_56 : decode cL_goesOn 56 = .ok (.iconst 0, 1) := by decide +kernel
theorem dL_goesOn_57 : decode cL_goesOn 57 = .ok (.istore 7, 2) := by decide +kernel
theorem dL_goesOn_59 : decode cL_goesOn 59 = .ok (.iconst 0, 1) := by decide +kernel
theorem dL_goesOn_60 : decode cL_goesOn 60 = .ok (.istore 8, 2) := by decide +kernel
theorem dL_goesOn_62 : decode cL_goesOn 62 = .ok (.iload 8, 2) := by decide +kernel
theorem dL_goesOn_64 : decode cL_goesOn 64 = .ok (.iconst 4, 1) := by decide +kernel
theorem dL_goesOn_65 : decode cL_goesOn 65 = .ok (.if_icmp .ge 53, 3) := by decide +kernel
theorem dL_goesOn_68 : decode cL_goesOn 68 = .ok (.aload_n 0, 1) := by decide +kernel
theorem dL_goesOn_69 : decode cL_goesOn 69 = .ok (.invokevirtual 61, 3) := by decide +kernel
theorem dL_goesOn_72 : decode cL_goesOn 72 = .ok (.aload_n 2, 1) := by decide +kernel
theorem dL_goesOn_73 : decode cL_goesOn 73 = .ok (.iconst 2, 1) := by decide +kernel
theorem dL_goesOn_74 : decode cL_goesOn 74 = .ok (.iload 8, 2) := by decide +kernel
theorem dL_goesOn_76 : decode cL_goesOn 76 = .ok (.iadd, 1) := by decide +kernel
theorem dL_goesOn_77 : decode cL_goesOn 77 = .ok (.iaload, 1) := by decide +kernel
theorem dL_goesOn_78 : decode cL_goesOn 78 = .ok (.isub, 1) := by decide +kernel
theorem dL_goesOn_79 : decode cL_goesOn 79 = .ok (.istore 9, 2) := by decide +kernel
theorem dL_goesOn_81 : decode cL_goesOn 81 = .ok (.aload_n 2, 1) := by decide +kernel
theorem dL_goesOn_82 : decode cL_goesOn 82 = .ok (.bipush 6, 2) := by decide +kernel
theorem dL_goesOn_84 : decode cL_goesOn 84 = .ok (.iload 8, 2) := by decide +kernel
theorem dL_goesOn_86 : decode cL_goesOn 86 = .ok (.iadd, 1) := by decide +kernel
theorem dL_goesOn_87 : decode cL_goesOn 87 = .ok (.iload 9, 2) := by decide +kernel
theorem dL_goesOn_89 : decode cL_goesOn 89 = .ok (.aload_n 2, 1) := by decide +kernel
theorem dL_goesOn_90 : decode cL_goesOn 90 = .ok (.bipush 6, 2) := by decide +kernel
theorem dL_goesOn_92 : decode cL_goesOn 92 = .ok (.iload 8, 2) := by decide +kernel
theorem dL_goesOn_94 : decode cL_goesOn 94 = .ok (.iadd, 1) := by decide +kernel
theorem dL_goesOn_95 : decode cL_goesOn 95 = .ok (.iaload, 1) := by decide +kernel
theorem dL_goesOn_96 : decode cL_goesOn 96 = .ok (.if_icmp .le 8, 3) := by decide +kernel
theorem dL_goesOn_99 : decode cL_goesOn 99 = .ok (.iload 9, 2) := by decide +kernel
theorem dL_goesOn_101 : decode cL_goesOn 101 = .ok (.goto 10, 3) := by decide +kernel
theorem dL_goesOn_104 : decode cL_goesOn 104 = .ok (.aload_n 2, 1) := by decide +kernel
theorem dL_goesOn_105 : decode cL_goesOn 105 = .ok (.bipush 6, 2) := by decide +kernel
theorem dL_goesOn_107 : decode cL_goesOn 107 = .ok (.iload 8, 2) := by decide +kernel
theorem dL_goesOn_109 : decode cL_goesOn 109 = .ok (.iadd, 1) := by decide +kernel
theorem dL_goesOn_110 : decode cL_goesOn 110 = .ok (.iaload, 1) := by decide +kernel
theorem dL_goesOn_111 : decode cL_goesOn 111 = .ok (.iastore, 1) := by decide +kernel
theorem dL_goesOn_112 : decode cL_goesOn 112 = .ok (.iinc 8 1, 3) := by decide +kernel
theorem dL_goesOn_115 : decode cL_goesOn 115 = .ok (.goto (-53), 3) := by decide +kernel
theorem dL_goesOn_118 : decode cL_goesOn 118 = .ok (.iload 7, 2) := by decide +kernel
theorem dL_goesOn_120 : decode cL_goesOn 120 = .ok (.ifCond .eq 12, 3) := by decide +kernel
theorem dL_goesOn_123 : decode cL_goesOn 123 = .ok (.iload 6, 2) := by decide +kernel
theorem dL_goesOn_125 : decode cL_goesOn 125 = .ok (.ifCond .lt 7, 3) := by decide +kernel
theorem dL_goesOn_128 : decode cL_goesOn 128 = .ok (.iconst 1, 1) := by decide +kernel
theorem dL_goesOn_129 : decode cL_goesOn 129 = .ok (.goto 4, 3) := by decide +kernel
theorem dL_goesOn_132 : decode cL_goesOn 132 = .ok (.iconst 0, 1) := by decide +kernel
theorem dL_goesOn_133 : decode cL_goesOn 133 = .ok (.ireturn, 1) := by decide +kernel
set_option maxRecDepth 400000 in
theorem ggL_retains_L_allRows : GoodIn wsL_retains wsL_allRows := goodIn_ca (goodIn_ca (goodIn_r _ [6, 7, 8, 9, 10, 11, 12, 13, 14, 15, 16, 17, 18, 19, 20, 21, 22, 23, 24, 25, 26, 27, 28, 29, 30, 31, 32, 33, 34, 35, 36, 37, 38, 39, 106, 107, 108, 109, 110, 111, 112, 113, 114, 115, 116, 117, 118, 119, 120, 121, 122, 123] rfl (by decide +kernel)) (goodIn_sub (fun _ h => List.mem_cons_of_mem _ (List.mem_append_left _ (List.mem_append_right _ h))) (by decide +kernel))) (goodIn_sub (fun _ h => List.mem_cons_of_mem _ (List.mem_append_right _ h)) (by decide +kernel))
set_option maxRecDepth 20000 in
theorem gL_retains_L_allRows : GoodIn wsL_retains (va_wsS RL 136 yL_allRows wsL_allRows) := goodIn_app (goodIn_of _ (by decide +kernel)) ggL_retains_L_allRows
set_option maxRecDepth 400000 in
theorem ggL_retains_X5_clock : GoodIn wsL_retains wsX5_clock := goodIn_r _ [43, 44, 106, 107, 108, 109, 110, 111, 112] rfl (by decide +kernel)
set_option maxRecDepth 20000 in
theorem gL_retains_X5_clock : GoodIn wsL_retains (wsV RL 61 RX5 yX5_clock wsX5_clock) := goodIn_app (goodIn_of _ (by decide +kernel)) ggL_retains_X5_clock
set_option maxRecDepth 400000 in
theorem ggL_retains_X5_setRetention : GoodIn wsL_retains wsX5_setRetention := goodIn_ca (goodIn_ca (goodIn_r _ [48, 49, 50, 51, 20, 21, 10, 22, 23, 24, 52, 53, 54, 55, 56, 44, 57, 58, 59, 60, 18, 12, 13, 14, 15, 16, 17, 19, 61, 62, 63, 28, 64, 30, 65, 66, 67, 68, 69, 70, 71, 72, 73, 74, 75, 76, 77, 78, 79, 80, 81, 82, 83, 84, 33, 34, 35, 36, 37, 38, 39, 85, 86, 87, 88, 89, 90, 91, 92, 93, 94, 95, 96, 97, 98, 99, 100, 101, 102, 103, 104, 105, 106, 107, 108, 109, 110, 111, 112, 113, 114, 115, 116, 117, 118, 119, 120, 121, 122, 123, 124, 125, 126, 127, 128, 129, 130, 131] rfl (by decide +kernel)) (goodIn_sub (fun _ h => List.mem_cons_of_mem _ (List.mem_append_right _ h)) (by decide +kernel))) (goodIn_sub (fun _ h => List.mem_cons_of_mem _ (List.mem_append_left _ (List.mem_append_right _ h))) (by decide +kernel))
set_option maxRecDepth 20000 in
theorem gL_retains_X5_setRetention : GoodIn wsL_retains (wsV RL 144 RX5 yX5_setRetention wsX5_setRetention) := goodIn_app (goodIn_of _ (by decide +kernel)) ggL_retains_X5_setRetention
theorem dL_retains_0 : decode cL_retains 0 = .ok (.iload_n 3, 1) := by decide +kernel
theorem dL_retains_1 : decode cL_retains 1 = .ok (.iconst 2, 1) := by decide +kernel
theorem dL_retains_2 : decode cL_retains 2 = .ok (.if_icmp .ge 9, 3) := by decide +kernel
theorem dL_retains_5 : decode cL_retains 5 = .ok (.sipush 7200, 3) := by decide +kernel
theorem dL_retains_8 : decode cL_retains 8 = .ok (.goto 5, 3) := by decide +kernel
theorem dL_retains_11 : decode cL_retains 11 = .ok (.ldc 143, 2) := by decide +kernel
theorem dL_retains_13 : decode cL_retains 13 = .ok (.iload 4, 2) := by decide +kernel
theorem dL_retains_15 : decode cL_retains 15 = .ok (.iconst 3, 1) := by decide +kernel
theorem dL_retains_16 : decode cL_retains 16 = .ok (.irem, 1) := by decide +kernel
theorem dL_retains_17 : decode cL_retains 17 = .ok (.ifCond .ne 13, 3) := by decide +kernel
theorem dL_retains_20 : decode cL_retains 20 = .ok (.iload 4, 2) := by decide +kernel
theorem dL_retains_22 : decode cL_retains 22 = .ok (.iconst 3, 1) := by decide +kernel
theorem dL_retains_23 : decode cL_retains 23 = .ok (.idiv, 1) := by decide +kernel
theorem dL_retains_24 : decode cL_retains 24 = .ok (.ldc 131, 2) := by decide +kernel
theorem dL_retains_26 : decode cL_retains 26 = .ok (.irem, 1) := by decide +kernel
theorem dL_retains_27 : decode cL_retains 27 = .ok (.goto 11, 3) := by decide +kernel
theorem dL_retains_30 : decode cL_retains 30 = .ok (.iload 4, 2) := by decide +kernel
theorem dL_retains_32 : decode cL_retains 32 = .ok (.iconst 3, 1) := by decide +kernel
theorem dL_retains_33 : decode cL_retains 33 = .ok (.idiv, 1) := by decide +kernel
theorem dL_retains_34 : decode cL_retains 34 = .ok (.sipush 4000, 3) := by decide +kernel
theorem dL_retains_37 : decode cL_retains 37 = .ok (.irem, 1) := by decide +kernel
theorem dL_retains_38 : decode cL_retains 38 = .ok (.iadd, 1) := by decide +kernel
theorem dL_retains_39 : decode cL_retains 39 = .ok (.istore 5, 2) := by decide +kernel
theorem dL_retains_41 : decode cL_retains 41 = .ok (.aload_n 2, 1) := by decide +kernel
theorem dL_retains_42 : decode cL_retains 42 = .ok (.iconst 2, 1) := by decide +kernel
theorem dL_retains_43 : decode cL_retains 43 = .ok (.iload_n 3, 1) := by decide +kernel
theorem dL_retains_44 : decode cL_retains 44 = .ok (.iadd, 1) := by decide +kernel
theorem dL_retains_45 : decode cL_retains 45 = .ok (.iaload, 1) := by decide +kernel
theorem dL_retains_46 : decode cL_retains 46 = .ok (.istore 6, 2) := by decide +kernel
theorem dL_retains_48 : decode cL_retains 48 = .ok (.aload_n 0, 1) := by decide +kernel
theorem dL_retains_49 : decode cL_retains 49 = .ok (.invokestatic 136, 3) := by decide +kernel
theorem dL_retains_52 : decode cL_retains 52 = .ok (.istore 7, 2) := by decide +kernel
theorem dL_retains_54 : decode cL_retains 54 = .ok (.aload_n 2, 1) := by decide +kernel
theorem dL_retains_55 : decode cL_retains 55 = .ok (.iconst 2, 1) := by decide +kernel
theorem dL_retains_56 : decode cL_retains 56 = .ok (.iload_n 3, 1) := by decide +kernel
theorem dL_retains_57 : decode cL_retains 57 = .ok (.iadd, 1) := by decide +kernel
theorem dL_retains_58 : decode cL_retains 58 = .ok (.iload 5, 2) := by decide +kernel
theorem dL_retains_60 : decode cL_retains 60 = .ok (.iastore, 1) := by decide +kernel
theorem dL_retains_61 : decode cL_retains 61 = .ok (.aload_n 0, 1) := by decide +kernel
theorem dL_retains_62 : decode cL_retains 62 = .ok (.invokevirtual 61, 3) := by decide +kernel
theorem dL_retains_65 : decode cL_retains 65 = .ok (.iload 5, 2) := by decide +kernel
theorem dL_retains_67 : decode cL_retains 67 = .ok (.isub, 1) := by decide +kernel
theorem dL_retains_68 : decode cL_retains 68 = .ok (.istore 8, 2) := by decide +kernel
theorem dL_retains_70 : decode cL_retains 70 = .ok (.aload_n 2, 1) := by decide +kernel
theorem dL_retains_71 : decode cL_retains 71 = .ok (.bipush 6, 2) := by decide +kernel
theorem dL_retains_73 : decode cL_retains 73 = .ok (.iload_n 3, 1) := by decide +kernel
theorem dL_retains_74 : decode cL_retains 74 = .ok (.iadd, 1) := by decide +kernel
theorem dL_retains_75 : decode cL_retains 75 = .ok (.iload 8, 2) := by decide +kernel
theorem dL_retains_77 : decode cL_retains 77 = .ok (.aload_n 2, 1) := by decide +kernel
theorem dL_retains_78 : decode cL_retains 78 = .ok (.bipush 6, 2) := by decide +kernel
theorem dL_retains_80 : decode cL_retains 80 = .ok (.iload_n 3, 1) := by decide +kernel
theorem dL_retains_81 : decode cL_retains 81 = .ok (.iadd, 1) := by decide +kernel
theorem dL_retains_82 : decode cL_retains 82 = .ok (.iaload, 1) := by decide +kernel
theorem dL_retains_83 : decode cL_retains 83 = .ok (.if_icmp .le 8, 3) := by decide +kernel
theorem dL_retains_86 : decode cL_retains 86 = .ok (.iload 8, 2) := by decide +kernel
theorem dL_retains_88 : decode cL_retains 88 = .ok (.goto 9, 3) := by decide +kernel
theorem dL_retains_91 : decode cL_retains 91 = .ok (.aload_n 2, 1) := by decide +kernel
theorem dL_retains_92 : decode cL_retains 92 = .ok (.bipush 6, 2) := by decide +kernel
theorem dL_retains_94 : decode cL_retains 94 = .ok (.iload_n 3, 1) := by decide +kernel
theorem dL_retains_95 : decode cL_retains 95 = .ok (.iadd, 1) := by decide +kernel
theorem dL_retains_96 : decode cL_retains 96 = .ok (.iaload, 1) := by decide +kernel
theorem dL_retains_97 : decode cL_retains 97 = .ok (.iastore, 1) := by decide +kernel
theorem dL_retains_98 : decode cL_retains 98 = .ok (.aload_n 0, 1) := by decide +kernel
theorem dL_retains_99 : decode cL_retains 99 = .ok (.iload_n 3, 1) := by decide +kernel
theorem dL_retains_100 : decode cL_retains 100 = .ok (.iload 5, 2) := by decide +kernel
theorem dL_retains_102 : decode cL_retains 102 = .ok (.invokevirtual 144, 3) := by decide +kernel
theorem dL_retains_105 : decode cL_retains 105 = .ok (.iload 6, 2) := by decide +kernel
theorem dL_retains_107 : decode cL_retains 107 = .ok (.if_icmp .ne 44, 3) := by decide +kernel
theorem dL_retains_110 : decode cL_retains 110 = .ok (.aload_n 1, 1) := by decide +kernel
theorem dL_retains_111 : decode cL_retains 111 = .ok (.iload_n 3, 1) := by decide +kernel
theorem dL_retains_112 : decode cL_retains 112 = .ok (.iload 5, 2) := by decide +kernel
theorem dL_retains_114 : decode cL_retains 114 = .ok (.invokevirtual 144, 3) := by decide +kernel
theorem dL_retains_117 : decode cL_retains 117 = .ok (.iload 6, 2) := by decide +kernel
theorem dL_retains_119 : decode cL_retains 119 = .ok (.if_icmp .ne 32, 3) := by decide +kernel
theorem dL_retains_122 : decode cL_retains 122 = .ok (.aload_n 0, 1) := by decide +kernel
theorem dL_retains_123 : decode cL_retains 123 = .ok (.invokestatic 136, 3) := by decide +kernel
theorem dL_retains_126 : decode cL_retains 126 = .ok (.iload 7, 2) := by decide +kernel
theorem dL_retains_128 : decode cL_retains 128 = .ok (.if_icmp .gt 23, 3) := by decide +kernel
theorem dL_retains_131 : decode cL_retains 131 = .ok (.iload 5, 2) := by decide +kernel
theorem dL_retains_133 : decode cL_retains 133 = .ok (.iload 6, 2) := by decide +kernel
theorem dL_retains_135 : decode cL_retains 135 = .ok (.if_icmp .lt 12, 3) := by decide +kernel
theorem dL_retains_138 : decode cL_retains 138 = .ok (.aload_n 0, 1) := by decide +kernel
theorem dL_retains_139 : decode cL_retains 139 = .ok (.invokestatic 136, 3) := by decide +kernel
theorem dL_retains_142 : decode cL_retains 142 = .ok (.iload 7, 2) := by decide +kernel
theorem dL_retains_144 : decode cL_retains 144 = .ok (.if_icmp .ne 7, 3) := by decide +kernel
theorem dL_retains_147 : decode cL_retains 147 = .ok (.iconst 1, 1) := by decide +kernel
theorem dL_retains_148 : decode cL_retains 148 = .ok (.goto 4, 3) := by decide +kernel
theorem dL_retains_151 : decode cL_retains 151 = .ok (.iconst 0, 1) := by decide +kernel
theorem dL_retains_152 : decode cL_retains 152 = .ok (.ireturn, 1) := by decide +kernel
set_option maxRecDepth 400000 in
theorem ggL_step_X5_clock : GoodIn wsL_step wsX5_clock := goodIn_r _ [8, 9, 337, 338, 339, 340, 341, 342, 343] rfl (by decide +kernel)
set_option maxRecDepth 20000 in
theorem gL_step_X5_clock : GoodIn wsL_step (wsV RL 61 RX5 yX5_clock wsX5_clock) := goodIn_app (goodIn_of _ (by decide +kernel)) ggL_step_X5_clock
set_option maxRecDepth 400000 in
theorem ggL_step_L_writes : GoodIn wsL_step wsL_writes := goodIn_ca (goodIn_ca (goodIn_ca (goodIn_r _ [13, 2, 14, 15, 12, 16, 17, 18, 19, 20, 7, 21, 22, 23, 24, 25, 26, 27, 28, 29, 30, 31, 32, 33, 34, 35, 36, 37, 38, 39, 40, 41, 42, 43, 44, 45, 46, 47, 48, 49, 50, 51, 52, 53, 54, 55, 56, 57, 58, 59, 60, 61, 62, 63, 64, 65, 66, 67, 68, 69, 70, 71, 4, 5, 6, 8, 9, 72, 73, 74, 75, 76, 77, 78, 79, 80, 81, 82, 83, 84, 85, 86, 87, 88, 89, 90, 91, 92, 93, 94, 95, 96, 97, 98, 99, 100, 101, 102, 103, 104, 105, 106, 107, 108, 109, 110, 111, 112, 113, 114, 115, 116, 117, 118, 119, 120, 121, 122, 123, 124, 125, 126, 127, 128, 129, 130, 131, 132, 133, 134, 135, 136, 137, 138, 139, 140, 141, 142, 143, 144, 145, 146, 147, 148, 149, 150, 151, 152, 153, 154, 155, 156, 157, 158, 159, 160, 161, 162, 163, 164, 165, 166, 167, 168, 169, 170, 171, 172, 173, 174, 175, 176, 177, 178, 179, 180, 181, 182, 183, 184, 185, 186, 187, 188, 189, 190, 191, 192, 193, 194, 195, 196, 197, 198, 199, 200, 201, 202, 203, 204, 205, 206, 207, 208, 209, 210, 211, 212, 213, 214, 215, 216, 217, 218, 219, 220, 221, 222, 223, 224, 225, 226, 227, 228, 229, 230, 231, 232, 233, 234, 344, 345, 346, 347, 348, 349, 350, 351, 337, 338, 339, 340, 341, 342, 343, 352, 353, 354, 355, 356, 357, 358, 359, 360, 361, 362] rfl (by decide +kernel)) (goodIn_sub (fun _ h => List.mem_cons_of_mem _ (List.mem_append_left _ (List.mem_append_left _ (List.mem_append_right _ h)))) (by decide +kernel))) (goodIn_sub (fun _ h => List.mem_cons_of_mem _ (List.mem_append_left _ (List.mem_append_right _ h))) (by decide +kernel))) (goodIn_sub (fun _ h => List.mem_cons_of_mem _ (List.mem_append_right _ h)) (by decide +kernel))
set_option maxRecDepth 20000 in
theorem gL_step_L_writes : GoodIn wsL_step (va_wsS RL 147 yL_writes wsL_writes) := goodIn_app (goodIn_of _ (by decide +kernel)) ggL_step_L_writes
set_option maxRecDepth 400000 in
theorem ggL_step_L_put : GoodIn wsL_step wsL_put := goodIn_ca (goodIn_ca (goodIn_ca (goodIn_r _ [74, 75, 17, 76, 77, 78, 7, 79, 24, 25, 26, 27, 28, 29, 30, 31, 80, 81, 82, 83, 55, 56, 84, 85, 86, 87, 88, 89, 9, 90, 91, 92, 93, 94, 35, 36, 95, 96, 97, 98, 22, 99, 100, 101, 102, 103, 37, 38, 39, 40, 41, 42, 43, 44, 45, 46, 47, 104, 105, 106, 60, 107, 62, 108, 109, 110, 111, 112, 113, 114, 115, 116, 117, 118, 119, 120, 121, 122, 123, 124, 125, 126, 127, 128, 129, 130, 131, 132, 133, 134, 65, 66, 67, 68, 69, 70, 71, 135, 136, 137, 138, 139, 140, 141, 142, 143, 144, 145, 146, 147, 148, 149, 150, 151, 152, 153, 154, 155, 156, 157, 158, 159, 160, 161, 162, 163, 164, 165, 166, 167, 168, 169, 170, 171, 172, 173, 174, 175, 176, 177, 178, 179, 180, 181, 182, 183, 184, 185, 186, 187, 188, 189, 190, 191, 192, 193, 194, 195, 196, 197, 198, 199, 200, 201, 202, 203, 204, 205, 206, 337, 338, 339, 340, 341, 342, 343, 344, 345, 346, 347, 348, 349, 350, 351, 352, 353, 354, 355, 356, 357, 358, 359, 360, 361, 362] rfl (by decide +kernel)) (goodIn_sub (fun _ h => List.mem_cons_of_mem _ (List.mem_append_left _ (List.mem_append_left _ (List.mem_append_right _ h)))) (by decide +kernel))) (goodIn_sub (fun _ h => List.mem_cons_of_mem _ (List.mem_append_right _ h)) (by decide +kernel))) (goodIn_sub (fun _ h => List.mem_cons_of_mem _ (List.mem_append_left _ (List.mem_append_right _ h))) (by decide +kernel))
set_option maxRecDepth 20000 in
theorem gL_step_L_put : GoodIn wsL_step (va_wsS RL 120 yL_put wsL_put) := goodIn_app (goodIn_of _ (by decide +kernel)) ggL_step_L_put
set_option maxRecDepth 400000 in
theorem ggL_step_L_valueAt : GoodIn wsL_step wsL_valueAt := goodIn_ca (goodIn_ca (goodIn_r _ [16, 17, 2, 18, 19, 20, 7, 21, 22, 23, 24, 25, 26, 27, 28, 29, 30, 31, 32, 33, 34, 35, 36, 37, 38, 39, 40, 41, 42, 43, 44, 45, 46, 47, 344, 345, 346, 347, 348, 349, 350, 351, 337, 338, 339, 340, 341, 342, 343] rfl (by decide +kernel)) (goodIn_sub (fun _ h => List.mem_cons_of_mem _ (List.mem_append_left _ (List.mem_append_left _ (List.mem_append_right _ h)))) (by decide +kernel))) (goodIn_sub (fun _ h => List.mem_cons_of_mem _ (List.mem_append_left _ (List.mem_append_right _ h))) (by decide +kernel))
set_option maxRecDepth 20000 in
theorem gL_step_L_valueAt : GoodIn wsL_step (va_wsS RL 117 yL_valueAt wsL_valueAt) := goodIn_app (goodIn_of _ (by decide +kernel)) ggL_step_L_valueAt
set_option maxRecDepth 400000 in
theorem ggL_step_L_writesMany : GoodIn wsL_step wsL_writesMany := goodIn_ca (goodIn_ca (goodIn_ca (goodIn_r _ [237, 238, 239, 72, 73, 12, 74, 75, 17, 76, 77, 78, 7, 79, 24, 25, 26, 27, 28, 29, 30, 31, 80, 81, 82, 83, 55, 56, 84, 85, 86, 87, 88, 89, 9, 90, 91, 92, 93, 94, 35, 36, 95, 96, 97, 98, 22, 99, 100, 101, 102, 103, 37, 38, 39, 40, 41, 42, 43, 44, 45, 46, 47, 104, 105, 106, 60, 107, 62, 108, 109, 110, 111, 112, 113, 114, 115, 116, 117, 118, 119, 120, 121, 122, 123, 124, 125, 126, 127, 128, 129, 130, 131, 132, 133, 134, 65, 66, 67, 68, 69, 70, 71, 135, 136, 137, 138, 139, 140, 141, 142, 143, 144, 145, 146, 147, 148, 149, 150, 151, 152, 153, 154, 155, 156, 157, 158, 159, 160, 161, 162, 163, 164, 165, 166, 167, 168, 169, 170, 171, 172, 173, 174, 175, 176, 177, 178, 179, 180, 181, 182, 183, 184, 185, 186, 187, 188, 189, 190, 191, 192, 193, 194, 195, 196, 197, 198, 199, 200, 201, 202, 203, 204, 205, 206, 240, 241, 242, 243, 52, 53, 54, 337, 338, 339, 340, 341, 342, 343, 344, 345, 346, 347, 348, 349, 350, 351, 352, 353, 354, 355, 356, 357, 358, 359, 360, 361, 362] rfl (by decide +kernel)) (goodIn_sub (fun _ h => List.mem_cons_of_mem _ (List.mem_append_left _ (List.mem_append_left _ (List.mem_append_right _ h)))) (by decide +kernel))) (goodIn_sub (fun _ h => List.mem_cons_of_mem _ (List.mem_append_right _ h)) (by decide +kernel))) (goodIn_sub (fun _ h => List.mem_cons_of_mem _ (List.mem_append_left _ (List.mem_append_right _ h))) (by decide +kernel))
set_option maxRecDepth 20000 in
theorem gL_step_L_writesMany : GoodIn wsL_step (va_wsS RL 151 yL_writesMany wsL_writesMany) := goodIn_app (goodIn_of _ (by decide +kernel)) ggL_step_L_writesMany
set_option maxRecDepth 400000 in
theorem ggL_step_L_tries : GoodIn wsL_step wsL_tries := goodIn_ca (goodIn_ca (goodIn_ca (goodIn_r _ [246, 2, 4, 5, 6, 7, 8, 9, 48, 49, 50, 51, 24, 25, 26, 27, 28, 29, 30, 31, 52, 53, 54, 55, 56, 57, 58, 59, 60, 61, 62, 63, 64, 65, 66, 67, 68, 69, 70, 71, 14, 15, 12, 16, 17, 18, 19, 20, 21, 22, 23, 32, 33, 34, 35, 36, 37, 38, 39, 40, 41, 42, 43, 44, 45, 46, 47, 247, 248, 249, 250, 251, 252, 253, 254, 255, 256, 257, 258, 99, 259, 224, 260, 151, 152, 138, 153, 141, 142, 261, 262, 263, 264, 265, 212, 213, 214, 215, 216, 217, 218, 219, 220, 221, 222, 223, 225, 123, 124, 125, 126, 127, 128, 226, 227, 228, 229, 140, 146, 147, 148, 149, 150, 266, 267, 268, 269, 270, 271, 272, 273, 274, 275, 276, 277, 278, 279, 280, 76, 77, 78, 79, 80, 81, 82, 83, 84, 85, 86, 87, 88, 89, 90, 91, 92, 93, 94, 95, 96, 97, 98, 100, 101, 102, 103, 104, 105, 106, 107, 108, 109, 110, 111, 112, 113, 114, 115, 116, 117, 118, 119, 120, 121, 122, 129, 130, 131, 132, 133, 134, 135, 136, 137, 139, 143, 144, 145, 154, 155, 156, 157, 158, 159, 160, 161, 162, 163, 164, 165, 166, 167, 168, 169, 170, 171, 172, 173, 174, 175, 176, 177, 178, 179, 180, 181, 182, 183, 184, 185, 186, 187, 188, 189, 190, 191, 192, 193, 194, 195, 196, 197, 198, 199, 200, 201, 202, 203, 204, 205, 206, 281, 282, 283, 284, 285, 286, 287, 288, 289, 290, 291, 292, 337, 338, 339, 340, 341, 342, 343, 344, 345, 346, 347, 348, 349, 350, 351, 352, 353, 354, 355, 356, 357, 358, 359, 360, 361, 362] rfl (by decide +kernel)) (goodIn_sub (fun _ h => List.mem_cons_of_mem _ (List.mem_append_left _ (List.mem_append_left _ (List.mem_append_right _ h)))) (by decide +kernel))) (goodIn_sub (fun _ h => List.mem_cons_of_mem _ (List.mem_append_right _ h)) (by decide +kernel))) (goodIn_sub (fun _ h => List.mem_cons_of_mem _ (List.mem_append_left _ (List.mem_append_right _ h))) (by decide +kernel))
set_option maxRecDepth 20000 in
theorem gL_step_L_tries : GoodIn wsL_step (va_wsS RL 155 yL_tries wsL_tries) := goodIn_app (goodIn_of _ (by decide +kernel)) ggL_step_L_tries
set_option maxRecDepth 400000 in
theorem ggL_step_L_tale : GoodIn wsL_step wsL_tale := goodIn_ca (goodIn_ca (goodIn_ca (goodIn_r _ [249, 250, 48, 49, 50, 7, 51, 24, 25, 26, 27, 28, 29, 30, 31, 52, 53, 54, 55, 56, 57, 58, 59, 60, 61, 62, 63, 64, 65, 66, 67, 68, 69, 70, 71, 251, 252, 253, 254, 35, 36, 22, 255, 256, 257, 258, 99, 259, 224, 260, 151, 152, 138, 153, 141, 142, 18, 19, 20, 21, 23, 32, 33, 34, 37, 38, 39, 40, 41, 42, 43, 44, 45, 46, 47, 261, 262, 263, 264, 265, 212, 213, 214, 215, 216, 217, 218, 219, 220, 221, 222, 223, 225, 123, 124, 125, 126, 127, 128, 226, 227, 228, 229, 140, 146, 147, 148, 149, 150, 266, 267, 268, 269, 270, 271, 272, 273, 274, 275, 276, 277, 278, 279, 280, 337, 338, 339, 340, 341, 342, 343, 344, 345, 346, 347, 348, 349, 350, 351, 352, 353, 354, 355, 356, 357, 358, 359, 360, 361, 362] rfl (by decide +kernel)) (goodIn_sub (fun _ h => List.mem_cons_of_mem _ (List.mem_append_left _ (List.mem_append_left _ (List.mem_append_right _ h)))) (by decide +kernel))) (goodIn_sub (fun _ h => List.mem_cons_of_mem _ (List.mem_append_right _ h)) (by decide +kernel))) (goodIn_sub (fun _ h => List.mem_cons_of_mem _ (List.mem_append_left _ (List.mem_append_right _ h))) (by decide +kernel))
set_option maxRecDepth 20000 in
theorem gL_step_L_tale : GoodIn wsL_step (va_wsS RL 123 yL_tale wsL_tale) := goodIn_app (goodIn_of _ (by decide +kernel)) ggL_step_L_tale
set_option maxRecDepth 400000 in
theorem ggL_step_X5_rows : GoodIn wsL_step wsX5_rows := goodIn_ca (goodIn_ca (goodIn_r _ [51, 24, 25, 26, 7, 27, 28, 29, 30, 31, 52, 53, 54, 55, 56, 57, 58, 59, 60, 61, 62, 63, 64, 65, 66, 67, 68, 69, 70, 71, 337, 338, 339, 340, 341, 342, 343, 344, 345, 346, 347, 348, 349, 350, 351, 352, 353, 354] rfl (by decide +kernel)) (goodIn_sub (fun _ h => List.mem_cons_of_mem _ (List.mem_append_left _ (List.mem_append_left _ (List.mem_append_right _ h)))) (by decide +kernel))) (goodIn_sub (fun _ h => List.mem_cons_of_mem _ (List.mem_append_right _ h)) (by decide +kernel))
set_option maxRecDepth 20000 in
theorem gL_step_X5_rows : GoodIn wsL_step (wsV RL 36 RX5 yX5_rows wsX5_rows) := goodIn_app (goodIn_of _ (by decide +kernel)) ggL_step_X5_rows
set_option maxRecDepth 400000 in
theorem ggL_step_X5_timeOf : GoodIn wsL_step wsX5_timeOf := goodIn_ca (goodIn_ca (goodIn_ca (goodIn_r _ [254, 35, 36, 22, 255, 24, 25, 26, 7, 27, 28, 29, 30, 31, 52, 53, 54, 55, 56, 256, 257, 258, 99, 259, 224, 66, 67, 60, 68, 69, 70, 71, 260, 151, 152, 138, 153, 141, 142, 344, 345, 346, 347, 348, 355, 356, 357, 358, 359, 360, 361, 362, 337, 338, 339, 340, 341, 342, 343, 349, 350, 351, 352, 353, 354] rfl (by decide +kernel)) (goodIn_sub (fun _ h => List.mem_cons_of_mem _ (List.mem_append_left _ (List.mem_append_right _ h))) (by decide +kernel))) (goodIn_sub (fun _ h => List.mem_cons_of_mem _ (List.mem_append_left _ (List.mem_append_left _ (List.mem_append_right _ h)))) (by decide +kernel))) (goodIn_sub (fun _ h => List.mem_cons_of_mem _ (List.mem_append_right _ h)) (by decide +kernel))
set_option maxRecDepth 20000 in
theorem gL_step_X5_timeOf : GoodIn wsL_step (wsV RL 39 RX5 yX5_timeOf wsX5_timeOf) := goodIn_app (goodIn_of _ (by decide +kernel)) ggL_step_X5_timeOf
set_option maxRecDepth 400000 in
theorem ggL_step_X5_valueAt : GoodIn wsL_step wsX5_valueAt := goodIn_ca (goodIn_ca (goodIn_r _ [21, 22, 23, 24, 25, 26, 7, 27, 28, 29, 30, 31, 32, 33, 34, 35, 36, 37, 38, 39, 40, 41, 42, 43, 44, 45, 46, 47, 344, 345, 346, 347, 348, 349, 350, 351, 337, 338, 339, 340, 341, 342, 343] rfl (by decide +kernel)) (goodIn_sub (fun _ h => List.mem_cons_of_mem _ (List.mem_append_left _ (List.mem_append_left _ (List.mem_append_right _ h)))) (by decide +kernel))) (goodIn_sub (fun _ h => List.mem_cons_of_mem _ (List.mem_append_left _ (List.mem_append_right _ h))) (by decide +kernel))
set_option maxRecDepth 20000 in
theorem gL_step_X5_valueAt : GoodIn wsL_step (wsV RL 27 RX5 yX5_valueAt wsX5_valueAt) := goodIn_app (goodIn_of _ (by decide +kernel)) ggL_step_X5_valueAt
set_option maxRecDepth 400000 in
theorem ggL_step_X5_erase : GoodIn wsL_step wsX5_erase := goodIn_ca (goodIn_ca (goodIn_r _ [284, 35, 36, 22, 23, 24, 25, 26, 7, 27, 28, 29, 30, 31, 32, 33, 34, 37, 38, 39, 40, 41, 42, 43, 44, 45, 46, 47, 100, 101, 102, 103, 9, 285, 286, 287, 60, 288, 62, 289, 290, 291, 292, 112, 113, 114, 115, 116, 119, 120, 121, 122, 123, 124, 125, 126, 127, 128, 129, 130, 131, 132, 133, 134, 65, 66, 67, 68, 69, 70, 71, 135, 136, 137, 138, 139, 140, 141, 142, 143, 144, 145, 146, 147, 148, 149, 150, 151, 152, 153, 154, 155, 156, 157, 158, 159, 160, 161, 162, 163, 164, 165, 166, 167, 168, 169, 170, 171, 172, 173, 174, 175, 176, 177, 117, 178, 179, 180, 181, 182, 183, 184, 185, 186, 187, 188, 189, 190, 191, 192, 193, 194, 195, 196, 197, 198, 199, 200, 201, 202, 203, 204, 205, 206, 344, 345, 346, 347, 348, 349, 350, 351, 337, 338, 339, 340, 341, 342, 343, 352, 353, 354, 355, 356, 357, 358, 359, 360, 361, 362] rfl (by decide +kernel)) (goodIn_sub (fun _ h => List.mem_cons_of_mem _ (List.mem_append_left _ (List.mem_append_right _ h))) (by decide +kernel))) (goodIn_sub (fun _ h => List.mem_cons_of_mem _ (List.mem_append_left _ (List.mem_append_left _ (List.mem_append_right _ h)))) (by decide +kernel))
set_option maxRecDepth 20000 in
theorem gL_step_X5_erase : GoodIn wsL_step (wsV RL 127 RX5 yX5_erase wsX5_erase) := goodIn_app (goodIn_of _ (by decide +kernel)) ggL_step_X5_erase
set_option maxRecDepth 400000 in
theorem ggL_step_L_retains : GoodIn wsL_step wsL_retains := goodIn_ca (goodIn_ca (goodIn_r _ [295, 296, 239, 297, 298, 12, 299, 48, 49, 50, 7, 51, 24, 25, 26, 27, 28, 29, 30, 31, 52, 53, 54, 55, 56, 57, 58, 59, 60, 61, 62, 63, 64, 65, 66, 67, 68, 69, 70, 71, 4, 5, 6, 8, 9, 300, 301, 302, 303, 304, 305, 306, 307, 308, 309, 310, 311, 312, 186, 160, 187, 313, 314, 315, 316, 317, 318, 319, 40, 320, 117, 38, 39, 41, 42, 43, 321, 290, 291, 292, 112, 113, 114, 115, 116, 322, 323, 324, 138, 325, 326, 146, 147, 148, 149, 140, 150, 151, 152, 153, 141, 142, 327, 204, 205, 206, 337, 338, 339, 340, 341, 342, 343, 344, 345, 346, 347, 348, 349, 350, 351, 352, 353, 354, 355, 356, 357, 358, 359, 360, 361, 362] rfl (by decide +kernel)) (goodIn_sub (fun _ h => List.mem_cons_of_mem _ (List.mem_append_left _ (List.mem_append_left _ (List.mem_append_right _ h)))) (by decide +kernel))) (goodIn_sub (fun _ h => List.mem_cons_of_mem _ (List.mem_append_right _ h)) (by decide +kernel))
set_option maxRecDepth 20000 in
theorem gL_step_L_retains : GoodIn wsL_step (va_wsS RL 159 yL_retains wsL_retains) := goodIn_app (goodIn_of _ (by decide +kernel)) ggL_step_L_retains
set_option maxRecDepth 400000 in
theorem ggL_step_L_goesOn : GoodIn wsL_step wsL_goesOn := goodIn_ca (goodIn_ca (goodIn_r _ [330, 297, 298, 12, 299, 48, 49, 50, 7, 51, 24, 25, 26, 27, 28, 29, 30, 31, 52, 53, 54, 55, 56, 57, 58, 59, 60, 61, 62, 63, 64, 65, 66, 67, 68, 69, 70, 71, 4, 5, 6, 8, 9, 331, 332, 333, 334, 90, 335, 336, 159, 160, 161, 307, 308, 309, 310, 311, 306, 312, 186, 187, 313, 314, 315, 316, 317, 318, 319, 40, 320, 117, 38, 39, 41, 42, 43, 321, 290, 291, 292, 112, 113, 114, 115, 116, 322, 323, 324, 138, 325, 326, 146, 147, 148, 149, 140, 150, 151, 152, 153, 141, 142, 327, 204, 205, 206, 337, 338, 339, 340, 341, 342, 343, 344, 345, 346, 347, 348, 349, 350, 351, 352, 353, 354, 355, 356, 357, 358, 359, 360, 361, 362] rfl (by decide +kernel)) (goodIn_sub (fun _ h => List.mem_cons_of_mem _ (List.mem_append_left _ (List.mem_append_left _ (List.mem_append_right _ h)))) (by decide +kernel))) (goodIn_sub (fun _ h => List.mem_cons_of_mem _ (List.mem_append_right _ h)) (by decide +kernel))
set_option maxRecDepth 20000 in
theorem gL_step_L_goesOn : GoodIn wsL_step (va_wsS RL 164 yL_goesOn wsL_goesOn) := goodIn_app (goodIn_of _ (by decide +kernel)) ggL_step_L_goesOn
theorem dL_step_0 : decode cL_step 0 = .ok (.iload_n 3, 1) := by decide +kernel
theorem dL_step_1 : decode cL_step 1 = .ok (.iconst 2, 1) := by decide +kernel
theorem dL_step_2 : decode cL_step 2 = .ok (.irem, 1) := by decide +kernel
theorem dL_step_3 : decode cL_step 3 = .ok (.istore 6, 2) := by decide +kernel
theorem dL_step_5 : decode cL_step 5 = .ok (.aload 5, 2) := by decide +kernel
theorem dL_step_7 : decode cL_step 7 = .ok (.iload 6, 2) := by decide +kernel
theorem dL_step_9 : decode cL_step 9 = .ok (.iaload, 1) := by decide +kernel
theorem dL_step_10 : decode cL_step 10 = .ok (.iconst 1, 1) := by decide +kernel
theorem dL_step_11 : decode cL_step 11 = .ok (.if_icmp .ne 7, 3) := by decide +kernel
theorem dL_step_14 : decode cL_step 14 = .ok (.iconst 1, 1) := by decide +kernel
theorem dL_step_15 : decode cL_step 15 = .ok (.goto 4, 3) := by decide +kernel
theorem dL_step_18 : decode cL_step 18 = .ok (.iconst 0, 1) := by decide +kernel
theorem dL_step_19 : decode cL_step 19 = .ok (.istore 7, 2) := by decide +kernel
theorem dL_step_21 : decode cL_step 21 = .ok (.aload_n 0, 1) := by decide +kernel
theorem dL_step_22 : decode cL_step 22 = .ok (.invokevirtual 61, 3) := by decide +kernel
theorem dL_step_25 : decode cL_step 25 = .ok (.iload 4, 2) := by decide +kernel
theorem dL_step_27 : decode cL_step 27 = .ok (.iconst 4, 1) := by decide +kernel
theorem dL_step_28 : decode cL_step 28 = .ok (.irem, 1) := by decide +kernel
theorem dL_step_29 : decode cL_step 29 = .ok (.ifCond .ne 16, 3) := by decide +kernel
theorem dL_step_32 : decode cL_step 32 = .ok (.iload 4, 2) := by decide +kernel
theorem dL_step_34 : decode cL_step 34 = .ok (.iconst 4, 1) := by decide +kernel
theorem dL_step_35 : decode cL_step 35 = .ok (.idiv, 1) := by decide +kernel
theorem dL_step_36 : decode cL_step 36 = .ok (.sipush 4000, 3) := by decide +kernel
theorem dL_step_39 : decode cL_step 39 = .ok (.irem, 1) := by decide +kernel
theorem dL_step_40 : decode cL_step 40 = .ok (.iconst 5, 1) := by decide +kernel
theorem dL_step_41 : decode cL_step 41 = .ok (.isub, 1) := by decide +kernel
theorem dL_step_42 : decode cL_step 42 = .ok (.goto 11, 3) := by decide +kernel
theorem dL_step_45 : decode cL_step 45 = .ok (.iload 4, 2) := by decide +kernel
theorem dL_step_47 : decode cL_step 47 = .ok (.iconst 4, 1) := by decide +kernel
theorem dL_step_48 : decode cL_step 48 = .ok (.idiv, 1) := by decide +kernel
theorem dL_step_49 : decode cL_step 49 = .ok (.sipush 700, 3) := by decide +kernel
theorem dL_step_52 : decode cL_step 52 = .ok (.irem, 1) := by decide +kernel
theorem dL_step_53 : decode cL_step 53 = .ok (.isub, 1) := by decide +kernel
theorem dL_step_54 : decode cL_step 54 = .ok (.istore 8, 2) := by decide +kernel
theorem dL_step_56 : decode cL_step 56 = .ok (.iload 8, 2) := by decide +kernel
theorem dL_step_58 : decode cL_step 58 = .ok (.ifCond .ge 15, 3) := by decide +kernel
theorem dL_step_61 : decode cL_step 61 = .ok (.iload 4, 2) := by decide +kernel
theorem dL_step_63 : decode cL_step 63 = .ok (.aload_n 0, 1) := by decide +kernel
theorem dL_step_64 : decode cL_step 64 = .ok (.invokevirtual 61, 3) := by decide +kernel
theorem dL_step_67 : decode cL_step 67 = .ok (.iconst 1, 1) := by decide +kernel
theorem dL_step_68 : decode cL_step 68 = .ok (.iadd, 1) := by decide +kernel
theorem dL_step_69 : decode cL_step 69 = .ok (.irem, 1) := by decide +kernel
theorem dL_step_70 : decode cL_step 70 = .ok (.goto 5, 3) := by decide +kernel
theorem dL_step_73 : decode cL_step 73 = .ok (.iload 8, 2) := by decide +kernel
theorem dL_step_75 : decode cL_step 75 = .ok (.istore 8, 2) := by decide +kernel
theorem dL_step_77 : decode cL_step 77 = .ok (.iload_n 3, 1) := by decide +kernel
theorem dL_step_78 : decode cL_step 78 = .ok (.iconst 5, 1) := by decide +kernel
theorem dL_step_79 : decode cL_step 79 = .ok (.irem, 1) := by decide +kernel
theorem dL_step_80 : decode cL_step 80 = .ok (.ifCond .ne 29, 3) := by decide +kernel
theorem dL_step_83 : decode cL_step 83 = .ok (.iload_n 3, 1) := by decide +kernel
theorem dL_step_84 : decode cL_step 84 = .ok (.iconst 5, 1) := by decide +kernel
theorem dL_step_85 : decode cL_step 85 = .ok (.idiv, 1) := by decide +kernel
theorem dL_step_86 : decode cL_step 86 = .ok (.ldc 82, 2) := by decide +kernel
theorem dL_step_88 : decode cL_step 88 = .ok (.irem, 1) := by decide +kernel
theorem dL_step_89 : decode cL_step 89 = .ok (.iload 7, 2) := by decide +kernel
theorem dL_step_91 : decode cL_step 91 = .ok (.ifCond .eq 7, 3) := by decide +kernel
theorem dL_step_94 : decode cL_step 94 = .ok (.iconst 0, 1) := by decide +kernel
theorem dL_step_95 : decode cL_step 95 = .ok (.goto 10, 3) := by decide +kernel
theorem dL_step_98 : decode cL_step 98 = .ok (.iload_n 3, 1) := by decide +kernel
theorem dL_step_99 : decode cL_step 99 = .ok (.bipush 10, 2) := by decide +kernel
theorem dL_step_101 : decode cL_step 101 = .ok (.idiv, 1) := by decide +kernel
theorem dL_step_102 : decode cL_step 102 = .ok (.ldc 82, 2) := by decide +kernel
theorem dL_step_104 : decode cL_step 104 = .ok (.irem, 1) := by decide +kernel
theorem dL_step_105 : decode cL_step 105 = .ok (.isub, 1) := by decide +kernel
theorem dL_step_106 : decode cL_step 106 = .ok (.goto 10, 3) := by decide +kernel
theorem dL_step_109 : decode cL_step 109 = .ok (.iload_n 3, 1) := by decide +kernel
theorem dL_step_110 : decode cL_step 110 = .ok (.iconst 5, 1) := by decide +kernel
theorem dL_step_111 : decode cL_step 111 = .ok (.idiv, 1) := by decide +kernel
theorem dL_step_112 : decode cL_step 112 = .ok (.sipush 300, 3) := by decide +kernel
theorem dL_step_115 : decode cL_step 115 = .ok (.irem, 1) := by decide +kernel
theorem dL_step_116 : decode cL_step 116 = .ok (.istore 9, 2) := by decide +kernel
theorem dL_step_118 : decode cL_step 118 = .ok (.iload_n 2, 1) := by decide +kernel
theorem dL_step_119 : decode cL_step 119 = .ok (.tableswitch 374 0 8 #[49, 49, 49, 131, 131, 131, 190, 225, 361], 49) := by decide +kernel
theorem dL_step_168 : decode cL_step 168 = .ok (.aload_n 0, 1) := by decide +kernel
theorem dL_step_169 : decode cL_step 169 = .ok (.aload 5, 2) := by decide +kernel
theorem dL_step_171 : decode cL_step 171 = .ok (.iload 6, 2) := by decide +kernel
theorem dL_step_173 : decode cL_step 173 = .ok (.iload 8, 2) := by decide +kernel
theorem dL_step_175 : decode cL_step 175 = .ok (.iload 9, 2) := by decide +kernel
theorem dL_step_177 : decode cL_step 177 = .ok (.invokestatic 147, 3) := by decide +kernel
theorem dL_step_180 : decode cL_step 180 = .ok (.ifCond .eq 68, 3) := by decide +kernel
theorem dL_step_183 : decode cL_step 183 = .ok (.aload_n 1, 1) := by decide +kernel
theorem dL_step_184 : decode cL_step 184 = .ok (.iload 6, 2) := by decide +kernel
theorem dL_step_186 : decode cL_step 186 = .ok (.iload 8, 2) := by decide +kernel
theorem dL_step_188 : decode cL_step 188 = .ok (.iload 9, 2) := by decide +kernel
theorem dL_step_190 : decode cL_step 190 = .ok (.invokestatic 120, 3) := by decide +kernel
theorem dL_step_193 : decode cL_step 193 = .ok (.ifCond .lt 7, 3) := by decide +kernel
theorem dL_step_196 : decode cL_step 196 = .ok (.iconst 1, 1) := by decide +kernel
theorem dL_step_197 : decode cL_step 197 = .ok (.goto 4, 3) := by decide +kernel
theorem dL_step_200 : decode cL_step 200 = .ok (.iconst 0, 1) := by decide +kernel
theorem dL_step_201 : decode cL_step 201 = .ok (.iload 8, 2) := by decide +kernel
theorem dL_step_203 : decode cL_step 203 = .ok (.aload_n 1, 1) := by decide +kernel
theorem dL_step_204 : decode cL_step 204 = .ok (.invokevirtual 61, 3) := by decide +kernel
theorem dL_step_207 : decode cL_step 207 = .ok (.sipush 3600, 3) := by decide +kernel
theorem dL_step_210 : decode cL_step 210 = .ok (.isub, 1) := by decide +kernel
theorem dL_step_211 : decode cL_step 211 = .ok (.if_icmp .lt 29, 3) := by decide +kernel
theorem dL_step_214 : decode cL_step 214 = .ok (.iload 8, 2) := by decide +kernel
theorem dL_step_216 : decode cL_step 216 = .ok (.aload_n 1, 1) := by decide +kernel
theorem dL_step_217 : decode cL_step 217 = .ok (.invokevirtual 61, 3) := by decide +kernel
theorem dL_step_220 : decode cL_step 220 = .ok (.if_icmp .gt 20, 3) := by decide +kernel
theorem dL_step_223 : decode cL_step 223 = .ok (.aload_n 0, 1) := by decide +kernel
theorem dL_step_224 : decode cL_step 224 = .ok (.iload 6, 2) := by decide +kernel
theorem dL_step_226 : decode cL_step 226 = .ok (.iload 8, 2) := by decide +kernel
theorem dL_step_228 : decode cL_step 228 = .ok (.invokestatic 117, 3) := by decide +kernel
theorem dL_step_231 : decode cL_step 231 = .ok (.iload 9, 2) := by decide +kernel
theorem dL_step_233 : decode cL_step 233 = .ok (.if_icmp .ne 7, 3) := by decide +kernel
theorem dL_step_236 : decode cL_step 236 = .ok (.iconst 1, 1) := by decide +kernel
theorem dL_step_237 : decode cL_step 237 = .ok (.goto 4, 3) := by decide +kernel
theorem dL_step_240 : decode cL_step 240 = .ok (.iconst 0, 1) := by decide +kernel
theorem dL_step_241 : decode cL_step 241 = .ok (.if_icmp .ne 7, 3) := by decide +kernel
theorem dL_step_244 : decode cL_step 244 = .ok (.iconst 1, 1) := by decide +kernel
theorem dL_step_245 : decode cL_step 245 = .ok (.goto 4, 3) := by decide +kernel
theorem dL_step_248 : decode cL_step 248 = .ok (.iconst 0, 1) := by decide +kernel
theorem dL_step_249 : decode cL_step 249 = .ok (.ireturn, 1) := by decide +kernel
theorem dL_step_250 : decode cL_step 250 = .ok (.aload_n 0, 1) := by decide +kernel
theorem dL_step_251 : decode cL_step 251 = .ok (.aload_n 1, 1) := by decide +kernel
theorem dL_step_252 : decode cL_step 252 = .ok (.iload 6, 2) := by decide +kernel
theorem dL_step_254 : decode cL_step 254 = .ok (.iload 8, 2) := by decide +kernel
theorem dL_step_256 : decode cL_step 256 = .ok (.iload 9, 2) := by decide +kernel
theorem dL_step_258 : decode cL_step 258 = .ok (.iconst 1, 1) := by decide +kernel
theorem dL_step_259 : decode cL_step 259 = .ok (.iload 4, 2) := by decide +kernel
theorem dL_step_261 : decode cL_step 261 = .ok (.bipush 9, 2) := by decide +kernel
theorem dL_step_263 : decode cL_step 263 = .ok (.idiv, 1) := by decide +kernel
theorem dL_step_264 : decode cL_step 264 = .ok (.iload 4, 2) := by decide +kernel
theorem dL_step_266 : decode cL_step 266 = .ok (.iconst 2, 1) := by decide +kernel
theorem dL_step_267 : decode cL_step 267 = .ok (.irem, 1) := by decide +kernel
theorem dL_step_268 : decode cL_step 268 = .ok (.ifCond .ne 8, 3) := by decide +kernel
theorem dL_step_271 : decode cL_step 271 = .ok (.bipush 100, 2) := by decide +kernel
theorem dL_step_273 : decode cL_step 273 = .ok (.goto 6, 3) := by decide +kernel
theorem dL_step_276 : decode cL_step 276 = .ok (.sipush 900, 3) := by decide +kernel
theorem dL_step_279 : decode cL_step 279 = .ok (.irem, 1) := by decide +kernel
theorem dL_step_280 : decode cL_step 280 = .ok (.iadd, 1) := by decide +kernel
theorem dL_step_281 : decode cL_step 281 = .ok (.iload_n 3, 1) := by decide +kernel
theorem dL_step_282 : decode cL_step 282 = .ok (.bipush 7, 2) := by decide +kernel
theorem dL_step_284 : decode cL_step 284 = .ok (.idiv, 1) := by decide +kernel
theorem dL_step_285 : decode cL_step 285 = .ok (.sipush 2001, 3) := by decide +kernel
theorem dL_step_288 : decode cL_step 288 = .ok (.irem, 1) := by decide +kernel
theorem dL_step_289 : decode cL_step 289 = .ok (.sipush 1000, 3) := by decide +kernel
theorem dL_step_292 : decode cL_step 292 = .ok (.isub, 1) := by decide +kernel
theorem dL_step_293 : decode cL_step 293 = .ok (.iconst 1, 1) := by decide +kernel
theorem dL_step_294 : decode cL_step 294 = .ok (.iload 4, 2) := by decide +kernel
theorem dL_step_296 : decode cL_step 296 = .ok (.bipush 11, 2) := by decide +kernel
theorem dL_step_298 : decode cL_step 298 = .ok (.idiv, 1) := by decide +kernel
theorem dL_step_299 : decode cL_step 299 = .ok (.bipush 20, 2) := by decide +kernel
theorem dL_step_301 : decode cL_step 301 = .ok (.irem, 1) := by decide +kernel
theorem dL_step_302 : decode cL_step 302 = .ok (.iadd, 1) := by decide +kernel
theorem dL_step_303 : decode cL_step 303 = .ok (.iload 7, 2) := by decide +kernel
theorem dL_step_305 : decode cL_step 305 = .ok (.invokestatic 151, 3) := by decide +kernel
theorem dL_step_308 : decode cL_step 308 = .ok (.ireturn, 1) := by decide +kernel
theorem dL_step_309 : decode cL_step 309 = .ok (.aload_n 0, 1) := by decide +kernel
theorem dL_step_310 : decode cL_step 310 = .ok (.iload 6, 2) := by decide +kernel
theorem dL_step_312 : decode cL_step 312 = .ok (.iload 8, 2) := by decide +kernel
theorem dL_step_314 : decode cL_step 314 = .ok (.iload 9, 2) := by decide +kernel
theorem dL_step_316 : decode cL_step 316 = .ok (.invokestatic 155, 3) := by decide +kernel
theorem dL_step_319 : decode cL_step 319 = .ok (.ifCond .eq 23, 3) := by decide +kernel
theorem dL_step_322 : decode cL_step 322 = .ok (.aload_n 1, 1) := by decide +kernel
theorem dL_step_323 : decode cL_step 323 = .ok (.iload 6, 2) := by decide +kernel
theorem dL_step_325 : decode cL_step 325 = .ok (.invokestatic 123, 3) := by decide +kernel
theorem dL_step_328 : decode cL_step 328 = .ok (.aload_n 0, 1) := by decide +kernel
theorem dL_step_329 : decode cL_step 329 = .ok (.iload 6, 2) := by decide +kernel
theorem dL_step_331 : decode cL_step 331 = .ok (.invokestatic 123, 3) := by decide +kernel
theorem dL_step_334 : decode cL_step 334 = .ok (.lcmp, 1) := by decide +kernel
theorem dL_step_335 : decode cL_step 335 = .ok (.ifCond .ne 7, 3) := by decide +kernel
theorem dL_step_338 : decode cL_step 338 = .ok (.iconst 1, 1) := by decide +kernel
theorem dL_step_339 : decode cL_step 339 = .ok (.goto 4, 3) := by decide +kernel
theorem dL_step_342 : decode cL_step 342 = .ok (.iconst 0, 1) := by decide +kernel
theorem dL_step_343 : decode cL_step 343 = .ok (.ireturn, 1) := by decide +kernel
theorem dL_step_344 : decode cL_step 344 = .ok (.aload_n 0, 1) := by decide +kernel
theorem dL_step_345 : decode cL_step 345 = .ok (.iload 6, 2) := by decide +kernel
theorem dL_step_347 : decode cL_step 347 = .ok (.iconst 0, 1) := by decide +kernel
theorem dL_step_348 : decode cL_step 348 = .ok (.invokevirtual 36, 3) := by decide +kernel
theorem dL_step_351 : decode cL_step 351 = .ok (.istore 10, 2) := by decide +kernel
theorem dL_step_353 : decode cL_step 353 = .ok (.iload 10, 2) := by decide +kernel
theorem dL_step_355 : decode cL_step 355 = .ok (.ifCond .ne 7, 3) := by decide +kernel
theorem dL_step_358 : decode cL_step 358 = .ok (.iconst 0, 1) := by decide +kernel
theorem dL_step_359 : decode cL_step 359 = .ok (.goto 30, 3) := by decide +kernel
theorem dL_step_362 : decode cL_step 362 = .ok (.aload_n 0, 1) := by decide +kernel
theorem dL_step_363 : decode cL_step 363 = .ok (.iload 6, 2) := by decide +kernel
theorem dL_step_365 : decode cL_step 365 = .ok (.iconst 0, 1) := by decide +kernel
theorem dL_step_366 : decode cL_step 366 = .ok (.iload 10, 2) := by decide +kernel
theorem dL_step_368 : decode cL_step 368 = .ok (.iconst 1, 1) := by decide +kernel
theorem dL_step_369 : decode cL_step 369 = .ok (.isub, 1) := by decide +kernel
theorem dL_step_370 : decode cL_step 370 = .ok (.iload 4, 2) := by decide +kernel
theorem dL_step_372 : decode cL_step 372 = .ok (.iload 10, 2) := by decide +kernel
theorem dL_step_374 : decode cL_step 374 = .ok (.iconst 5, 1) := by decide +kernel
theorem dL_step_375 : decode cL_step 375 = .ok (.if_icmp .ge 8, 3) := by decide +kernel
theorem dL_step_378 : decode cL_step 378 = .ok (.iload 10, 2) := by decide +kernel
theorem dL_step_380 : decode cL_step 380 = .ok (.goto 4, 3) := by decide +kernel
theorem dL_step_383 : decode cL_step 383 = .ok (.iconst 5, 1) := by decide +kernel
theorem dL_step_384 : decode cL_step 384 = .ok (.irem, 1) := by decide +kernel
theorem dL_step_385 : decode cL_step 385 = .ok (.isub, 1) := by decide +kernel
theorem dL_step_386 : decode cL_step 386 = .ok (.invokevirtual 39, 3) := by decide +kernel
theorem dL_step_389 : decode cL_step 389 = .ok (.istore 11, 2) := by decide +kernel
theorem dL_step_391 : decode cL_step 391 = .ok (.iload 10, 2) := by decide +kernel
theorem dL_step_393 : decode cL_step 393 = .ok (.ifCond .eq 16, 3) := by decide +kernel
theorem dL_step_396 : decode cL_step 396 = .ok (.iload 11, 2) := by decide +kernel
theorem dL_step_398 : decode cL_step 398 = .ok (.aload_n 0, 1) := by decide +kernel
theorem dL_step_399 : decode cL_step 399 = .ok (.invokevirtual 61, 3) := by decide +kernel
theorem dL_step_402 : decode cL_step 402 = .ok (.sipush 3600, 3) := by decide +kernel
theorem dL_step_405 : decode cL_step 405 = .ok (.isub, 1) := by decide +kernel
theorem dL_step_406 : decode cL_step 406 = .ok (.if_icmp .ge 5, 3) := by decide +kernel
theorem dL_step_409 : decode cL_step 409 = .ok (.iconst 1, 1) := by decide +kernel
theorem dL_step_410 : decode cL_step 410 = .ok (.ireturn, 1) := by decide +kernel
theorem dL_step_411 : decode cL_step 411 = .ok (.aload_n 0, 1) := by decide +kernel
theorem dL_step_412 : decode cL_step 412 = .ok (.iload 6, 2) := by decide +kernel
theorem dL_step_414 : decode cL_step 414 = .ok (.iload 11, 2) := by decide +kernel
theorem dL_step_416 : decode cL_step 416 = .ok (.invokevirtual 27, 3) := by decide +kernel
theorem dL_step_419 : decode cL_step 419 = .ok (.istore 12, 2) := by decide +kernel
theorem dL_step_421 : decode cL_step 421 = .ok (.aload_n 0, 1) := by decide +kernel
theorem dL_step_422 : decode cL_step 422 = .ok (.iload 6, 2) := by decide +kernel
theorem dL_step_424 : decode cL_step 424 = .ok (.iload 11, 2) := by decide +kernel
theorem dL_step_426 : decode cL_step 426 = .ok (.invokevirtual 127, 3) := by decide +kernel
theorem dL_step_429 : decode cL_step 429 = .ok (.iload 12, 2) := by decide +kernel
theorem dL_step_431 : decode cL_step 431 = .ok (.if_icmp .ne 47, 3) := by decide +kernel
theorem dL_step_434 : decode cL_step 434 = .ok (.aload_n 1, 1) := by decide +kernel
theorem dL_step_435 : decode cL_step 435 = .ok (.iload 6, 2) := by decide +kernel
theorem dL_step_437 : decode cL_step 437 = .ok (.iload 11, 2) := by decide +kernel
theorem dL_step_439 : decode cL_step 439 = .ok (.invokevirtual 127, 3) := by decide +kernel
theorem dL_step_442 : decode cL_step 442 = .ok (.iload 12, 2) := by decide +kernel
theorem dL_step_444 : decode cL_step 444 = .ok (.if_icmp .ne 34, 3) := by decide +kernel
theorem dL_step_447 : decode cL_step 447 = .ok (.aload_n 0, 1) := by decide +kernel
theorem dL_step_448 : decode cL_step 448 = .ok (.iload 6, 2) := by decide +kernel
theorem dL_step_450 : decode cL_step 450 = .ok (.iload 11, 2) := by decide +kernel
theorem dL_step_452 : decode cL_step 452 = .ok (.invokestatic 117, 3) := by decide +kernel
theorem dL_step_455 : decode cL_step 455 = .ok (.ldc 31, 2) := by decide +kernel
theorem dL_step_457 : decode cL_step 457 = .ok (.if_icmp .ne 21, 3) := by decide +kernel
theorem dL_step_460 : decode cL_step 460 = .ok (.aload_n 0, 1) := by decide +kernel
theorem dL_step_461 : decode cL_step 461 = .ok (.iload 6, 2) := by decide +kernel
theorem dL_step_463 : decode cL_step 463 = .ok (.iconst 0, 1) := by decide +kernel
theorem dL_step_464 : decode cL_step 464 = .ok (.invokevirtual 36, 3) := by decide +kernel
theorem dL_step_467 : decode cL_step 467 = .ok (.iload 10, 2) := by decide +kernel
theorem dL_step_469 : decode cL_step 469 = .ok (.iconst 1, 1) := by decide +kernel
theorem dL_step_470 : decode cL_step 470 = .ok (.isub, 1) := by decide +kernel
theorem dL_step_471 : decode cL_step 471 = .ok (.if_icmp .ne 7, 3) := by decide +kernel
theorem dL_step_474 : decode cL_step 474 = .ok (.iconst 1, 1) := by decide +kernel
theorem dL_step_475 : decode cL_step 475 = .ok (.goto 4, 3) := by decide +kernel
theorem dL_step_478 : decode cL_step 478 = .ok (.iconst 0, 1) := by decide +kernel
theorem dL_step_479 : decode cL_step 479 = .ok (.ireturn, 1) := by decide +kernel
theorem dL_step_480 : decode cL_step 480 = .ok (.aload_n 0, 1) := by decide +kernel
theorem dL_step_481 : decode cL_step 481 = .ok (.aload_n 1, 1) := by decide +kernel
theorem dL_step_482 : decode cL_step 482 = .ok (.aload 5, 2) := by decide +kernel
theorem dL_step_484 : decode cL_step 484 = .ok (.iload 4, 2) := by decide +kernel
theorem dL_step_486 : decode cL_step 486 = .ok (.iconst 4, 1) := by decide +kernel
theorem dL_step_487 : decode cL_step 487 = .ok (.irem, 1) := by decide +kernel
theorem dL_step_488 : decode cL_step 488 = .ok (.iload_n 3, 1) := by decide +kernel
theorem dL_step_489 : decode cL_step 489 = .ok (.invokestatic 159, 3) := by decide +kernel
theorem dL_step_492 : decode cL_step 492 = .ok (.ireturn, 1) := by decide +kernel
theorem dL_step_493 : decode cL_step 493 = .ok (.aload_n 0, 1) := by decide +kernel
theorem dL_step_494 : decode cL_step 494 = .ok (.aload_n 1, 1) := by decide +kernel
theorem dL_step_495 : decode cL_step 495 = .ok (.aload 5, 2) := by decide +kernel
theorem dL_step_497 : decode cL_step 497 = .ok (.iconst 1, 1) := by decide +kernel
theorem dL_step_498 : decode cL_step 498 = .ok (.iload 4, 2) := by decide +kernel
theorem dL_step_500 : decode cL_step 500 = .ok (.iconst 5, 1) := by decide +kernel
theorem dL_step_501 : decode cL_step 501 = .ok (.irem, 1) := by decide +kernel
theorem dL_step_502 : decode cL_step 502 = .ok (.ifCond .ne 10, 3) := by decide +kernel
theorem dL_step_505 : decode cL_step 505 = .ok (.iload_n 3, 1) := by decide +kernel
theorem dL_step_506 : decode cL_step 506 = .ok (.ldc 163, 2) := by decide +kernel
theorem dL_step_508 : decode cL_step 508 = .ok (.irem, 1) := by decide +kernel
theorem dL_step_509 : decode cL_step 509 = .ok (.goto 8, 3) := by decide +kernel
theorem dL_step_512 : decode cL_step 512 = .ok (.iload_n 3, 1) := by decide +kernel
theorem dL_step_513 : decode cL_step 513 = .ok (.sipush 3000, 3) := by decide +kernel
theorem dL_step_516 : decode cL_step 516 = .ok (.irem, 1) := by decide +kernel
theorem dL_step_517 : decode cL_step 517 = .ok (.iadd, 1) := by decide +kernel
theorem dL_step_518 : decode cL_step 518 = .ok (.invokestatic 164, 3) := by decide +kernel
theorem dL_step_521 : decode cL_step 521 = .ok (.ireturn, 1) := by decide +kernel
set_option maxRecDepth 400000 in
theorem ggL_store_X5_init : GoodIn wsL_store wsX5_init := goodIn_r _ [12, 13, 14, 15, 16, 17, 4, 18, 19, 20, 21, 22, 23, 24, 25, 26, 27, 28, 29, 30, 31, 32, 33, 34, 35, 36, 520, 521, 522, 523, 524, 525, 526, 527, 528, 529, 530, 531, 532, 533, 534, 535, 536, 537, 538, 539, 540] rfl (by decide +kernel)
set_option maxRecDepth 20000 in
theorem gL_store_X5_init : GoodIn wsL_store (wsX5_init) := ggL_store_X5_init
set_option maxRecDepth 400000 in
theorem ggL_store_X5_addSeries : GoodIn wsL_store wsX5_addSeries := goodIn_ca (goodIn_ca (goodIn_r _ [40, 41, 42, 43, 17, 16, 44, 45, 46, 47, 3, 48, 49, 50, 51, 52, 53, 54, 14, 15, 55, 56, 57, 58, 59, 60, 61, 62, 63, 64, 65, 66, 67, 68, 69, 4, 70, 71, 72, 73, 74, 75, 76, 77, 78, 520, 521, 522, 523, 524, 525, 526, 541, 542, 543, 544, 545, 546, 547, 548, 549, 550, 551] rfl (by decide +kernel)) (goodIn_sub (fun _ h => List.mem_cons_of_mem _ (List.mem_append_left _ (List.mem_append_left _ (List.mem_append_right _ h)))) (by decide +kernel))) (goodIn_sub (fun _ h => List.mem_cons_of_mem _ (List.mem_append_left _ (List.mem_append_right _ h))) (by decide +kernel))
set_option maxRecDepth 20000 in
theorem gL_store_X5_addSeries : GoodIn wsL_store (wsV RL 171 RX5 yX5_addSeries wsX5_addSeries) := goodIn_app (goodIn_of _ (by decide +kernel)) ggL_store_X5_addSeries
set_option maxRecDepth 400000 in
theorem ggL_store_L_draw : GoodIn wsL_store wsL_draw := goodIn_r _ [82, 83, 84, 85] rfl (by decide +kernel)
set_option maxRecDepth 20000 in
theorem gL_store_L_draw : GoodIn wsL_store (va_wsS RL 175 yL_draw wsL_draw) := goodIn_app (goodIn_of _ (by decide +kernel)) ggL_store_L_draw
set_option maxRecDepth 400000 in
theorem ggL_store_L_goesOn : GoodIn wsL_store wsL_goesOn := goodIn_ca (goodIn_ca (goodIn_r _ [88, 89, 90, 81, 91, 92, 93, 94, 3, 95, 96, 97, 98, 99, 100, 101, 43, 17, 46, 47, 48, 49, 50, 102, 103, 104, 45, 105, 58, 106, 107, 108, 109, 110, 111, 65, 63, 62, 112, 113, 114, 115, 116, 117, 118, 119, 120, 121, 122, 123, 124, 125, 126, 127, 128, 129, 130, 22, 21, 131, 132, 133, 134, 135, 136, 137, 138, 139, 140, 57, 141, 142, 143, 144, 145, 146, 70, 147, 148, 149, 150, 151, 152, 153, 154, 71, 155, 156, 157, 61, 158, 78, 159, 160, 161, 162, 163, 164, 165, 166, 167, 168, 77, 169, 170, 171, 172, 520, 521, 522, 523, 524, 525, 526, 541, 542, 543, 544, 545, 546, 547, 548, 549, 550, 551, 533, 534, 535, 536, 537, 538, 539, 540] rfl (by decide +kernel)) (goodIn_sub (fun _ h => List.mem_cons_of_mem _ (List.mem_append_right _ h)) (by decide +kernel))) (goodIn_sub (fun _ h => List.mem_cons_of_mem _ (List.mem_append_left _ (List.mem_append_right _ h))) (by decide +kernel))
set_option maxRecDepth 20000 in
theorem gL_store_L_goesOn : GoodIn wsL_store (va_wsS RL 164 yL_goesOn wsL_goesOn) := goodIn_app (goodIn_of _ (by decide +kernel)) ggL_store_L_goesOn
set_option maxRecDepth 400000 in
theorem ggL_store_L_step : GoodIn wsL_store wsL_step := goodIn_ca (goodIn_ca (goodIn_ca (goodIn_r _ [175, 176, 177, 178, 112, 113, 114, 3, 115, 116, 179, 180, 81, 181, 182, 183, 184, 185, 186, 187, 188, 189, 190, 191, 96, 97, 98, 99, 100, 101, 43, 17, 192, 193, 194, 41, 42, 195, 143, 144, 57, 145, 146, 70, 196, 197, 198, 199, 92, 93, 94, 95, 46, 47, 48, 49, 50, 102, 103, 104, 45, 105, 58, 106, 107, 108, 109, 110, 111, 65, 63, 62, 200, 201, 202, 203, 204, 205, 206, 207, 208, 209, 210, 211, 212, 213, 214, 215, 216, 217, 121, 218, 219, 220, 221, 222, 223, 224, 225, 226, 227, 228, 229, 230, 231, 232, 233, 234, 235, 236, 237, 238, 151, 152, 153, 154, 71, 142, 239, 240, 241, 242, 243, 244, 245, 246, 247, 248, 18, 249, 250, 251, 252, 253, 254, 255, 256, 257, 61, 258, 163, 168, 77, 76, 28, 29, 159, 160, 161, 162, 164, 165, 166, 167, 259, 260, 261, 262, 263, 124, 125, 126, 34, 35, 36, 14, 15, 264, 265, 266, 267, 268, 269, 270, 271, 272, 273, 274, 275, 276, 277, 278, 279, 280, 281, 282, 132, 133, 283, 284, 285, 286, 287, 288, 289, 290, 291, 292, 293, 294, 295, 296, 297, 298, 170, 171, 172, 299, 300, 301, 302, 303, 304, 305, 306, 307, 308, 309, 310, 311, 312, 313, 314, 315, 316, 317, 318, 319, 320, 321, 322, 323, 324, 325, 326, 327, 328, 329, 330, 331, 332, 333, 334, 335, 336, 337, 338, 339, 340, 341, 342, 343, 344, 345, 346, 347, 348, 349, 350, 351, 352, 353, 354, 355, 356, 357, 358, 359, 360, 361, 362, 363, 364, 365, 366, 367, 368, 369, 370, 371, 372, 373, 374, 375, 376, 377, 378, 379, 380, 381, 148, 149, 150, 382, 383, 384, 385, 89, 90, 91, 386, 387, 388, 389, 390, 391, 21, 127, 128, 129, 130, 22, 131, 134, 135, 136, 137, 138, 139, 140, 141, 147, 155, 156, 157, 158, 78, 169, 86, 87, 88, 117, 118, 119, 120, 122, 123, 520, 521, 522, 523, 524, 525, 526, 541, 542, 543, 544, 545, 546, 547, 548, 549, 550, 551, 533, 534, 535, 536, 537, 538, 539, 540] rfl (by decide +kernel)) (goodIn_sub (fun _ h => List.mem_cons_of_mem _ (List.mem_append_right _ h)) (by decide +kernel))) (goodIn_sub (fun _ h => List.mem_cons_of_mem _ (List.mem_append_left _ (List.mem_append_left _ (List.mem_append_right _ h)))) (by decide +kernel))) (goodIn_sub (fun _ h => List.mem_cons_of_mem _ (List.mem_append_left _ (List.mem_append_right _ h))) (by decide +kernel))
set_option maxRecDepth 20000 in
theorem gL_store_L_step : GoodIn wsL_store (va_wsS RL 180 yL_step wsL_step) := goodIn_app (goodIn_of _ (by decide +kernel)) ggL_store_L_step
set_option maxRecDepth 400000 in
theorem ggL_store_L_areRows : GoodIn wsL_store wsL_areRows := goodIn_ca (goodIn_ca (goodIn_ca (goodIn_r _ [394, 92, 93, 94, 3, 95, 96, 97, 98, 99, 100, 101, 43, 17, 46, 47, 48, 49, 50, 102, 103, 104, 45, 105, 58, 106, 107, 108, 109, 110, 111, 65, 63, 62, 395, 396, 397, 398, 22, 343, 344, 345, 346, 41, 42, 190, 347, 348, 349, 350, 226, 351, 316, 352, 165, 166, 61, 167, 168, 77, 399, 400, 81, 401, 5, 112, 113, 114, 115, 116, 402, 403, 404, 405, 406, 407, 408, 308, 309, 310, 311, 312, 313, 314, 315, 317, 244, 245, 246, 247, 248, 18, 318, 319, 320, 321, 163, 159, 160, 161, 162, 164, 520, 521, 522, 523, 524, 525, 526, 541, 542, 543, 544, 545, 546, 547, 548, 549, 550, 551, 533, 534, 535, 536, 537, 538, 539, 540] rfl (by decide +kernel)) (goodIn_sub (fun _ h => List.mem_cons_of_mem _ (List.mem_append_right _ h)) (by decide +kernel))) (goodIn_sub (fun _ h => List.mem_cons_of_mem _ (List.mem_append_left _ (List.mem_append_right _ h))) (by decide +kernel))) (goodIn_sub (fun _ h => List.mem_cons_of_mem _ (List.mem_append_left _ (List.mem_append_left _ (List.mem_append_right _ h)))) (by decide +kernel))
set_option maxRecDepth 20000 in
theorem gL_store_L_areRows : GoodIn wsL_store (va_wsS RL 184 yL_areRows wsL_areRows) := goodIn_app (goodIn_of _ (by decide +kernel)) ggL_store_L_areRows
set_option maxRecDepth 400000 in
theorem ggL_store_L_tale : GoodIn wsL_store wsL_tale := goodIn_ca (goodIn_ca (goodIn_ca (goodIn_r _ [341, 342, 92, 93, 94, 3, 95, 96, 97, 98, 99, 100, 101, 43, 17, 46, 47, 48, 49, 50, 102, 103, 104, 45, 105, 58, 106, 107, 108, 109, 110, 111, 65, 63, 62, 343, 344, 345, 346, 41, 42, 190, 347, 348, 349, 350, 226, 351, 316, 352, 165, 166, 61, 167, 168, 77, 186, 187, 188, 189, 191, 192, 193, 194, 195, 143, 144, 57, 145, 146, 70, 196, 197, 198, 199, 353, 354, 355, 356, 357, 304, 305, 306, 307, 308, 309, 310, 311, 312, 313, 314, 315, 317, 244, 245, 246, 247, 248, 18, 318, 319, 320, 321, 163, 159, 160, 161, 162, 164, 358, 359, 360, 361, 362, 363, 364, 365, 366, 367, 368, 369, 370, 371, 372, 520, 521, 522, 523, 524, 525, 526, 541, 542, 543, 544, 545, 546, 547, 548, 549, 550, 551, 533, 534, 535, 536, 537, 538, 539, 540] rfl (by decide +kernel)) (goodIn_sub (fun _ h => List.mem_cons_of_mem _ (List.mem_append_right _ h)) (by decide +kernel))) (goodIn_sub (fun _ h => List.mem_cons_of_mem _ (List.mem_append_left _ (List.mem_append_right _ h))) (by decide +kernel))) (goodIn_sub (fun _ h => List.mem_cons_of_mem _ (List.mem_append_left _ (List.mem_append_left _ (List.mem_append_right _ h)))) (by decide +kernel))
set_option maxRecDepth 20000 in
theorem gL_store_L_tale : GoodIn wsL_store (va_wsS RL 123 yL_tale wsL_tale) := goodIn_app (goodIn_of _ (by decide +kernel)) ggL_store_L_tale
set_option maxRecDepth 400000 in
theorem ggL_store_L_areWindows : GoodIn wsL_store wsL_areWindows := goodIn_ca (goodIn_ca (goodIn_ca (goodIn_r _ [411, 412, 413, 414, 415, 112, 113, 114, 3, 115, 116, 402, 403, 81, 404, 399, 400, 401, 5, 416, 417, 418, 419, 26, 420, 421, 422, 49, 50, 423, 424, 425, 25, 426, 427, 428, 429, 430, 431, 432, 433, 434, 435, 436, 437, 438, 439, 440, 441, 442, 443, 444, 445, 446, 447, 448, 22, 449, 450, 451, 452, 453, 454, 455, 456, 457, 458, 459, 30, 357, 96, 97, 98, 99, 100, 101, 43, 17, 460, 461, 462, 463, 41, 42, 464, 265, 266, 29, 267, 268, 269, 270, 465, 466, 467, 45, 468, 62, 469, 470, 63, 471, 65, 472, 473, 474, 289, 290, 291, 61, 292, 168, 163, 159, 160, 161, 162, 164, 165, 166, 167, 77, 293, 294, 295, 296, 287, 288, 279, 280, 124, 125, 126, 281, 282, 132, 133, 283, 284, 285, 286, 475, 476, 477, 478, 190, 479, 272, 273, 57, 274, 146, 70, 71, 142, 143, 144, 145, 275, 276, 277, 278, 480, 481, 482, 483, 484, 485, 486, 487, 216, 488, 489, 490, 491, 492, 493, 520, 521, 522, 523, 524, 525, 526, 527, 528, 529, 530, 531, 532, 533, 534, 535, 536, 537, 538, 539, 540, 541, 542, 543, 544, 545, 549, 550, 551, 546, 547, 548] rfl (by decide +kernel)) (goodIn_sub (fun _ h => List.mem_cons_of_mem _ (List.mem_append_left _ (List.mem_append_right _ h))) (by decide +kernel))) (goodIn_sub (fun _ h => List.mem_cons_of_mem _ (List.mem_append_right _ h)) (by decide +kernel))) (goodIn_sub (fun _ h => List.mem_cons_of_mem _ (List.mem_append_left _ (List.mem_append_left _ (List.mem_append_right _ h)))) (by decide +kernel))
set_option maxRecDepth 20000 in
theorem gL_store_L_areWindows : GoodIn wsL_store (va_wsS RL 188 yL_areWindows wsL_areWindows) := goodIn_app (goodIn_of _ (by decide +kernel)) ggL_store_L_areWindows
set_option maxRecDepth 400000 in
theorem ggL_store_L_areGaps : GoodIn wsL_store wsL_areGaps := goodIn_ca (goodIn_ca (goodIn_ca (goodIn_r _ [496, 177, 399, 400, 81, 401, 5, 112, 113, 114, 3, 115, 116, 402, 403, 404, 405, 406, 407, 408, 308, 309, 310, 311, 312, 313, 314, 315, 49, 50, 96, 97, 98, 99, 100, 101, 43, 17, 46, 47, 48, 316, 109, 110, 45, 111, 65, 63, 62, 317, 244, 245, 246, 247, 248, 18, 318, 319, 320, 61, 321, 163, 159, 160, 161, 162, 164, 165, 166, 167, 168, 77, 92, 93, 94, 95, 102, 103, 104, 105, 58, 106, 107, 108, 343, 344, 345, 346, 41, 42, 190, 347, 348, 349, 350, 226, 351, 352, 497, 498, 499, 500, 22, 131, 132, 125, 133, 420, 421, 422, 501, 502, 503, 504, 185, 505, 506, 507, 508, 372, 509, 510, 511, 368, 369, 370, 371, 304, 305, 306, 307, 520, 521, 522, 523, 524, 525, 526, 541, 542, 543, 544, 545, 533, 534, 535, 536, 537, 538, 539, 540, 549, 550, 551, 546, 547, 548] rfl (by decide +kernel)) (goodIn_sub (fun _ h => List.mem_cons_of_mem _ (List.mem_append_left _ (List.mem_append_right _ h))) (by decide +kernel))) (goodIn_sub (fun _ h => List.mem_cons_of_mem _ (List.mem_append_right _ h)) (by decide +kernel))) (goodIn_sub (fun _ h => List.mem_cons_of_mem _ (List.mem_append_left _ (List.mem_append_left _ (List.mem_append_right _ h)))) (by decide +kernel))
set_option maxRecDepth 20000 in
theorem gL_store_L_areGaps : GoodIn wsL_store (va_wsS RL 191 yL_areGaps wsL_areGaps) := goodIn_app (goodIn_of _ (by decide +kernel)) ggL_store_L_areGaps
set_option maxRecDepth 400000 in
theorem ggL_store_X5_rows : GoodIn wsL_store wsX5_rows := goodIn_ca (goodIn_ca (goodIn_r _ [95, 96, 97, 98, 3, 99, 100, 101, 43, 17, 46, 47, 48, 49, 50, 102, 103, 104, 45, 105, 58, 106, 107, 108, 109, 110, 111, 65, 63, 62, 520, 521, 522, 523, 524, 525, 526, 541, 542, 543, 544, 545, 546, 547, 548, 549, 550, 551] rfl (by decide +kernel)) (goodIn_sub (fun _ h => List.mem_cons_of_mem _ (List.mem_append_right _ h)) (by decide +kernel))) (goodIn_sub (fun _ h => List.mem_cons_of_mem _ (List.mem_append_left _ (List.mem_append_right _ h))) (by decide +kernel))
set_option maxRecDepth 20000 in
theorem gL_store_X5_rows : GoodIn wsL_store (wsV RL 36 RX5 yX5_rows wsX5_rows) := goodIn_app (goodIn_of _ (by decide +kernel)) ggL_store_X5_rows
set_option maxRecDepth 400000 in
theorem ggL_store_X5_timeOf : GoodIn wsL_store wsX5_timeOf := goodIn_ca (goodIn_ca (goodIn_ca (goodIn_r _ [346, 41, 42, 190, 347, 96, 97, 98, 3, 99, 100, 101, 43, 17, 46, 47, 48, 49, 50, 348, 349, 350, 226, 351, 316, 109, 110, 45, 111, 65, 63, 62, 352, 165, 166, 61, 167, 168, 77, 541, 542, 543, 544, 545, 533, 534, 535, 536, 537, 538, 539, 540, 520, 521, 522, 523, 524, 525, 526, 546, 547, 548, 549, 550, 551] rfl (by decide +kernel)) (goodIn_sub (fun _ h => List.mem_cons_of_mem _ (List.mem_append_left _ (List.mem_append_left _ (List.mem_append_right _ h)))) (by decide +kernel))) (goodIn_sub (fun _ h => List.mem_cons_of_mem _ (List.mem_append_right _ h)) (by decide +kernel))) (goodIn_sub (fun _ h => List.mem_cons_of_mem _ (List.mem_append_left _ (List.mem_append_right _ h))) (by decide +kernel))
set_option maxRecDepth 20000 in
theorem gL_store_X5_timeOf : GoodIn wsL_store (wsV RL 39 RX5 yX5_timeOf wsX5_timeOf) := goodIn_app (goodIn_of _ (by decide +kernel)) ggL_store_X5_timeOf
set_option maxRecDepth 400000 in
theorem ggL_store_L_isRollup : GoodIn wsL_store wsL_isRollup := goodIn_ca (goodIn_ca (goodIn_ca (goodIn_r _ [514, 176, 515, 358, 359, 360, 3, 361, 362, 304, 305, 306, 307, 41, 42, 308, 309, 310, 311, 312, 313, 314, 315, 49, 50, 96, 97, 98, 99, 100, 101, 43, 17, 46, 47, 48, 316, 109, 110, 45, 111, 65, 63, 62, 317, 244, 245, 246, 247, 248, 18, 318, 319, 320, 61, 321, 163, 159, 160, 161, 162, 164, 165, 166, 167, 168, 77, 353, 354, 355, 356, 357, 299, 300, 301, 302, 303, 322, 323, 324, 325, 326, 363, 364, 365, 366, 367, 368, 369, 370, 371, 372, 516, 517, 518, 519, 131, 132, 125, 133, 402, 403, 81, 404, 399, 400, 401, 5, 92, 93, 94, 95, 102, 103, 104, 105, 58, 106, 107, 108, 343, 344, 345, 346, 190, 347, 348, 349, 350, 226, 351, 352, 533, 534, 535, 536, 537, 538, 539, 540, 520, 521, 522, 523, 524, 525, 526, 541, 542, 543, 544, 545, 549, 550, 551, 546, 547, 548] rfl (by decide +kernel)) (goodIn_sub (fun _ h => List.mem_cons_of_mem _ (List.mem_append_left _ (List.mem_append_left _ (List.mem_append_right _ h)))) (by decide +kernel))) (goodIn_sub (fun _ h => List.mem_cons_of_mem _ (List.mem_append_left _ (List.mem_append_right _ h))) (by decide +kernel))) (goodIn_sub (fun _ h => List.mem_cons_of_mem _ (List.mem_append_right _ h)) (by decide +kernel))
set_option maxRecDepth 20000 in
theorem gL_store_L_isRollup : GoodIn wsL_store (va_wsS RL 194 yL_isRollup wsL_isRollup) := goodIn_app (goodIn_of _ (by decide +kernel)) ggL_store_L_isRollup
theorem dL_store_0 : decode cL_store 0 = .ok (.new 18, 3) := by decide +kernel
theorem dL_store_3 : decode cL_store 3 = .ok (.dup, 1) := by decide +kernel
theorem dL_store_4 : decode cL_store 4 = .ok (.invokespecial 168, 3) := by decide +kernel
theorem dL_store_7 : decode cL_store 7 = .ok (.astore_n 2, 1) := by decide +kernel
theorem dL_store_8 : decode cL_store 8 = .ok (.new 18, 3) := by decide +kernel
theorem dL_store_11 : decode cL_store 11 = .ok (.dup, 1) := by decide +kernel
theorem dL_store_12 : decode cL_store 12 = .ok (.invokespecial 168, 3) := by decide +kernel
theorem dL_store_15 : decode cL_store 15 = .ok (.astore_n 3, 1) := by decide +kernel
theorem dL_store_16 : decode cL_store 16 = .ok (.bipush 10, 2) := by decide +kernel
theorem dL_store_18 : decode cL_store 18 = .ok (.newarray .int, 2) := by decide +kernel
theorem dL_store_20 : decode cL_store 20 = .ok (.astore 4, 2) := by decide +kernel
theorem dL_store_22 : decode cL_store 22 = .ok (.aload 4, 2) := by decide +kernel
theorem dL_store_24 : decode cL_store 24 = .ok (.iconst 0, 1) := by decide +kernel
theorem dL_store_25 : decode cL_store 25 = .ok (.iconst 0, 1) := by decide +kernel
theorem dL_store_26 : decode cL_store 26 = .ok (.iastore, 1) := by decide +kernel
theorem dL_store_27 : decode cL_store 27 = .ok (.aload 4, 2) := by decide +kernel
theorem dL_store_29 : decode cL_store 29 = .ok (.iconst 1, 1) := by decide +kernel
theorem dL_store_30 : decode cL_store 30 = .ok (.iconst 1, 1) := by decide +kernel
theorem dL_store_31 : decode cL_store 31 = .ok (.iastore, 1) := by decide +kernel
theorem dL_store_32 : decode cL_store 32 = .ok (.aload 4, 2) := by decide +kernel
theorem dL_store_34 : decode cL_store 34 = .ok (.iconst 2, 1) := by decide +kernel
theorem dL_store_35 : decode cL_store 35 = .ok (.sipush 7200, 3) := by decide +kernel
theorem dL_store_38 : decode cL_store 38 = .ok (.iastore, 1) := by decide +kernel
theorem dL_store_39 : decode cL_store 39 = .ok (.aload 4, 2) := by decide +kernel
theorem dL_store_41 : decode cL_store 41 = .ok (.iconst 3, 1) := by decide +kernel
theorem dL_store_42 : decode cL_store 42 = .ok (.ldc 10, 2) := by decide +kernel
theorem dL_store_44 : decode cL_store 44 = .ok (.iastore, 1) := by decide +kernel
theorem dL_store_45 : decode cL_store 45 = .ok (.aload 4, 2) := by decide +kernel
theorem dL_store_47 : decode cL_store 47 = .ok (.iconst 4, 1) := by decide +kernel
theorem dL_store_48 : decode cL_store 48 = .ok (.ldc 169, 2) := by decide +kernel
theorem dL_store_50 : decode cL_store 50 = .ok (.iastore, 1) := by decide +kernel
theorem dL_store_51 : decode cL_store 51 = .ok (.aload 4, 2) := by decide +kernel
theorem dL_store_53 : decode cL_store 53 = .ok (.iconst 5, 1) := by decide +kernel
theorem dL_store_54 : decode cL_store 54 = .ok (.ldc 170, 2) := by decide +kernel
theorem dL_store_56 : decode cL_store 56 = .ok (.iastore, 1) := by decide +kernel
theorem dL_store_57 : decode cL_store 57 = .ok (.aload_n 2, 1) := by decide +kernel
theorem dL_store_58 : decode cL_store 58 = .ok (.iconst 0, 1) := by decide +kernel
theorem dL_store_59 : decode cL_store 59 = .ok (.invokevirtual 171, 3) := by decide +kernel
theorem dL_store_62 : decode cL_store 62 = .ok (.ifCond .ne 48, 3) := by decide +kernel
theorem dL_store_65 : decode cL_store 65 = .ok (.aload_n 3, 1) := by decide +kernel
theorem dL_store_66 : decode cL_store 66 = .ok (.iconst 0, 1) := by decide +kernel
theorem dL_store_67 : decode cL_store 67 = .ok (.invokevirtual 171, 3) := by decide +kernel
theorem dL_store_70 : decode cL_store 70 = .ok (.ifCond .ne 40, 3) := by decide +kernel
theorem dL_store_73 : decode cL_store 73 = .ok (.aload_n 2, 1) := by decide +kernel
theorem dL_store_74 : decode cL_store 74 = .ok (.iconst 1, 1) := by decide +kernel
theorem dL_store_75 : decode cL_store 75 = .ok (.invokevirtual 171, 3) := by decide +kernel
theorem dL_store_78 : decode cL_store 78 = .ok (.iconst 1, 1) := by decide +kernel
theorem dL_store_79 : decode cL_store 79 = .ok (.if_icmp .ne 31, 3) := by decide +kernel
theorem dL_store_82 : decode cL_store 82 = .ok (.aload_n 3, 1) := by decide +kernel
theorem dL_store_83 : decode cL_store 83 = .ok (.iconst 1, 1) := by decide +kernel
theorem dL_store_84 : decode cL_store 84 = .ok (.invokevirtual 171, 3) := by decide +kernel
theorem dL_store_87 : decode cL_store 87 = .ok (.iconst 1, 1) := by decide +kernel
theorem dL_store_88 : decode cL_store 88 = .ok (.if_icmp .ne 22, 3) := by decide +kernel
theorem dL_store_91 : decode cL_store 91 = .ok (.aload_n 2, 1) := by decide +kernel
theorem dL_store_92 : decode cL_store 92 = .ok (.aload_n 3, 1) := by decide +kernel
theorem dL_store_93 : decode cL_store 93 = .ok (.aload 4, 2) := by decide +kernel
theorem dL_store_95 : decode cL_store 95 = .ok (.iconst 1, 1) := by decide +kernel
theorem dL_store_96 : decode cL_store 96 = .ok (.aload_n 0, 1) := by decide +kernel
theorem dL_store_97 : decode cL_store 97 = .ok (.iload_n 1, 1) := by decide +kernel
theorem dL_store_98 : decode cL_store 98 = .ok (.ldc 174, 2) := by decide +kernel
theorem dL_store_100 : decode cL_store 100 = .ok (.invokestatic 175, 3) := by decide +kernel
theorem dL_store_103 : decode cL_store 103 = .ok (.iadd, 1) := by decide +kernel
theorem dL_store_104 : decode cL_store 104 = .ok (.invokestatic 164, 3) := by decide +kernel
theorem dL_store_107 : decode cL_store 107 = .ok (.ifCond .ne 5, 3) := by decide +kernel
theorem dL_store_110 : decode cL_store 110 = .ok (.iconst 0, 1) := by decide +kernel
theorem dL_store_111 : decode cL_store 111 = .ok (.ireturn, 1) := by decide +kernel
theorem dL_store_112 : decode cL_store 112 = .ok (.iconst 0, 1) := by decide +kernel
theorem dL_store_113 : decode cL_store 113 = .ok (.istore 5, 2) := by decide +kernel
theorem dL_store_115 : decode cL_store 115 = .ok (.iload 5, 2) := by decide +kernel
theorem dL_store_117 : decode cL_store 117 = .ok (.bipush 36, 2) := by decide +kernel
theorem dL_store_119 : decode cL_store 119 = .ok (.if_icmp .ge 268, 3) := by decide +kernel
theorem dL_store_122 : decode cL_store 122 = .ok (.aload_n 0, 1) := by decide +kernel
theorem dL_store_123 : decode cL_store 123 = .ok (.iload_n 1, 1) := by decide +kernel
theorem dL_store_124 : decode cL_store 124 = .ok (.iconst 3, 1) := by decide +kernel
theorem dL_store_125 : decode cL_store 125 = .ok (.iload 5, 2) := by decide +kernel
theorem dL_store_127 : decode cL_store 127 = .ok (.imul, 1) := by decide +kernel
theorem dL_store_128 : decode cL_store 128 = .ok (.iadd, 1) := by decide +kernel
theorem dL_store_129 : decode cL_store 129 = .ok (.iconst 2, 1) := by decide +kernel
theorem dL_store_130 : decode cL_store 130 = .ok (.iadd, 1) := by decide +kernel
theorem dL_store_131 : decode cL_store 131 = .ok (.ldc 179, 2) := by decide +kernel
theorem dL_store_133 : decode cL_store 133 = .ok (.invokestatic 175, 3) := by decide +kernel
theorem dL_store_136 : decode cL_store 136 = .ok (.istore 6, 2) := by decide +kernel
theorem dL_store_138 : decode cL_store 138 = .ok (.aload_n 0, 1) := by decide +kernel
theorem dL_store_139 : decode cL_store 139 = .ok (.iload_n 1, 1) := by decide +kernel
theorem dL_store_140 : decode cL_store 140 = .ok (.iconst 3, 1) := by decide +kernel
theorem dL_store_141 : decode cL_store 141 = .ok (.iload 5, 2) := by decide +kernel
theorem dL_store_143 : decode cL_store 143 = .ok (.imul, 1) := by decide +kernel
theorem dL_store_144 : decode cL_store 144 = .ok (.iadd, 1) := by decide +kernel
theorem dL_store_145 : decode cL_store 145 = .ok (.iconst 3, 1) := by decide +kernel
theorem dL_store_146 : decode cL_store 146 = .ok (.iadd, 1) := by decide +kernel
theorem dL_store_147 : decode cL_store 147 = .ok (.ldc 179, 2) := by decide +kernel
theorem dL_store_149 : decode cL_store 149 = .ok (.invokestatic 175, 3) := by decide +kernel
theorem dL_store_152 : decode cL_store 152 = .ok (.istore 7, 2) := by decide +kernel
theorem dL_store_154 : decode cL_store 154 = .ok (.aload_n 2, 1) := by decide +kernel
theorem dL_store_155 : decode cL_store 155 = .ok (.aload_n 3, 1) := by decide +kernel
theorem dL_store_156 : decode cL_store 156 = .ok (.iload 5, 2) := by decide +kernel
theorem dL_store_158 : decode cL_store 158 = .ok (.iconst 4, 1) := by decide +kernel
theorem dL_store_159 : decode cL_store 159 = .ok (.if_icmp .ge 7, 3) := by decide +kernel
theorem dL_store_162 : decode cL_store 162 = .ok (.iconst 3, 1) := by decide +kernel
theorem dL_store_163 : decode cL_store 163 = .ok (.goto 17, 3) := by decide +kernel
theorem dL_store_166 : decode cL_store 166 = .ok (.aload_n 0, 1) := by decide +kernel
theorem dL_store_167 : decode cL_store 167 = .ok (.iload_n 1, 1) := by decide +kernel
theorem dL_store_168 : decode cL_store 168 = .ok (.iconst 3, 1) := by decide +kernel
theorem dL_store_169 : decode cL_store 169 = .ok (.iload 5, 2) := by decide +kernel
theorem dL_store_171 : decode cL_store 171 = .ok (.imul, 1) := by decide +kernel
theorem dL_store_172 : decode cL_store 172 = .ok (.iadd, 1) := by decide +kernel
theorem dL_store_173 : decode cL_store 173 = .ok (.iconst 1, 1) := by decide +kernel
theorem dL_store_174 : decode cL_store 174 = .ok (.iadd, 1) := by decide +kernel
theorem dL_store_175 : decode cL_store 175 = .ok (.bipush 12, 2) := by decide +kernel
theorem dL_store_177 : decode cL_store 177 = .ok (.invokestatic 175, 3) := by decide +kernel
theorem dL_store_180 : decode cL_store 180 = .ok (.iload 6, 2) := by decide +kernel
theorem dL_store_182 : decode cL_store 182 = .ok (.iload 7, 2) := by decide +kernel
theorem dL_store_184 : decode cL_store 184 = .ok (.aload 4, 2) := by decide +kernel
theorem dL_store_186 : decode cL_store 186 = .ok (.invokestatic 180, 3) := by decide +kernel
theorem dL_store_189 : decode cL_store 189 = .ok (.istore 8, 2) := by decide +kernel
theorem dL_store_191 : decode cL_store 191 = .ok (.iconst 0, 1) := by decide +kernel
theorem dL_store_192 : decode cL_store 192 = .ok (.istore 9, 2) := by decide +kernel
theorem dL_store_194 : decode cL_store 194 = .ok (.iload 9, 2) := by decide +kernel
theorem dL_store_196 : decode cL_store 196 = .ok (.iconst 2, 1) := by decide +kernel
theorem dL_store_197 : decode cL_store 197 = .ok (.if_icmp .ge 177, 3) := by decide +kernel
theorem dL_store_200 : decode cL_store 200 = .ok (.iload 8, 2) := by decide +kernel
theorem dL_store_202 : decode cL_store 202 = .ok (.ifCond .eq 172, 3) := by decide +kernel
theorem dL_store_205 : decode cL_store 205 = .ok (.aload_n 2, 1) := by decide +kernel
theorem dL_store_206 : decode cL_store 206 = .ok (.aload 4, 2) := by decide +kernel
theorem dL_store_208 : decode cL_store 208 = .ok (.iload 9, 2) := by decide +kernel
theorem dL_store_210 : decode cL_store 210 = .ok (.invokestatic 184, 3) := by decide +kernel
theorem dL_store_213 : decode cL_store 213 = .ok (.ifCond .eq 63, 3) := by decide +kernel
theorem dL_store_216 : decode cL_store 216 = .ok (.aload_n 2, 1) := by decide +kernel
theorem dL_store_217 : decode cL_store 217 = .ok (.iload 9, 2) := by decide +kernel
theorem dL_store_219 : decode cL_store 219 = .ok (.invokestatic 123, 3) := by decide +kernel
theorem dL_store_222 : decode cL_store 222 = .ok (.aload_n 3, 1) := by decide +kernel
theorem dL_store_223 : decode cL_store 223 = .ok (.iload 9, 2) := by decide +kernel
theorem dL_store_225 : decode cL_store 225 = .ok (.invokestatic 123, 3) := by decide +kernel
theorem dL_store_228 : decode cL_store 228 = .ok (.lcmp, 1) := by decide +kernel
theorem dL_store_229 : decode cL_store 229 = .ok (.ifCond .ne 47, 3) := by decide +kernel
theorem dL_store_232 : decode cL_store 232 = .ok (.aload_n 2, 1) := by decide +kernel
theorem dL_store_233 : decode cL_store 233 = .ok (.aload 4, 2) := by decide +kernel
theorem dL_store_235 : decode cL_store 235 = .ok (.iload 9, 2) := by decide +kernel
theorem dL_store_237 : decode cL_store 237 = .ok (.iload 6, 2) := by decide +kernel
theorem dL_store_239 : decode cL_store 239 = .ok (.iconst 3, 1) := by decide +kernel
theorem dL_store_240 : decode cL_store 240 = .ok (.idiv, 1) := by decide +kernel
theorem dL_store_241 : decode cL_store 241 = .ok (.iload 7, 2) := by decide +kernel
theorem dL_store_243 : decode cL_store 243 = .ok (.iconst 3, 1) := by decide +kernel
theorem dL_store_244 : decode cL_store 244 = .ok (.idiv, 1) := by decide +kernel
theorem dL_store_245 : decode cL_store 245 = .ok (.invokestatic 188, 3) := by decide +kernel
theorem dL_store_248 : decode cL_store 248 = .ok (.ifCond .eq 28, 3) := by decide +kernel
theorem dL_store_251 : decode cL_store 251 = .ok (.aload_n 2, 1) := by decide +kernel
theorem dL_store_252 : decode cL_store 252 = .ok (.aload 4, 2) := by decide +kernel
theorem dL_store_254 : decode cL_store 254 = .ok (.iload 9, 2) := by decide +kernel
theorem dL_store_256 : decode cL_store 256 = .ok (.iload 7, 2) := by decide +kernel
theorem dL_store_258 : decode cL_store 258 = .ok (.bipush 7, 2) := by decide +kernel
theorem dL_store_260 : decode cL_store 260 = .ok (.idiv, 1) := by decide +kernel
theorem dL_store_261 : decode cL_store 261 = .ok (.iload 6, 2) := by decide +kernel
theorem dL_store_263 : decode cL_store 263 = .ok (.bipush 7, 2) := by decide +kernel
theorem dL_store_265 : decode cL_store 265 = .ok (.idiv, 1) := by decide +kernel
theorem dL_store_266 : decode cL_store 266 = .ok (.invokestatic 188, 3) := by decide +kernel
theorem dL_store_269 : decode cL_store 269 = .ok (.ifCond .eq 7, 3) := by decide +kernel
theorem dL_store_272 : decode cL_store 272 = .ok (.iconst 1, 1) := by decide +kernel
theorem dL_store_273 : decode cL_store 273 = .ok (.goto 4, 3) := by decide +kernel
theorem dL_store_276 : decode cL_store 276 = .ok (.iconst 0, 1) := by decide +kernel
theorem dL_store_277 : decode cL_store 277 = .ok (.istore 8, 2) := by decide +kernel
theorem dL_store_279 : decode cL_store 279 = .ok (.iconst 1, 1) := by decide +kernel
theorem dL_store_280 : decode cL_store 280 = .ok (.istore 10, 2) := by decide +kernel
theorem dL_store_282 : decode cL_store 282 = .ok (.iload 10, 2) := by decide +kernel
theorem dL_store_284 : decode cL_store 284 = .ok (.iconst 4, 1) := by decide +kernel
theorem dL_store_285 : decode cL_store 285 = .ok (.if_icmp .ge 83, 3) := by decide +kernel
theorem dL_store_288 : decode cL_store 288 = .ok (.iload 8, 2) := by decide +kernel
theorem dL_store_290 : decode cL_store 290 = .ok (.ifCond .eq 78, 3) := by decide +kernel
theorem dL_store_293 : decode cL_store 293 = .ok (.aload_n 2, 1) := by decide +kernel
theorem dL_store_294 : decode cL_store 294 = .ok (.aload 4, 2) := by decide +kernel
theorem dL_store_296 : decode cL_store 296 = .ok (.iload 9, 2) := by decide +kernel
theorem dL_store_298 : decode cL_store 298 = .ok (.iload 10, 2) := by decide +kernel
theorem dL_store_300 : decode cL_store 300 = .ok (.iload 6, 2) := by decide +kernel
theorem dL_store_302 : decode cL_store 302 = .ok (.bipush 11, 2) := by decide +kernel
theorem dL_store_304 : decode cL_store 304 = .ok (.idiv, 1) := by decide +kernel
theorem dL_store_305 : decode cL_store 305 = .ok (.invokestatic 191, 3) := by decide +kernel
theorem dL_store_308 : decode cL_store 308 = .ok (.istore 8, 2) := by decide +kernel
theorem dL_store_310 : decode cL_store 310 = .ok (.iload 7, 2) := by decide +kernel
theorem dL_store_312 : decode cL_store 312 = .ok (.iconst 3, 1) := by decide +kernel
theorem dL_store_313 : decode cL_store 313 = .ok (.irem, 1) := by decide +kernel
theorem dL_store_314 : decode cL_store 314 = .ok (.istore 11, 2) := by decide +kernel
theorem dL_store_316 : decode cL_store 316 = .ok (.iload 11, 2) := by decide +kernel
theorem dL_store_318 : decode cL_store 318 = .ok (.aload_n 2, 1) := by decide +kernel
theorem dL_store_319 : decode cL_store 319 = .ok (.iload 9, 2) := by decide +kernel
theorem dL_store_321 : decode cL_store 321 = .ok (.iload 10, 2) := by decide +kernel
theorem dL_store_323 : decode cL_store 323 = .ok (.invokevirtual 36, 3) := by decide +kernel
theorem dL_store_326 : decode cL_store 326 = .ok (.if_icmp .ge 36, 3) := by decide +kernel
theorem dL_store_329 : decode cL_store 329 = .ok (.iload 8, 2) := by decide +kernel
theorem dL_store_331 : decode cL_store 331 = .ok (.ifCond .eq 31, 3) := by decide +kernel
theorem dL_store_334 : decode cL_store 334 = .ok (.aload_n 2, 1) := by decide +kernel
theorem dL_store_335 : decode cL_store 335 = .ok (.aload 4, 2) := by decide +kernel
theorem dL_store_337 : decode cL_store 337 = .ok (.iload 9, 2) := by decide +kernel
theorem dL_store_339 : decode cL_store 339 = .ok (.iload 10, 2) := by decide +kernel
theorem dL_store_341 : decode cL_store 341 = .ok (.aload_n 2, 1) := by decide +kernel
theorem dL_store_342 : decode cL_store 342 = .ok (.iload 9, 2) := by decide +kernel
theorem dL_store_344 : decode cL_store 344 = .ok (.iload 10, 2) := by decide +kernel
theorem dL_store_346 : decode cL_store 346 = .ok (.iload 11, 2) := by decide +kernel
theorem dL_store_348 : decode cL_store 348 = .ok (.invokevirtual 39, 3) := by decide +kernel
theorem dL_store_351 : decode cL_store 351 = .ok (.invokestatic 194, 3) := by decide +kernel
theorem dL_store_354 : decode cL_store 354 = .ok (.istore 8, 2) := by decide +kernel
theorem dL_store_356 : decode cL_store 356 = .ok (.iinc 11 3, 3) := by decide +kernel
theorem dL_store_359 : decode cL_store 359 = .ok (.goto (-43), 3) := by decide +kernel
theorem dL_store_362 : decode cL_store 362 = .ok (.iinc 10 1, 3) := by decide +kernel
theorem dL_store_365 : decode cL_store 365 = .ok (.goto (-83), 3) := by decide +kernel
theorem dL_store_368 : decode cL_store 368 = .ok (.iinc 9 1, 3) := by decide +kernel
theorem dL_store_371 : decode cL_store 371 = .ok (.goto (-177), 3) := by decide +kernel
theorem dL_store_374 : decode cL_store 374 = .ok (.iload 8, 2) := by decide +kernel
theorem dL_store_376 : decode cL_store 376 = .ok (.ifCond .ne 5, 3) := by decide +kernel
theorem dL_store_379 : decode cL_store 379 = .ok (.iconst 0, 1) := by decide +kernel
theorem dL_store_380 : decode cL_store 380 = .ok (.ireturn, 1) := by decide +kernel
theorem dL_store_381 : decode cL_store 381 = .ok (.iinc 5 1, 3) := by decide +kernel
theorem dL_store_384 : decode cL_store 384 = .ok (.goto (-269), 3) := by decide +kernel
theorem dL_store_387 : decode cL_store 387 = .ok (.iconst 1, 1) := by decide +kernel
theorem dL_store_388 : decode cL_store 388 = .ok (.ireturn, 1) := by decide +kernel
set_option maxRecDepth 400000 in
theorem ggL_law_L_store : GoodIn wsL_law wsL_store := goodIn_ca (goodIn_ca (goodIn_ca (goodIn_r _ [3, 4, 5, 6, 7, 8, 9, 10, 11, 12, 13, 14, 15, 16, 17, 18, 19, 20, 21, 22, 23, 24, 25, 26, 27, 28, 29, 30, 31, 32, 33, 34, 35, 36, 37, 38, 39, 40, 41, 42, 43, 44, 45, 46, 47, 48, 49, 50, 51, 52, 53, 54, 55, 56, 57, 58, 59, 60, 61, 62, 63, 64, 65, 66, 67, 68, 69, 70, 71, 72, 73, 74, 75, 76, 77, 78, 79, 80, 81, 82, 83, 2, 84, 85, 86, 87, 88, 89, 90, 91, 92, 93, 94, 95, 96, 97, 98, 99, 100, 101, 102, 103, 104, 105, 106, 107, 108, 109, 110, 111, 112, 113, 114, 115, 116, 117, 118, 119, 120, 121, 122, 123, 124, 125, 126, 127, 128, 129, 130, 131, 132, 133, 134, 135, 136, 137, 138, 139, 140, 141, 142, 143, 144, 145, 146, 147, 148, 149, 150, 151, 152, 153, 154, 155, 156, 157, 158, 159, 160, 161, 162, 163, 164, 165, 166, 167, 168, 169, 170, 171, 172, 173, 174, 175, 176, 177, 178, 179, 180, 181, 182, 183, 184, 185, 186, 187, 188, 189, 190, 191, 192, 193, 194, 195, 196, 197, 198, 199, 200, 201, 202, 203, 204, 205, 206, 207, 208, 209, 210, 211, 212, 213, 214, 215, 216, 217, 218, 219, 220, 221, 222, 223, 224, 225, 226, 227, 228, 229, 230, 231, 232, 233, 234, 235, 236, 237, 238, 239, 240, 241, 242, 243, 244, 245, 246, 247, 248, 249, 250, 251, 252, 253, 254, 255, 256, 257, 258, 259, 260, 261, 262, 263, 264, 265, 266, 267, 268, 269, 270, 271, 272, 273, 274, 275, 276, 277, 278, 279, 280, 281, 282, 283, 284, 285, 286, 287, 288, 289, 290, 291, 292, 293, 294, 295, 296, 297, 298, 299, 300, 301, 302, 303, 304, 305, 306, 307, 308, 309, 310, 311, 312, 313, 314, 315, 316, 317, 318, 319, 320, 321, 322, 323, 324, 325, 326, 327, 328, 329, 330, 331, 332, 333, 334, 335, 336, 337, 338, 339, 340, 341, 342, 343, 344, 345, 346, 347, 348, 349, 350, 351, 352, 353, 354, 355, 356, 357, 358, 359, 360, 361, 362, 363, 364, 365, 366, 367, 368, 369, 370, 371, 372, 373, 374, 375, 376, 377, 378, 379, 380, 381, 382, 383, 384, 385, 386, 387, 388, 389, 390, 391, 392, 393, 394, 395, 396, 397, 398, 399, 400, 401, 402, 403, 404, 405, 406, 407, 408, 409, 410, 411, 412, 413, 414, 415, 416, 417, 418, 419, 420, 421, 422, 423, 424, 425, 426, 427, 428, 429, 430, 431, 432, 433, 434, 435, 436, 437, 438, 439, 440, 441, 442, 443, 444, 445, 446, 447, 448, 449, 450, 451, 452, 453, 454, 455, 456, 457, 458, 459, 460, 461, 462, 463, 464, 465, 466, 467, 468, 469, 470, 471, 472, 473, 474, 475, 476, 477, 478, 479, 480, 481, 482, 483, 484, 485, 486, 487, 488, 489, 490, 491, 492, 493, 494, 495, 496, 497, 498, 499, 500, 501, 502, 503, 504, 505, 506, 507, 508, 509, 510, 511, 512, 513, 514, 515, 516, 517, 518, 519, 520, 521, 522, 523, 524, 525, 526, 527, 528, 529, 530, 531, 532, 533, 534, 535, 536, 537, 538, 539, 540, 541, 542, 543, 544, 545, 546, 547, 548, 549, 550, 551, 552, 553] rfl (by decide +kernel)) (goodIn_sub (fun _ h => List.mem_append_left _ (List.mem_append_left _ (List.mem_append_right _ h))) (by decide +kernel))) (goodIn_sub (fun _ h => List.mem_append_left _ (List.mem_append_right _ h)) (by decide +kernel))) (goodIn_sub (fun _ h => List.mem_append_right _ h) (by decide +kernel))
set_option maxRecDepth 20000 in
theorem gL_law_L_store : GoodIn wsL_law (va_wsS RL 197 yL_store wsL_store) := goodIn_app (goodIn_of _ (by decide +kernel)) ggL_law_L_store
theorem dL_law_0 : decode cL_law 0 = .ok (.aload_n 0, 1) := by decide +kernel
theorem dL_law_1 : decode cL_law 1 = .ok (.iconst 0, 1) := by decide +kernel
theorem dL_law_2 : decode cL_law 2 = .ok (.invokestatic 197, 3) := by decide +kernel
theorem dL_law_5 : decode cL_law 5 = .ok (.ifCond .eq 26, 3) := by decide +kernel
theorem dL_law_8 : decode cL_law 8 = .ok (.aload_n 0, 1) := by decide +kernel
theorem dL_law_9 : decode cL_law 9 = .ok (.bipush 115, 2) := by decide +kernel
theorem dL_law_11 : decode cL_law 11 = .ok (.invokestatic 197, 3) := by decide +kernel
theorem dL_law_14 : decode cL_law 14 = .ok (.ifCond .eq 17, 3) := by decide +kernel
theorem dL_law_17 : decode cL_law 17 = .ok (.aload_n 0, 1) := by decide +kernel
theorem dL_law_18 : decode cL_law 18 = .ok (.sipush 230, 3) := by decide +kernel
theorem dL_law_21 : decode cL_law 21 = .ok (.invokestatic 197, 3) := by decide +kernel
theorem dL_law_24 : decode cL_law 24 = .ok (.ifCond .eq 7, 3) := by decide +kernel
theorem dL_law_27 : decode cL_law 27 = .ok (.iconst 1, 1) := by decide +kernel
theorem dL_law_28 : decode cL_law 28 = .ok (.goto 4, 3) := by decide +kernel
theorem dL_law_31 : decode cL_law 31 = .ok (.iconst 0, 1) := by decide +kernel
theorem dL_law_32 : decode cL_law 32 = .ok (.ireturn, 1) := by decide +kernel
