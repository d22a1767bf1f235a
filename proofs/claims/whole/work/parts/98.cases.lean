/-! THE LAW: the twelve calls; written by wip/whole/gen5.py -/
abbrev b_law : ByteArray := code
theorem d_law_0 : decode code 0 = .ok (.new 8, 3) := by decide +kernel
theorem d_law_3 : decode code 3 = .ok (.dup, 1) := by decide +kernel
theorem d_law_4 : decode code 4 = .ok (.invokespecial 34, 3) := by decide +kernel
theorem d_law_7 : decode code 7 = .ok (.astore_n 1, 1) := by decide +kernel
theorem d_law_8 : decode code 8 = .ok (.new 35, 3) := by decide +kernel
theorem d_law_11 : decode code 11 = .ok (.dup, 1) := by decide +kernel
theorem d_law_12 : decode code 12 = .ok (.invokespecial 37, 3) := by decide +kernel
theorem d_law_15 : decode code 15 = .ok (.astore_n 2, 1) := by decide +kernel
theorem d_law_16 : decode code 16 = .ok (.iconst 1, 1) := by decide +kernel
theorem d_law_17 : decode code 17 = .ok (.newarray .long, 2) := by decide +kernel
theorem d_law_19 : decode code 19 = .ok (.astore_n 3, 1) := by decide +kernel
theorem d_law_20 : decode code 20 = .ok (.iconst 0, 1) := by decide +kernel
theorem d_law_21 : decode code 21 = .ok (.istore 4, 2) := by decide +kernel
theorem d_law_23 : decode code 23 = .ok (.iload 4, 2) := by decide +kernel
theorem d_law_25 : decode code 25 = .ok (.aload_n 0, 1) := by decide +kernel
theorem d_law_26 : decode code 26 = .ok (.arraylength, 1) := by decide +kernel
theorem d_law_27 : decode code 27 = .ok (.iconst 4, 1) := by decide +kernel
theorem d_law_28 : decode code 28 = .ok (.isub, 1) := by decide +kernel
theorem d_law_29 : decode code 29 = .ok (.if_icmp .gt 533, 3) := by decide +kernel
theorem d_law_32 : decode code 32 = .ok (.aload_n 0, 1) := by decide +kernel
theorem d_law_33 : decode code 33 = .ok (.iload 4, 2) := by decide +kernel
theorem d_law_35 : decode code 35 = .ok (.iaload, 1) := by decide +kernel
theorem d_law_36 : decode code 36 = .ok (.bipush 15, 2) := by decide +kernel
theorem d_law_38 : decode code 38 = .ok (.iand, 1) := by decide +kernel
theorem d_law_39 : decode code 39 = .ok (.tableswitch 517 0 11 #[61, 141, 209, 277, 333, 370, 414, 439, 452, 465, 491, 504], 61) := by decide +kernel
theorem d_law_100 : decode code 100 = .ok (.aload_n 1, 1) := by decide +kernel
theorem d_law_101 : decode code 101 = .ok (.aload_n 0, 1) := by decide +kernel
theorem d_law_102 : decode code 102 = .ok (.iload 4, 2) := by decide +kernel
theorem d_law_104 : decode code 104 = .ok (.iconst 1, 1) := by decide +kernel
theorem d_law_105 : decode code 105 = .ok (.iadd, 1) := by decide +kernel
theorem d_law_106 : decode code 106 = .ok (.iaload, 1) := by decide +kernel
theorem d_law_107 : decode code 107 = .ok (.aload_n 0, 1) := by decide +kernel
theorem d_law_108 : decode code 108 = .ok (.iload 4, 2) := by decide +kernel
theorem d_law_110 : decode code 110 = .ok (.iconst 2, 1) := by decide +kernel
theorem d_law_111 : decode code 111 = .ok (.iadd, 1) := by decide +kernel
theorem d_law_112 : decode code 112 = .ok (.iaload, 1) := by decide +kernel
theorem d_law_113 : decode code 113 = .ok (.aload_n 0, 1) := by decide +kernel
theorem d_law_114 : decode code 114 = .ok (.iload 4, 2) := by decide +kernel
theorem d_law_116 : decode code 116 = .ok (.iconst 3, 1) := by decide +kernel
theorem d_law_117 : decode code 117 = .ok (.iadd, 1) := by decide +kernel
theorem d_law_118 : decode code 118 = .ok (.iaload, 1) := by decide +kernel
theorem d_law_119 : decode code 119 = .ok (.aload_n 3, 1) := by decide +kernel
theorem d_law_120 : decode code 120 = .ok (.invokestatic 38, 3) := by decide +kernel
theorem d_law_123 : decode code 123 = .ok (.istore 5, 2) := by decide +kernel
theorem d_law_125 : decode code 125 = .ok (.aload_n 2, 1) := by decide +kernel
theorem d_law_126 : decode code 126 = .ok (.aload_n 0, 1) := by decide +kernel
theorem d_law_127 : decode code 127 = .ok (.iload 4, 2) := by decide +kernel
theorem d_law_129 : decode code 129 = .ok (.iconst 1, 1) := by decide +kernel
theorem d_law_130 : decode code 130 = .ok (.iadd, 1) := by decide +kernel
theorem d_law_131 : decode code 131 = .ok (.iaload, 1) := by decide +kernel
theorem d_law_132 : decode code 132 = .ok (.aload_n 0, 1) := by decide +kernel
theorem d_law_133 : decode code 133 = .ok (.iload 4, 2) := by decide +kernel
theorem d_law_135 : decode code 135 = .ok (.iconst 2, 1) := by decide +kernel
theorem d_law_136 : decode code 136 = .ok (.iadd, 1) := by decide +kernel
theorem d_law_137 : decode code 137 = .ok (.iaload, 1) := by decide +kernel
theorem d_law_138 : decode code 138 = .ok (.aload_n 0, 1) := by decide +kernel
theorem d_law_139 : decode code 139 = .ok (.iload 4, 2) := by decide +kernel
theorem d_law_141 : decode code 141 = .ok (.iconst 3, 1) := by decide +kernel
theorem d_law_142 : decode code 142 = .ok (.iadd, 1) := by decide +kernel
theorem d_law_143 : decode code 143 = .ok (.iaload, 1) := by decide +kernel
theorem d_law_144 : decode code 144 = .ok (.invokevirtual 43, 3) := by decide +kernel
theorem d_law_147 : decode code 147 = .ok (.istore 6, 2) := by decide +kernel
theorem d_law_149 : decode code 149 = .ok (.aload_n 2, 1) := by decide +kernel
theorem d_law_150 : decode code 150 = .ok (.invokevirtual 44, 3) := by decide +kernel
theorem d_law_153 : decode code 153 = .ok (.iload 5, 2) := by decide +kernel
theorem d_law_155 : decode code 155 = .ok (.if_icmp .eq 5, 3) := by decide +kernel
theorem d_law_158 : decode code 158 = .ok (.iconst 0, 1) := by decide +kernel
theorem d_law_159 : decode code 159 = .ok (.ireturn, 1) := by decide +kernel
theorem d_law_160 : decode code 160 = .ok (.iload 5, 2) := by decide +kernel
theorem d_law_162 : decode code 162 = .ok (.ifCond .ne 15, 3) := by decide +kernel
theorem d_law_165 : decode code 165 = .ok (.aload_n 3, 1) := by decide +kernel
theorem d_law_166 : decode code 166 = .ok (.iconst 0, 1) := by decide +kernel
theorem d_law_167 : decode code 167 = .ok (.laload, 1) := by decide +kernel
theorem d_law_168 : decode code 168 = .ok (.iload 6, 2) := by decide +kernel
theorem d_law_170 : decode code 170 = .ok (.i2l, 1) := by decide +kernel
theorem d_law_171 : decode code 171 = .ok (.lcmp, 1) := by decide +kernel
theorem d_law_172 : decode code 172 = .ok (.ifCond .eq 5, 3) := by decide +kernel
theorem d_law_175 : decode code 175 = .ok (.iconst 0, 1) := by decide +kernel
theorem d_law_176 : decode code 176 = .ok (.ireturn, 1) := by decide +kernel
theorem d_law_177 : decode code 177 = .ok (.goto 379, 3) := by decide +kernel
theorem d_law_180 : decode code 180 = .ok (.aload_n 1, 1) := by decide +kernel
theorem d_law_181 : decode code 181 = .ok (.aload_n 0, 1) := by decide +kernel
theorem d_law_182 : decode code 182 = .ok (.iload 4, 2) := by decide +kernel
theorem d_law_184 : decode code 184 = .ok (.iconst 1, 1) := by decide +kernel
theorem d_law_185 : decode code 185 = .ok (.iadd, 1) := by decide +kernel
theorem d_law_186 : decode code 186 = .ok (.iaload, 1) := by decide +kernel
theorem d_law_187 : decode code 187 = .ok (.aload_n 0, 1) := by decide +kernel
theorem d_law_188 : decode code 188 = .ok (.iload 4, 2) := by decide +kernel
theorem d_law_190 : decode code 190 = .ok (.iconst 2, 1) := by decide +kernel
theorem d_law_191 : decode code 191 = .ok (.iadd, 1) := by decide +kernel
theorem d_law_192 : decode code 192 = .ok (.iaload, 1) := by decide +kernel
theorem d_law_193 : decode code 193 = .ok (.aload_n 3, 1) := by decide +kernel
theorem d_law_194 : decode code 194 = .ok (.invokestatic 47, 3) := by decide +kernel
theorem d_law_197 : decode code 197 = .ok (.istore 5, 2) := by decide +kernel
theorem d_law_199 : decode code 199 = .ok (.aload_n 2, 1) := by decide +kernel
theorem d_law_200 : decode code 200 = .ok (.aload_n 0, 1) := by decide +kernel
theorem d_law_201 : decode code 201 = .ok (.iload 4, 2) := by decide +kernel
theorem d_law_203 : decode code 203 = .ok (.iconst 1, 1) := by decide +kernel
theorem d_law_204 : decode code 204 = .ok (.iadd, 1) := by decide +kernel
theorem d_law_205 : decode code 205 = .ok (.iaload, 1) := by decide +kernel
theorem d_law_206 : decode code 206 = .ok (.aload_n 0, 1) := by decide +kernel
theorem d_law_207 : decode code 207 = .ok (.iload 4, 2) := by decide +kernel
theorem d_law_209 : decode code 209 = .ok (.iconst 2, 1) := by decide +kernel
theorem d_law_210 : decode code 210 = .ok (.iadd, 1) := by decide +kernel
theorem d_law_211 : decode code 211 = .ok (.iaload, 1) := by decide +kernel
theorem d_law_212 : decode code 212 = .ok (.invokevirtual 50, 3) := by decide +kernel
theorem d_law_215 : decode code 215 = .ok (.istore 6, 2) := by decide +kernel
theorem d_law_217 : decode code 217 = .ok (.aload_n 2, 1) := by decide +kernel
theorem d_law_218 : decode code 218 = .ok (.invokevirtual 44, 3) := by decide +kernel
theorem d_law_221 : decode code 221 = .ok (.iload 5, 2) := by decide +kernel
theorem d_law_223 : decode code 223 = .ok (.if_icmp .eq 5, 3) := by decide +kernel
theorem d_law_226 : decode code 226 = .ok (.iconst 0, 1) := by decide +kernel
theorem d_law_227 : decode code 227 = .ok (.ireturn, 1) := by decide +kernel
theorem d_law_228 : decode code 228 = .ok (.iload 5, 2) := by decide +kernel
theorem d_law_230 : decode code 230 = .ok (.ifCond .ne 15, 3) := by decide +kernel
theorem d_law_233 : decode code 233 = .ok (.aload_n 3, 1) := by decide +kernel
theorem d_law_234 : decode code 234 = .ok (.iconst 0, 1) := by decide +kernel
theorem d_law_235 : decode code 235 = .ok (.laload, 1) := by decide +kernel
theorem d_law_236 : decode code 236 = .ok (.iload 6, 2) := by decide +kernel
theorem d_law_238 : decode code 238 = .ok (.i2l, 1) := by decide +kernel
theorem d_law_239 : decode code 239 = .ok (.lcmp, 1) := by decide +kernel
theorem d_law_240 : decode code 240 = .ok (.ifCond .eq 5, 3) := by decide +kernel
theorem d_law_243 : decode code 243 = .ok (.iconst 0, 1) := by decide +kernel
theorem d_law_244 : decode code 244 = .ok (.ireturn, 1) := by decide +kernel
theorem d_law_245 : decode code 245 = .ok (.goto 311, 3) := by decide +kernel
theorem d_law_248 : decode code 248 = .ok (.aload_n 1, 1) := by decide +kernel
theorem d_law_249 : decode code 249 = .ok (.aload_n 0, 1) := by decide +kernel
theorem d_law_250 : decode code 250 = .ok (.iload 4, 2) := by decide +kernel
theorem d_law_252 : decode code 252 = .ok (.iconst 1, 1) := by decide +kernel
theorem d_law_253 : decode code 253 = .ok (.iadd, 1) := by decide +kernel
theorem d_law_254 : decode code 254 = .ok (.iaload, 1) := by decide +kernel
theorem d_law_255 : decode code 255 = .ok (.aload_n 0, 1) := by decide +kernel
theorem d_law_256 : decode code 256 = .ok (.iload 4, 2) := by decide +kernel
theorem d_law_258 : decode code 258 = .ok (.iconst 2, 1) := by decide +kernel
theorem d_law_259 : decode code 259 = .ok (.iadd, 1) := by decide +kernel
theorem d_law_260 : decode code 260 = .ok (.iaload, 1) := by decide +kernel
theorem d_law_261 : decode code 261 = .ok (.aload_n 3, 1) := by decide +kernel
theorem d_law_262 : decode code 262 = .ok (.invokestatic 51, 3) := by decide +kernel
theorem d_law_265 : decode code 265 = .ok (.istore 5, 2) := by decide +kernel
theorem d_law_267 : decode code 267 = .ok (.aload_n 2, 1) := by decide +kernel
theorem d_law_268 : decode code 268 = .ok (.aload_n 0, 1) := by decide +kernel
theorem d_law_269 : decode code 269 = .ok (.iload 4, 2) := by decide +kernel
theorem d_law_271 : decode code 271 = .ok (.iconst 1, 1) := by decide +kernel
theorem d_law_272 : decode code 272 = .ok (.iadd, 1) := by decide +kernel
theorem d_law_273 : decode code 273 = .ok (.iaload, 1) := by decide +kernel
theorem d_law_274 : decode code 274 = .ok (.aload_n 0, 1) := by decide +kernel
theorem d_law_275 : decode code 275 = .ok (.iload 4, 2) := by decide +kernel
theorem d_law_277 : decode code 277 = .ok (.iconst 2, 1) := by decide +kernel
theorem d_law_278 : decode code 278 = .ok (.iadd, 1) := by decide +kernel
theorem d_law_279 : decode code 279 = .ok (.iaload, 1) := by decide +kernel
theorem d_law_280 : decode code 280 = .ok (.invokevirtual 53, 3) := by decide +kernel
theorem d_law_283 : decode code 283 = .ok (.istore 6, 2) := by decide +kernel
theorem d_law_285 : decode code 285 = .ok (.aload_n 2, 1) := by decide +kernel
theorem d_law_286 : decode code 286 = .ok (.invokevirtual 44, 3) := by decide +kernel
theorem d_law_289 : decode code 289 = .ok (.iload 5, 2) := by decide +kernel
theorem d_law_291 : decode code 291 = .ok (.if_icmp .eq 5, 3) := by decide +kernel
theorem d_law_294 : decode code 294 = .ok (.iconst 0, 1) := by decide +kernel
theorem d_law_295 : decode code 295 = .ok (.ireturn, 1) := by decide +kernel
theorem d_law_296 : decode code 296 = .ok (.iload 5, 2) := by decide +kernel
theorem d_law_298 : decode code 298 = .ok (.ifCond .ne 15, 3) := by decide +kernel
theorem d_law_301 : decode code 301 = .ok (.aload_n 3, 1) := by decide +kernel
theorem d_law_302 : decode code 302 = .ok (.iconst 0, 1) := by decide +kernel
theorem d_law_303 : decode code 303 = .ok (.laload, 1) := by decide +kernel
theorem d_law_304 : decode code 304 = .ok (.iload 6, 2) := by decide +kernel
theorem d_law_306 : decode code 306 = .ok (.i2l, 1) := by decide +kernel
theorem d_law_307 : decode code 307 = .ok (.lcmp, 1) := by decide +kernel
theorem d_law_308 : decode code 308 = .ok (.ifCond .eq 5, 3) := by decide +kernel
theorem d_law_311 : decode code 311 = .ok (.iconst 0, 1) := by decide +kernel
theorem d_law_312 : decode code 312 = .ok (.ireturn, 1) := by decide +kernel
theorem d_law_313 : decode code 313 = .ok (.goto 243, 3) := by decide +kernel
theorem d_law_316 : decode code 316 = .ok (.aload_n 1, 1) := by decide +kernel
theorem d_law_317 : decode code 317 = .ok (.aload_n 0, 1) := by decide +kernel
theorem d_law_318 : decode code 318 = .ok (.iload 4, 2) := by decide +kernel
theorem d_law_320 : decode code 320 = .ok (.iconst 1, 1) := by decide +kernel
theorem d_law_321 : decode code 321 = .ok (.iadd, 1) := by decide +kernel
theorem d_law_322 : decode code 322 = .ok (.iaload, 1) := by decide +kernel
theorem d_law_323 : decode code 323 = .ok (.aload_n 3, 1) := by decide +kernel
theorem d_law_324 : decode code 324 = .ok (.invokestatic 54, 3) := by decide +kernel
theorem d_law_327 : decode code 327 = .ok (.istore 5, 2) := by decide +kernel
theorem d_law_329 : decode code 329 = .ok (.aload_n 2, 1) := by decide +kernel
theorem d_law_330 : decode code 330 = .ok (.aload_n 0, 1) := by decide +kernel
theorem d_law_331 : decode code 331 = .ok (.iload 4, 2) := by decide +kernel
theorem d_law_333 : decode code 333 = .ok (.iconst 1, 1) := by decide +kernel
theorem d_law_334 : decode code 334 = .ok (.iadd, 1) := by decide +kernel
theorem d_law_335 : decode code 335 = .ok (.iaload, 1) := by decide +kernel
theorem d_law_336 : decode code 336 = .ok (.invokevirtual 57, 3) := by decide +kernel
theorem d_law_339 : decode code 339 = .ok (.istore 6, 2) := by decide +kernel
theorem d_law_341 : decode code 341 = .ok (.aload_n 2, 1) := by decide +kernel
theorem d_law_342 : decode code 342 = .ok (.invokevirtual 44, 3) := by decide +kernel
theorem d_law_345 : decode code 345 = .ok (.iload 5, 2) := by decide +kernel
theorem d_law_347 : decode code 347 = .ok (.if_icmp .eq 5, 3) := by decide +kernel
theorem d_law_350 : decode code 350 = .ok (.iconst 0, 1) := by decide +kernel
theorem d_law_351 : decode code 351 = .ok (.ireturn, 1) := by decide +kernel
theorem d_law_352 : decode code 352 = .ok (.iload 5, 2) := by decide +kernel
theorem d_law_354 : decode code 354 = .ok (.ifCond .ne 15, 3) := by decide +kernel
theorem d_law_357 : decode code 357 = .ok (.aload_n 3, 1) := by decide +kernel
theorem d_law_358 : decode code 358 = .ok (.iconst 0, 1) := by decide +kernel
theorem d_law_359 : decode code 359 = .ok (.laload, 1) := by decide +kernel
theorem d_law_360 : decode code 360 = .ok (.iload 6, 2) := by decide +kernel
theorem d_law_362 : decode code 362 = .ok (.i2l, 1) := by decide +kernel
theorem d_law_363 : decode code 363 = .ok (.lcmp, 1) := by decide +kernel
theorem d_law_364 : decode code 364 = .ok (.ifCond .eq 5, 3) := by decide +kernel
theorem d_law_367 : decode code 367 = .ok (.iconst 0, 1) := by decide +kernel
theorem d_law_368 : decode code 368 = .ok (.ireturn, 1) := by decide +kernel
theorem d_law_369 : decode code 369 = .ok (.goto 187, 3) := by decide +kernel
theorem d_law_372 : decode code 372 = .ok (.aload_n 1, 1) := by decide +kernel
theorem d_law_373 : decode code 373 = .ok (.aload_n 0, 1) := by decide +kernel
theorem d_law_374 : decode code 374 = .ok (.iload 4, 2) := by decide +kernel
theorem d_law_376 : decode code 376 = .ok (.iconst 1, 1) := by decide +kernel
theorem d_law_377 : decode code 377 = .ok (.iadd, 1) := by decide +kernel
theorem d_law_378 : decode code 378 = .ok (.iaload, 1) := by decide +kernel
theorem d_law_379 : decode code 379 = .ok (.aload_n 0, 1) := by decide +kernel
theorem d_law_380 : decode code 380 = .ok (.iload 4, 2) := by decide +kernel
theorem d_law_382 : decode code 382 = .ok (.iconst 2, 1) := by decide +kernel
theorem d_law_383 : decode code 383 = .ok (.iadd, 1) := by decide +kernel
theorem d_law_384 : decode code 384 = .ok (.iaload, 1) := by decide +kernel
theorem d_law_385 : decode code 385 = .ok (.invokevirtual 58, 3) := by decide +kernel
theorem d_law_388 : decode code 388 = .ok (.aload_n 2, 1) := by decide +kernel
theorem d_law_389 : decode code 389 = .ok (.aload_n 0, 1) := by decide +kernel
theorem d_law_390 : decode code 390 = .ok (.iload 4, 2) := by decide +kernel
theorem d_law_392 : decode code 392 = .ok (.iconst 1, 1) := by decide +kernel
theorem d_law_393 : decode code 393 = .ok (.iadd, 1) := by decide +kernel
theorem d_law_394 : decode code 394 = .ok (.iaload, 1) := by decide +kernel
theorem d_law_395 : decode code 395 = .ok (.aload_n 0, 1) := by decide +kernel
theorem d_law_396 : decode code 396 = .ok (.iload 4, 2) := by decide +kernel
theorem d_law_398 : decode code 398 = .ok (.iconst 2, 1) := by decide +kernel
theorem d_law_399 : decode code 399 = .ok (.iadd, 1) := by decide +kernel
theorem d_law_400 : decode code 400 = .ok (.iaload, 1) := by decide +kernel
theorem d_law_401 : decode code 401 = .ok (.invokevirtual 62, 3) := by decide +kernel
theorem d_law_404 : decode code 404 = .ok (.if_icmp .eq 152, 3) := by decide +kernel
theorem d_law_407 : decode code 407 = .ok (.iconst 0, 1) := by decide +kernel
theorem d_law_408 : decode code 408 = .ok (.ireturn, 1) := by decide +kernel
theorem d_law_409 : decode code 409 = .ok (.aload_n 1, 1) := by decide +kernel
theorem d_law_410 : decode code 410 = .ok (.aload_n 3, 1) := by decide +kernel
theorem d_law_411 : decode code 411 = .ok (.invokestatic 63, 3) := by decide +kernel
theorem d_law_414 : decode code 414 = .ok (.istore 5, 2) := by decide +kernel
theorem d_law_416 : decode code 416 = .ok (.aload_n 2, 1) := by decide +kernel
theorem d_law_417 : decode code 417 = .ok (.invokevirtual 66, 3) := by decide +kernel
theorem d_law_420 : decode code 420 = .ok (.istore 6, 2) := by decide +kernel
theorem d_law_422 : decode code 422 = .ok (.aload_n 2, 1) := by decide +kernel
theorem d_law_423 : decode code 423 = .ok (.invokevirtual 44, 3) := by decide +kernel
theorem d_law_426 : decode code 426 = .ok (.iload 5, 2) := by decide +kernel
theorem d_law_428 : decode code 428 = .ok (.if_icmp .eq 5, 3) := by decide +kernel
theorem d_law_431 : decode code 431 = .ok (.iconst 0, 1) := by decide +kernel
theorem d_law_432 : decode code 432 = .ok (.ireturn, 1) := by decide +kernel
theorem d_law_433 : decode code 433 = .ok (.iload 5, 2) := by decide +kernel
theorem d_law_435 : decode code 435 = .ok (.ifCond .ne 15, 3) := by decide +kernel
theorem d_law_438 : decode code 438 = .ok (.aload_n 3, 1) := by decide +kernel
theorem d_law_439 : decode code 439 = .ok (.iconst 0, 1) := by decide +kernel
theorem d_law_440 : decode code 440 = .ok (.laload, 1) := by decide +kernel
theorem d_law_441 : decode code 441 = .ok (.iload 6, 2) := by decide +kernel
theorem d_law_443 : decode code 443 = .ok (.i2l, 1) := by decide +kernel
theorem d_law_444 : decode code 444 = .ok (.lcmp, 1) := by decide +kernel
theorem d_law_445 : decode code 445 = .ok (.ifCond .eq 5, 3) := by decide +kernel
theorem d_law_448 : decode code 448 = .ok (.iconst 0, 1) := by decide +kernel
theorem d_law_449 : decode code 449 = .ok (.ireturn, 1) := by decide +kernel
theorem d_law_450 : decode code 450 = .ok (.goto 106, 3) := by decide +kernel
theorem d_law_453 : decode code 453 = .ok (.aload_n 1, 1) := by decide +kernel
theorem d_law_454 : decode code 454 = .ok (.aload_n 0, 1) := by decide +kernel
theorem d_law_455 : decode code 455 = .ok (.iload 4, 2) := by decide +kernel
theorem d_law_457 : decode code 457 = .ok (.iconst 1, 1) := by decide +kernel
theorem d_law_458 : decode code 458 = .ok (.iadd, 1) := by decide +kernel
theorem d_law_459 : decode code 459 = .ok (.iaload, 1) := by decide +kernel
theorem d_law_460 : decode code 460 = .ok (.invokevirtual 67, 3) := by decide +kernel
theorem d_law_463 : decode code 463 = .ok (.aload_n 2, 1) := by decide +kernel
theorem d_law_464 : decode code 464 = .ok (.aload_n 0, 1) := by decide +kernel
theorem d_law_465 : decode code 465 = .ok (.iload 4, 2) := by decide +kernel
theorem d_law_467 : decode code 467 = .ok (.iconst 1, 1) := by decide +kernel
theorem d_law_468 : decode code 468 = .ok (.iadd, 1) := by decide +kernel
theorem d_law_469 : decode code 469 = .ok (.iaload, 1) := by decide +kernel
theorem d_law_470 : decode code 470 = .ok (.invokevirtual 70, 3) := by decide +kernel
theorem d_law_473 : decode code 473 = .ok (.if_icmp .eq 83, 3) := by decide +kernel
theorem d_law_476 : decode code 476 = .ok (.iconst 0, 1) := by decide +kernel
theorem d_law_477 : decode code 477 = .ok (.ireturn, 1) := by decide +kernel
theorem d_law_478 : decode code 478 = .ok (.aload_n 1, 1) := by decide +kernel
theorem d_law_479 : decode code 479 = .ok (.invokevirtual 71, 3) := by decide +kernel
theorem d_law_482 : decode code 482 = .ok (.aload_n 2, 1) := by decide +kernel
theorem d_law_483 : decode code 483 = .ok (.invokevirtual 74, 3) := by decide +kernel
theorem d_law_486 : decode code 486 = .ok (.if_icmp .eq 70, 3) := by decide +kernel
theorem d_law_489 : decode code 489 = .ok (.iconst 0, 1) := by decide +kernel
theorem d_law_490 : decode code 490 = .ok (.ireturn, 1) := by decide +kernel
theorem d_law_491 : decode code 491 = .ok (.aload_n 1, 1) := by decide +kernel
theorem d_law_492 : decode code 492 = .ok (.invokevirtual 75, 3) := by decide +kernel
theorem d_law_495 : decode code 495 = .ok (.aload_n 2, 1) := by decide +kernel
theorem d_law_496 : decode code 496 = .ok (.invokevirtual 78, 3) := by decide +kernel
theorem d_law_499 : decode code 499 = .ok (.if_icmp .eq 57, 3) := by decide +kernel
theorem d_law_502 : decode code 502 = .ok (.iconst 0, 1) := by decide +kernel
theorem d_law_503 : decode code 503 = .ok (.ireturn, 1) := by decide +kernel
theorem d_law_504 : decode code 504 = .ok (.aload_n 1, 1) := by decide +kernel
theorem d_law_505 : decode code 505 = .ok (.aload_n 0, 1) := by decide +kernel
theorem d_law_506 : decode code 506 = .ok (.iload 4, 2) := by decide +kernel
theorem d_law_508 : decode code 508 = .ok (.iconst 1, 1) := by decide +kernel
theorem d_law_509 : decode code 509 = .ok (.iadd, 1) := by decide +kernel
theorem d_law_510 : decode code 510 = .ok (.iaload, 1) := by decide +kernel
theorem d_law_511 : decode code 511 = .ok (.invokevirtual 79, 3) := by decide +kernel
theorem d_law_514 : decode code 514 = .ok (.aload_n 2, 1) := by decide +kernel
theorem d_law_515 : decode code 515 = .ok (.aload_n 0, 1) := by decide +kernel
theorem d_law_516 : decode code 516 = .ok (.iload 4, 2) := by decide +kernel
theorem d_law_518 : decode code 518 = .ok (.iconst 1, 1) := by decide +kernel
theorem d_law_519 : decode code 519 = .ok (.iadd, 1) := by decide +kernel
theorem d_law_520 : decode code 520 = .ok (.iaload, 1) := by decide +kernel
theorem d_law_521 : decode code 521 = .ok (.invokevirtual 83, 3) := by decide +kernel
theorem d_law_524 : decode code 524 = .ok (.lcmp, 1) := by decide +kernel
theorem d_law_525 : decode code 525 = .ok (.ifCond .eq 31, 3) := by decide +kernel
theorem d_law_528 : decode code 528 = .ok (.iconst 0, 1) := by decide +kernel
theorem d_law_529 : decode code 529 = .ok (.ireturn, 1) := by decide +kernel
theorem d_law_530 : decode code 530 = .ok (.aload_n 1, 1) := by decide +kernel
theorem d_law_531 : decode code 531 = .ok (.invokevirtual 84, 3) := by decide +kernel
theorem d_law_534 : decode code 534 = .ok (.aload_n 2, 1) := by decide +kernel
theorem d_law_535 : decode code 535 = .ok (.invokevirtual 87, 3) := by decide +kernel
theorem d_law_538 : decode code 538 = .ok (.if_icmp .eq 18, 3) := by decide +kernel
theorem d_law_541 : decode code 541 = .ok (.iconst 0, 1) := by decide +kernel
theorem d_law_542 : decode code 542 = .ok (.ireturn, 1) := by decide +kernel
theorem d_law_543 : decode code 543 = .ok (.aload_n 1, 1) := by decide +kernel
theorem d_law_544 : decode code 544 = .ok (.invokevirtual 88, 3) := by decide +kernel
theorem d_law_547 : decode code 547 = .ok (.aload_n 2, 1) := by decide +kernel
theorem d_law_548 : decode code 548 = .ok (.invokevirtual 92, 3) := by decide +kernel
theorem d_law_551 : decode code 551 = .ok (.if_icmp .eq 5, 3) := by decide +kernel
theorem d_law_554 : decode code 554 = .ok (.iconst 0, 1) := by decide +kernel
theorem d_law_555 : decode code 555 = .ok (.ireturn, 1) := by decide +kernel
theorem d_law_556 : decode code 556 = .ok (.iinc 4 4, 3) := by decide +kernel
theorem d_law_559 : decode code 559 = .ok (.goto (-536), 3) := by decide +kernel
theorem d_law_562 : decode code 562 = .ok (.iconst 1, 1) := by decide +kernel
theorem d_law_563 : decode code 563 = .ok (.ireturn, 1) := by decide +kernel
theorem e_Law_put : y_Law_put.cls ≠ "java/lang/invoke/MethodHandle" ∧ y_Law_put.cls ≠ "java/lang/invoke/VarHandle" ∧ (parseMethodDescriptor y_Law_put.desc).map (fun d => d.parameters.length) = some 5 := by decide +kernel
theorem e_Law_remove : y_Law_remove.cls ≠ "java/lang/invoke/MethodHandle" ∧ y_Law_remove.cls ≠ "java/lang/invoke/VarHandle" ∧ (parseMethodDescriptor y_Law_remove.desc).map (fun d => d.parameters.length) = some 4 := by decide +kernel
theorem e_Law_get : y_Law_get.cls ≠ "java/lang/invoke/MethodHandle" ∧ y_Law_get.cls ≠ "java/lang/invoke/VarHandle" ∧ (parseMethodDescriptor y_Law_get.desc).map (fun d => d.parameters.length) = some 4 := by decide +kernel
theorem e_Law_from : y_Law_from.cls ≠ "java/lang/invoke/MethodHandle" ∧ y_Law_from.cls ≠ "java/lang/invoke/VarHandle" ∧ (parseMethodDescriptor y_Law_from.desc).map (fun d => d.parameters.length) = some 3 := by decide +kernel
theorem e_Law_recover : y_Law_recover.cls ≠ "java/lang/invoke/MethodHandle" ∧ y_Law_recover.cls ≠ "java/lang/invoke/VarHandle" ∧ (parseMethodDescriptor y_Law_recover.desc).map (fun d => d.parameters.length) = some 2 := by decide +kernel
theorem q_0 : (Jvm.Cond.initialized "FirmStoreLaw") ∈ tbG := tbG_in (List.mem_of_getElem? (i := 60) (by decide +kernel)) rfl
theorem q_106 : (Jvm.Cond.methodLink "FirmStoreLaw" (58 : Nat) ({ cls := "FirmStore", name := "order", desc := "(II)Z" } : Jvm.MethodName)) ∈ tbG := tbG_in (List.mem_of_getElem? (i := 166) (by decide +kernel)) rfl
theorem q_107 : (Jvm.Cond.instanceMethod ({ cls := "FirmStore", name := "order", desc := "(II)Z" } : Jvm.MethodName)) ∈ tbG := tbG_in (List.mem_of_getElem? (i := 167) (by decide +kernel)) rfl
theorem q_108 : (Jvm.Cond.selects "FirmStore" ({ cls := "FirmStore", name := "order", desc := "(II)Z" } : Jvm.MethodName) ({ cls := "FirmStore", name := "order", desc := "(II)Z" } : Jvm.MethodName)) ∈ tbG := tbG_in (List.mem_of_getElem? (i := 168) (by decide +kernel)) rfl
theorem q_109 : (Jvm.Cond.code ({ cls := "FirmStore", name := "order", desc := "(II)Z" } : Jvm.MethodName) prog_1_method_6_code (3 : Nat) (Option.some Jvm.ClassFile.FieldType.boolean)) ∈ tbG := tbG_in (List.mem_of_getElem? (i := 169) (by decide +kernel)) rfl
theorem q_114 : (Jvm.Cond.methodLink "FirmStoreLaw" (67 : Nat) ({ cls := "FirmStore", name := "size", desc := "(I)I" } : Jvm.MethodName)) ∈ tbG := tbG_in (List.mem_of_getElem? (i := 174) (by decide +kernel)) rfl
theorem q_115 : (Jvm.Cond.instanceMethod ({ cls := "FirmStore", name := "size", desc := "(I)I" } : Jvm.MethodName)) ∈ tbG := tbG_in (List.mem_of_getElem? (i := 175) (by decide +kernel)) rfl
theorem q_116 : (Jvm.Cond.selects "FirmStore" ({ cls := "FirmStore", name := "size", desc := "(I)I" } : Jvm.MethodName) ({ cls := "FirmStore", name := "size", desc := "(I)I" } : Jvm.MethodName)) ∈ tbG := tbG_in (List.mem_of_getElem? (i := 176) (by decide +kernel)) rfl
theorem q_117 : (Jvm.Cond.code ({ cls := "FirmStore", name := "size", desc := "(I)I" } : Jvm.MethodName) prog_1_method_8_code (2 : Nat) (Option.some Jvm.ClassFile.FieldType.int)) ∈ tbG := tbG_in (List.mem_of_getElem? (i := 177) (by decide +kernel)) rfl
theorem q_191 : (Jvm.Cond.methodLink "FirmStoreLaw" (71 : Nat) ({ cls := "FirmStore", name := "free", desc := "()I" } : Jvm.MethodName)) ∈ tbG := tbG_in (List.mem_of_getElem? (i := 251) (by decide +kernel)) rfl
theorem q_192 : (Jvm.Cond.instanceMethod ({ cls := "FirmStore", name := "free", desc := "()I" } : Jvm.MethodName)) ∈ tbG := tbG_in (List.mem_of_getElem? (i := 252) (by decide +kernel)) rfl
theorem q_193 : (Jvm.Cond.selects "FirmStore" ({ cls := "FirmStore", name := "free", desc := "()I" } : Jvm.MethodName) ({ cls := "FirmStore", name := "free", desc := "()I" } : Jvm.MethodName)) ∈ tbG := tbG_in (List.mem_of_getElem? (i := 253) (by decide +kernel)) rfl
theorem q_194 : (Jvm.Cond.code ({ cls := "FirmStore", name := "free", desc := "()I" } : Jvm.MethodName) prog_1_method_9_code (1 : Nat) (Option.some Jvm.ClassFile.FieldType.int)) ∈ tbG := tbG_in (List.mem_of_getElem? (i := 254) (by decide +kernel)) rfl
theorem q_219 : (Jvm.Cond.methodLink "FirmStoreLaw" (75 : Nat) ({ cls := "FirmStore", name := "height", desc := "()I" } : Jvm.MethodName)) ∈ tbG := tbG_in (List.mem_of_getElem? (i := 279) (by decide +kernel)) rfl
theorem q_220 : (Jvm.Cond.instanceMethod ({ cls := "FirmStore", name := "height", desc := "()I" } : Jvm.MethodName)) ∈ tbG := tbG_in (List.mem_of_getElem? (i := 280) (by decide +kernel)) rfl
theorem q_221 : (Jvm.Cond.selects "FirmStore" ({ cls := "FirmStore", name := "height", desc := "()I" } : Jvm.MethodName) ({ cls := "FirmStore", name := "height", desc := "()I" } : Jvm.MethodName)) ∈ tbG := tbG_in (List.mem_of_getElem? (i := 281) (by decide +kernel)) rfl
theorem q_222 : (Jvm.Cond.code ({ cls := "FirmStore", name := "height", desc := "()I" } : Jvm.MethodName) prog_1_method_10_code (1 : Nat) (Option.some Jvm.ClassFile.FieldType.int)) ∈ tbG := tbG_in (List.mem_of_getElem? (i := 282) (by decide +kernel)) rfl
theorem q_227 : (Jvm.Cond.methodLink "FirmStoreLaw" (79 : Nat) ({ cls := "FirmStore", name := "word", desc := "(I)J" } : Jvm.MethodName)) ∈ tbG := tbG_in (List.mem_of_getElem? (i := 287) (by decide +kernel)) rfl
theorem q_228 : (Jvm.Cond.instanceMethod ({ cls := "FirmStore", name := "word", desc := "(I)J" } : Jvm.MethodName)) ∈ tbG := tbG_in (List.mem_of_getElem? (i := 288) (by decide +kernel)) rfl
theorem q_229 : (Jvm.Cond.selects "FirmStore" ({ cls := "FirmStore", name := "word", desc := "(I)J" } : Jvm.MethodName) ({ cls := "FirmStore", name := "word", desc := "(I)J" } : Jvm.MethodName)) ∈ tbG := tbG_in (List.mem_of_getElem? (i := 289) (by decide +kernel)) rfl
theorem q_230 : (Jvm.Cond.code ({ cls := "FirmStore", name := "word", desc := "(I)J" } : Jvm.MethodName) prog_1_method_11_code (2 : Nat) (Option.some Jvm.ClassFile.FieldType.long)) ∈ tbG := tbG_in (List.mem_of_getElem? (i := 290) (by decide +kernel)) rfl
theorem q_232 : (Jvm.Cond.methodLink "FirmStoreLaw" (84 : Nat) ({ cls := "FirmStore", name := "stores", desc := "()I" } : Jvm.MethodName)) ∈ tbG := tbG_in (List.mem_of_getElem? (i := 292) (by decide +kernel)) rfl
theorem q_233 : (Jvm.Cond.instanceMethod ({ cls := "FirmStore", name := "stores", desc := "()I" } : Jvm.MethodName)) ∈ tbG := tbG_in (List.mem_of_getElem? (i := 293) (by decide +kernel)) rfl
theorem q_234 : (Jvm.Cond.selects "FirmStore" ({ cls := "FirmStore", name := "stores", desc := "()I" } : Jvm.MethodName) ({ cls := "FirmStore", name := "stores", desc := "()I" } : Jvm.MethodName)) ∈ tbG := tbG_in (List.mem_of_getElem? (i := 294) (by decide +kernel)) rfl
theorem q_235 : (Jvm.Cond.code ({ cls := "FirmStore", name := "stores", desc := "()I" } : Jvm.MethodName) prog_1_method_12_code (1 : Nat) (Option.some Jvm.ClassFile.FieldType.int)) ∈ tbG := tbG_in (List.mem_of_getElem? (i := 295) (by decide +kernel)) rfl
theorem q_236 : (Jvm.Cond.methodLink "FirmStoreLaw" (88 : Nat) ({ cls := "FirmStore", name := "down", desc := "()Z" } : Jvm.MethodName)) ∈ tbG := tbG_in (List.mem_of_getElem? (i := 296) (by decide +kernel)) rfl
theorem q_237 : (Jvm.Cond.instanceMethod ({ cls := "FirmStore", name := "down", desc := "()Z" } : Jvm.MethodName)) ∈ tbG := tbG_in (List.mem_of_getElem? (i := 297) (by decide +kernel)) rfl
theorem q_238 : (Jvm.Cond.selects "FirmStore" ({ cls := "FirmStore", name := "down", desc := "()Z" } : Jvm.MethodName) ({ cls := "FirmStore", name := "down", desc := "()Z" } : Jvm.MethodName)) ∈ tbG := tbG_in (List.mem_of_getElem? (i := 298) (by decide +kernel)) rfl
theorem q_239 : (Jvm.Cond.code ({ cls := "FirmStore", name := "down", desc := "()Z" } : Jvm.MethodName) prog_1_method_13_code (1 : Nat) (Option.some Jvm.ClassFile.FieldType.boolean)) ∈ tbG := tbG_in (List.mem_of_getElem? (i := 299) (by decide +kernel)) rfl
theorem q_240 : (Jvm.Cond.methodLink "FirmStoreLaw" (38 : Nat) ({ cls := "FirmStoreLaw", name := "put", desc := "(LFirmStore;III[J)I" } : Jvm.MethodName)) ∈ tbG := tbG_in (List.mem_of_getElem? (i := 300) (by decide +kernel)) rfl
theorem q_241 : (Jvm.Cond.static ({ cls := "FirmStoreLaw", name := "put", desc := "(LFirmStore;III[J)I" } : Jvm.MethodName)) ∈ tbG := tbG_in (List.mem_of_getElem? (i := 301) (by decide +kernel)) rfl
theorem q_242 : (Jvm.Cond.codeWith ({ cls := "FirmStoreLaw", name := "put", desc := "(LFirmStore;III[J)I" } : Jvm.MethodName) method_3_code (6 : Nat) (Option.some Jvm.ClassFile.FieldType.int) [((0 : Nat), (12 : Nat), (15 : Nat), (13 : Nat)), ((0 : Nat), (12 : Nat), (19 : Nat), (15 : Nat))]) ∈ tbG := tbG_in (List.mem_of_getElem? (i := 302) (by decide +kernel)) rfl
theorem q_439 : (Jvm.Cond.methodLink "FirmStoreLaw" (47 : Nat) ({ cls := "FirmStoreLaw", name := "remove", desc := "(LFirmStore;II[J)I" } : Jvm.MethodName)) ∈ tbG := tbG_in (List.mem_of_getElem? (i := 499) (by decide +kernel)) rfl
theorem q_440 : (Jvm.Cond.static ({ cls := "FirmStoreLaw", name := "remove", desc := "(LFirmStore;II[J)I" } : Jvm.MethodName)) ∈ tbG := tbG_in (List.mem_of_getElem? (i := 500) (by decide +kernel)) rfl
theorem q_441 : (Jvm.Cond.codeWith ({ cls := "FirmStoreLaw", name := "remove", desc := "(LFirmStore;II[J)I" } : Jvm.MethodName) method_4_code (5 : Nat) (Option.some Jvm.ClassFile.FieldType.int) [((0 : Nat), (10 : Nat), (13 : Nat), (13 : Nat)), ((0 : Nat), (10 : Nat), (17 : Nat), (15 : Nat)), ((0 : Nat), (10 : Nat), (21 : Nat), (21 : Nat))]) ∈ tbG := tbG_in (List.mem_of_getElem? (i := 501) (by decide +kernel)) rfl
theorem q_477 : (Jvm.Cond.methodLink "FirmStoreLaw" (51 : Nat) ({ cls := "FirmStoreLaw", name := "get", desc := "(LFirmStore;II[J)I" } : Jvm.MethodName)) ∈ tbG := tbG_in (List.mem_of_getElem? (i := 537) (by decide +kernel)) rfl
theorem q_478 : (Jvm.Cond.static ({ cls := "FirmStoreLaw", name := "get", desc := "(LFirmStore;II[J)I" } : Jvm.MethodName)) ∈ tbG := tbG_in (List.mem_of_getElem? (i := 538) (by decide +kernel)) rfl
theorem q_479 : (Jvm.Cond.codeWith ({ cls := "FirmStoreLaw", name := "get", desc := "(LFirmStore;II[J)I" } : Jvm.MethodName) method_5_code (5 : Nat) (Option.some Jvm.ClassFile.FieldType.int) [((0 : Nat), (10 : Nat), (13 : Nat), (13 : Nat)), ((0 : Nat), (10 : Nat), (17 : Nat), (21 : Nat))]) ∈ tbG := tbG_in (List.mem_of_getElem? (i := 539) (by decide +kernel)) rfl
theorem q_485 : (Jvm.Cond.methodLink "FirmStoreLaw" (54 : Nat) ({ cls := "FirmStoreLaw", name := "from", desc := "(LFirmStore;I[J)I" } : Jvm.MethodName)) ∈ tbG := tbG_in (List.mem_of_getElem? (i := 545) (by decide +kernel)) rfl
theorem q_486 : (Jvm.Cond.static ({ cls := "FirmStoreLaw", name := "from", desc := "(LFirmStore;I[J)I" } : Jvm.MethodName)) ∈ tbG := tbG_in (List.mem_of_getElem? (i := 546) (by decide +kernel)) rfl
theorem q_487 : (Jvm.Cond.codeWith ({ cls := "FirmStoreLaw", name := "from", desc := "(LFirmStore;I[J)I" } : Jvm.MethodName) method_6_code (4 : Nat) (Option.some Jvm.ClassFile.FieldType.int) [((0 : Nat), (9 : Nat), (12 : Nat), (13 : Nat)), ((0 : Nat), (9 : Nat), (15 : Nat), (21 : Nat))]) ∈ tbG := tbG_in (List.mem_of_getElem? (i := 547) (by decide +kernel)) rfl
theorem q_496 : (Jvm.Cond.methodLink "FirmStoreLaw" (63 : Nat) ({ cls := "FirmStoreLaw", name := "recover", desc := "(LFirmStore;[J)I" } : Jvm.MethodName)) ∈ tbG := tbG_in (List.mem_of_getElem? (i := 556) (by decide +kernel)) rfl
theorem q_497 : (Jvm.Cond.static ({ cls := "FirmStoreLaw", name := "recover", desc := "(LFirmStore;[J)I" } : Jvm.MethodName)) ∈ tbG := tbG_in (List.mem_of_getElem? (i := 557) (by decide +kernel)) rfl
theorem q_498 : (Jvm.Cond.codeWith ({ cls := "FirmStoreLaw", name := "recover", desc := "(LFirmStore;[J)I" } : Jvm.MethodName) method_7_code (3 : Nat) (Option.some Jvm.ClassFile.FieldType.int) [((0 : Nat), (8 : Nat), (11 : Nat), (15 : Nat))]) ∈ tbG := tbG_in (List.mem_of_getElem? (i := 558) (by decide +kernel)) rfl
theorem q_575 : (Jvm.Cond.methodLink "FirmStoreLaw" (44 : Nat) ({ cls := "FirmStoreModel", name := "thrown", desc := "()I" } : Jvm.MethodName)) ∈ tbG := tbG_in (List.mem_of_getElem? (i := 635) (by decide +kernel)) rfl
theorem q_576 : (Jvm.Cond.instanceMethod ({ cls := "FirmStoreModel", name := "thrown", desc := "()I" } : Jvm.MethodName)) ∈ tbG := tbG_in (List.mem_of_getElem? (i := 636) (by decide +kernel)) rfl
theorem q_577 : (Jvm.Cond.selects "FirmStoreModel" ({ cls := "FirmStoreModel", name := "thrown", desc := "()I" } : Jvm.MethodName) ({ cls := "FirmStoreModel", name := "thrown", desc := "()I" } : Jvm.MethodName)) ∈ tbG := tbG_in (List.mem_of_getElem? (i := 637) (by decide +kernel)) rfl
theorem q_578 : (Jvm.Cond.code ({ cls := "FirmStoreModel", name := "thrown", desc := "()I" } : Jvm.MethodName) prog_7_method_2_code (1 : Nat) (Option.some Jvm.ClassFile.FieldType.int)) ∈ tbG := tbG_in (List.mem_of_getElem? (i := 638) (by decide +kernel)) rfl
theorem q_579 : (Jvm.Cond.methodLink "FirmStoreLaw" (43 : Nat) ({ cls := "FirmStoreModel", name := "put", desc := "(III)I" } : Jvm.MethodName)) ∈ tbG := tbG_in (List.mem_of_getElem? (i := 639) (by decide +kernel)) rfl
theorem q_580 : (Jvm.Cond.instanceMethod ({ cls := "FirmStoreModel", name := "put", desc := "(III)I" } : Jvm.MethodName)) ∈ tbG := tbG_in (List.mem_of_getElem? (i := 640) (by decide +kernel)) rfl
theorem q_581 : (Jvm.Cond.selects "FirmStoreModel" ({ cls := "FirmStoreModel", name := "put", desc := "(III)I" } : Jvm.MethodName) ({ cls := "FirmStoreModel", name := "put", desc := "(III)I" } : Jvm.MethodName)) ∈ tbG := tbG_in (List.mem_of_getElem? (i := 641) (by decide +kernel)) rfl
theorem q_582 : (Jvm.Cond.code ({ cls := "FirmStoreModel", name := "put", desc := "(III)I" } : Jvm.MethodName) prog_7_method_35_code (5 : Nat) (Option.some Jvm.ClassFile.FieldType.int)) ∈ tbG := tbG_in (List.mem_of_getElem? (i := 642) (by decide +kernel)) rfl
theorem q_706 : (Jvm.Cond.methodLink "FirmStoreLaw" (50 : Nat) ({ cls := "FirmStoreModel", name := "remove", desc := "(II)I" } : Jvm.MethodName)) ∈ tbG := tbG_in (List.mem_of_getElem? (i := 766) (by decide +kernel)) rfl
theorem q_707 : (Jvm.Cond.instanceMethod ({ cls := "FirmStoreModel", name := "remove", desc := "(II)I" } : Jvm.MethodName)) ∈ tbG := tbG_in (List.mem_of_getElem? (i := 767) (by decide +kernel)) rfl
theorem q_708 : (Jvm.Cond.selects "FirmStoreModel" ({ cls := "FirmStoreModel", name := "remove", desc := "(II)I" } : Jvm.MethodName) ({ cls := "FirmStoreModel", name := "remove", desc := "(II)I" } : Jvm.MethodName)) ∈ tbG := tbG_in (List.mem_of_getElem? (i := 768) (by decide +kernel)) rfl
theorem q_709 : (Jvm.Cond.code ({ cls := "FirmStoreModel", name := "remove", desc := "(II)I" } : Jvm.MethodName) prog_7_method_37_code (4 : Nat) (Option.some Jvm.ClassFile.FieldType.int)) ∈ tbG := tbG_in (List.mem_of_getElem? (i := 769) (by decide +kernel)) rfl
theorem q_718 : (Jvm.Cond.methodLink "FirmStoreLaw" (53 : Nat) ({ cls := "FirmStoreModel", name := "get", desc := "(II)I" } : Jvm.MethodName)) ∈ tbG := tbG_in (List.mem_of_getElem? (i := 778) (by decide +kernel)) rfl
theorem q_719 : (Jvm.Cond.instanceMethod ({ cls := "FirmStoreModel", name := "get", desc := "(II)I" } : Jvm.MethodName)) ∈ tbG := tbG_in (List.mem_of_getElem? (i := 779) (by decide +kernel)) rfl
theorem q_720 : (Jvm.Cond.selects "FirmStoreModel" ({ cls := "FirmStoreModel", name := "get", desc := "(II)I" } : Jvm.MethodName) ({ cls := "FirmStoreModel", name := "get", desc := "(II)I" } : Jvm.MethodName)) ∈ tbG := tbG_in (List.mem_of_getElem? (i := 780) (by decide +kernel)) rfl
theorem q_721 : (Jvm.Cond.code ({ cls := "FirmStoreModel", name := "get", desc := "(II)I" } : Jvm.MethodName) prog_7_method_38_code (3 : Nat) (Option.some Jvm.ClassFile.FieldType.int)) ∈ tbG := tbG_in (List.mem_of_getElem? (i := 781) (by decide +kernel)) rfl
theorem q_722 : (Jvm.Cond.methodLink "FirmStoreLaw" (57 : Nat) ({ cls := "FirmStoreModel", name := "from", desc := "(I)I" } : Jvm.MethodName)) ∈ tbG := tbG_in (List.mem_of_getElem? (i := 782) (by decide +kernel)) rfl
theorem q_723 : (Jvm.Cond.instanceMethod ({ cls := "FirmStoreModel", name := "from", desc := "(I)I" } : Jvm.MethodName)) ∈ tbG := tbG_in (List.mem_of_getElem? (i := 783) (by decide +kernel)) rfl
theorem q_724 : (Jvm.Cond.selects "FirmStoreModel" ({ cls := "FirmStoreModel", name := "from", desc := "(I)I" } : Jvm.MethodName) ({ cls := "FirmStoreModel", name := "from", desc := "(I)I" } : Jvm.MethodName)) ∈ tbG := tbG_in (List.mem_of_getElem? (i := 784) (by decide +kernel)) rfl
theorem q_725 : (Jvm.Cond.code ({ cls := "FirmStoreModel", name := "from", desc := "(I)I" } : Jvm.MethodName) prog_7_method_40_code (6 : Nat) (Option.some Jvm.ClassFile.FieldType.int)) ∈ tbG := tbG_in (List.mem_of_getElem? (i := 785) (by decide +kernel)) rfl
theorem q_730 : (Jvm.Cond.methodLink "FirmStoreLaw" (62 : Nat) ({ cls := "FirmStoreModel", name := "order", desc := "(II)Z" } : Jvm.MethodName)) ∈ tbG := tbG_in (List.mem_of_getElem? (i := 790) (by decide +kernel)) rfl
theorem q_731 : (Jvm.Cond.instanceMethod ({ cls := "FirmStoreModel", name := "order", desc := "(II)Z" } : Jvm.MethodName)) ∈ tbG := tbG_in (List.mem_of_getElem? (i := 791) (by decide +kernel)) rfl
theorem q_732 : (Jvm.Cond.selects "FirmStoreModel" ({ cls := "FirmStoreModel", name := "order", desc := "(II)Z" } : Jvm.MethodName) ({ cls := "FirmStoreModel", name := "order", desc := "(II)Z" } : Jvm.MethodName)) ∈ tbG := tbG_in (List.mem_of_getElem? (i := 792) (by decide +kernel)) rfl
theorem q_733 : (Jvm.Cond.code ({ cls := "FirmStoreModel", name := "order", desc := "(II)Z" } : Jvm.MethodName) prog_7_method_41_code (3 : Nat) (Option.some Jvm.ClassFile.FieldType.boolean)) ∈ tbG := tbG_in (List.mem_of_getElem? (i := 793) (by decide +kernel)) rfl
theorem q_734 : (Jvm.Cond.methodLink "FirmStoreLaw" (66 : Nat) ({ cls := "FirmStoreModel", name := "recover", desc := "()I" } : Jvm.MethodName)) ∈ tbG := tbG_in (List.mem_of_getElem? (i := 794) (by decide +kernel)) rfl
theorem q_735 : (Jvm.Cond.instanceMethod ({ cls := "FirmStoreModel", name := "recover", desc := "()I" } : Jvm.MethodName)) ∈ tbG := tbG_in (List.mem_of_getElem? (i := 795) (by decide +kernel)) rfl
theorem q_736 : (Jvm.Cond.selects "FirmStoreModel" ({ cls := "FirmStoreModel", name := "recover", desc := "()I" } : Jvm.MethodName) ({ cls := "FirmStoreModel", name := "recover", desc := "()I" } : Jvm.MethodName)) ∈ tbG := tbG_in (List.mem_of_getElem? (i := 796) (by decide +kernel)) rfl
theorem q_737 : (Jvm.Cond.code ({ cls := "FirmStoreModel", name := "recover", desc := "()I" } : Jvm.MethodName) prog_7_method_46_code (2 : Nat) (Option.some Jvm.ClassFile.FieldType.int)) ∈ tbG := tbG_in (List.mem_of_getElem? (i := 797) (by decide +kernel)) rfl
theorem q_754 : (Jvm.Cond.methodLink "FirmStoreLaw" (70 : Nat) ({ cls := "FirmStoreModel", name := "size", desc := "(I)I" } : Jvm.MethodName)) ∈ tbG := tbG_in (List.mem_of_getElem? (i := 814) (by decide +kernel)) rfl
theorem q_755 : (Jvm.Cond.instanceMethod ({ cls := "FirmStoreModel", name := "size", desc := "(I)I" } : Jvm.MethodName)) ∈ tbG := tbG_in (List.mem_of_getElem? (i := 815) (by decide +kernel)) rfl
theorem q_756 : (Jvm.Cond.selects "FirmStoreModel" ({ cls := "FirmStoreModel", name := "size", desc := "(I)I" } : Jvm.MethodName) ({ cls := "FirmStoreModel", name := "size", desc := "(I)I" } : Jvm.MethodName)) ∈ tbG := tbG_in (List.mem_of_getElem? (i := 816) (by decide +kernel)) rfl
theorem q_757 : (Jvm.Cond.code ({ cls := "FirmStoreModel", name := "size", desc := "(I)I" } : Jvm.MethodName) prog_7_method_47_code (5 : Nat) (Option.some Jvm.ClassFile.FieldType.int)) ∈ tbG := tbG_in (List.mem_of_getElem? (i := 817) (by decide +kernel)) rfl
theorem q_758 : (Jvm.Cond.methodLink "FirmStoreLaw" (74 : Nat) ({ cls := "FirmStoreModel", name := "free", desc := "()I" } : Jvm.MethodName)) ∈ tbG := tbG_in (List.mem_of_getElem? (i := 818) (by decide +kernel)) rfl
theorem q_759 : (Jvm.Cond.instanceMethod ({ cls := "FirmStoreModel", name := "free", desc := "()I" } : Jvm.MethodName)) ∈ tbG := tbG_in (List.mem_of_getElem? (i := 819) (by decide +kernel)) rfl
theorem q_760 : (Jvm.Cond.selects "FirmStoreModel" ({ cls := "FirmStoreModel", name := "free", desc := "()I" } : Jvm.MethodName) ({ cls := "FirmStoreModel", name := "free", desc := "()I" } : Jvm.MethodName)) ∈ tbG := tbG_in (List.mem_of_getElem? (i := 820) (by decide +kernel)) rfl
theorem q_761 : (Jvm.Cond.code ({ cls := "FirmStoreModel", name := "free", desc := "()I" } : Jvm.MethodName) prog_7_method_48_code (1 : Nat) (Option.some Jvm.ClassFile.FieldType.int)) ∈ tbG := tbG_in (List.mem_of_getElem? (i := 821) (by decide +kernel)) rfl
theorem q_762 : (Jvm.Cond.methodLink "FirmStoreLaw" (78 : Nat) ({ cls := "FirmStoreModel", name := "height", desc := "()I" } : Jvm.MethodName)) ∈ tbG := tbG_in (List.mem_of_getElem? (i := 822) (by decide +kernel)) rfl
theorem q_763 : (Jvm.Cond.instanceMethod ({ cls := "FirmStoreModel", name := "height", desc := "()I" } : Jvm.MethodName)) ∈ tbG := tbG_in (List.mem_of_getElem? (i := 823) (by decide +kernel)) rfl
theorem q_764 : (Jvm.Cond.selects "FirmStoreModel" ({ cls := "FirmStoreModel", name := "height", desc := "()I" } : Jvm.MethodName) ({ cls := "FirmStoreModel", name := "height", desc := "()I" } : Jvm.MethodName)) ∈ tbG := tbG_in (List.mem_of_getElem? (i := 824) (by decide +kernel)) rfl
theorem q_765 : (Jvm.Cond.code ({ cls := "FirmStoreModel", name := "height", desc := "()I" } : Jvm.MethodName) prog_7_method_49_code (1 : Nat) (Option.some Jvm.ClassFile.FieldType.int)) ∈ tbG := tbG_in (List.mem_of_getElem? (i := 825) (by decide +kernel)) rfl
theorem q_766 : (Jvm.Cond.methodLink "FirmStoreLaw" (83 : Nat) ({ cls := "FirmStoreModel", name := "word", desc := "(I)J" } : Jvm.MethodName)) ∈ tbG := tbG_in (List.mem_of_getElem? (i := 826) (by decide +kernel)) rfl
theorem q_767 : (Jvm.Cond.instanceMethod ({ cls := "FirmStoreModel", name := "word", desc := "(I)J" } : Jvm.MethodName)) ∈ tbG := tbG_in (List.mem_of_getElem? (i := 827) (by decide +kernel)) rfl
theorem q_768 : (Jvm.Cond.selects "FirmStoreModel" ({ cls := "FirmStoreModel", name := "word", desc := "(I)J" } : Jvm.MethodName) ({ cls := "FirmStoreModel", name := "word", desc := "(I)J" } : Jvm.MethodName)) ∈ tbG := tbG_in (List.mem_of_getElem? (i := 828) (by decide +kernel)) rfl
theorem q_769 : (Jvm.Cond.code ({ cls := "FirmStoreModel", name := "word", desc := "(I)J" } : Jvm.MethodName) prog_7_method_50_code (2 : Nat) (Option.some Jvm.ClassFile.FieldType.long)) ∈ tbG := tbG_in (List.mem_of_getElem? (i := 829) (by decide +kernel)) rfl
theorem q_770 : (Jvm.Cond.methodLink "FirmStoreLaw" (87 : Nat) ({ cls := "FirmStoreModel", name := "stores", desc := "()I" } : Jvm.MethodName)) ∈ tbG := tbG_in (List.mem_of_getElem? (i := 830) (by decide +kernel)) rfl
theorem q_771 : (Jvm.Cond.instanceMethod ({ cls := "FirmStoreModel", name := "stores", desc := "()I" } : Jvm.MethodName)) ∈ tbG := tbG_in (List.mem_of_getElem? (i := 831) (by decide +kernel)) rfl
theorem q_772 : (Jvm.Cond.selects "FirmStoreModel" ({ cls := "FirmStoreModel", name := "stores", desc := "()I" } : Jvm.MethodName) ({ cls := "FirmStoreModel", name := "stores", desc := "()I" } : Jvm.MethodName)) ∈ tbG := tbG_in (List.mem_of_getElem? (i := 832) (by decide +kernel)) rfl
theorem q_773 : (Jvm.Cond.code ({ cls := "FirmStoreModel", name := "stores", desc := "()I" } : Jvm.MethodName) prog_7_method_51_code (1 : Nat) (Option.some Jvm.ClassFile.FieldType.int)) ∈ tbG := tbG_in (List.mem_of_getElem? (i := 833) (by decide +kernel)) rfl
theorem q_774 : (Jvm.Cond.methodLink "FirmStoreLaw" (92 : Nat) ({ cls := "FirmStoreModel", name := "down", desc := "()Z" } : Jvm.MethodName)) ∈ tbG := tbG_in (List.mem_of_getElem? (i := 834) (by decide +kernel)) rfl
theorem q_775 : (Jvm.Cond.instanceMethod ({ cls := "FirmStoreModel", name := "down", desc := "()Z" } : Jvm.MethodName)) ∈ tbG := tbG_in (List.mem_of_getElem? (i := 835) (by decide +kernel)) rfl
theorem q_776 : (Jvm.Cond.selects "FirmStoreModel" ({ cls := "FirmStoreModel", name := "down", desc := "()Z" } : Jvm.MethodName) ({ cls := "FirmStoreModel", name := "down", desc := "()Z" } : Jvm.MethodName)) ∈ tbG := tbG_in (List.mem_of_getElem? (i := 836) (by decide +kernel)) rfl
theorem q_777 : (Jvm.Cond.code ({ cls := "FirmStoreModel", name := "down", desc := "()Z" } : Jvm.MethodName) prog_7_method_52_code (1 : Nat) (Option.some Jvm.ClassFile.FieldType.boolean)) ∈ tbG := tbG_in (List.mem_of_getElem? (i := 837) (by decide +kernel)) rfl
theorem x_put (l : Launch) (hfl : l.flags = flags0) (D : va_G) (G : Nat → Nat) (Y : Nat → ClassId) (ao : Nat) {u : SM} {v : SR} (I : IV u v) (o : Nat → Int64) (a1 a2 a3 : Int32) : ∃ kk u1 o1 rv v1, KH l D G Y ao y_Law_put b_Law_put 6 hh_put 48 1204 [.ref (G 0), .int a1, .int a2, .int a3, .ref ao] (u, o) kk (u1, o1) ∧ m_Ref_put v a1 a2 a3 = some (rv, v1) ∧ IV u1 v1 ∧ rg_cd v1 = kk ∧ (kk = 0 → o1 (0 : Int32).toNatClampNeg = rv.toInt64) := by
  obtain ⟨r, u1, rv, v1, h1, h2, h3, h4⟩ := p_put I a1 a2 a3
  rcases h4 with ⟨rfl, hc⟩ | ⟨rfl, hc⟩ | ⟨rfl, hc⟩
  · exact ⟨0, u1, _, rv, v1, h_put_ok l hfl D G Y ao o h1, h2, h3, hc, fun _ => by simp [vp_updL]⟩
  · exact ⟨1, u1, o, rv, v1, h_put_0 l hfl D G Y ao o h1, h2, h3, hc, fun h => absurd h (by decide)⟩
  · exact ⟨2, u1, o, rv, v1, h_put_1 l hfl D G Y ao o h1, h2, h3, hc, fun h => absurd h (by decide)⟩
theorem x_remove (l : Launch) (hfl : l.flags = flags0) (D : va_G) (G : Nat → Nat) (Y : Nat → ClassId) (ao : Nat) {u : SM} {v : SR} (I : IV u v) (o : Nat → Int64) (a1 a2 : Int32) : ∃ kk u1 o1 rv v1, KH l D G Y ao y_Law_remove b_Law_remove 5 hh_remove 8 184 [.ref (G 0), .int a1, .int a2, .ref ao] (u, o) kk (u1, o1) ∧ m_Ref_remove v a1 a2 = some (rv, v1) ∧ IV u1 v1 ∧ rg_cd v1 = kk ∧ (kk = 0 → o1 (0 : Int32).toNatClampNeg = rv.toInt64) := by
  obtain ⟨r, u1, rv, v1, h1, h2, h3, h4⟩ := p_remove I a1 a2
  rcases h4 with ⟨rfl, hc⟩ | ⟨rfl, hc⟩ | ⟨rfl, hc⟩ | ⟨rfl, hc⟩
  · exact ⟨0, u1, _, rv, v1, h_remove_ok l hfl D G Y ao o h1, h2, h3, hc, fun _ => by simp [vp_updL]⟩
  · exact ⟨1, u1, o, rv, v1, h_remove_0 l hfl D G Y ao o h1, h2, h3, hc, fun h => absurd h (by decide)⟩
  · exact ⟨2, u1, o, rv, v1, h_remove_1 l hfl D G Y ao o h1, h2, h3, hc, fun h => absurd h (by decide)⟩
  · exact ⟨3, u1, o, rv, v1, h_remove_2 l hfl D G Y ao o h1, h2, h3, hc, fun h => absurd h (by decide)⟩
theorem x_get (l : Launch) (hfl : l.flags = flags0) (D : va_G) (G : Nat → Nat) (Y : Nat → ClassId) (ao : Nat) {u : SM} {v : SR} (I : IV u v) (o : Nat → Int64) (a1 a2 : Int32) : ∃ kk u1 o1 rv v1, KH l D G Y ao y_Law_get b_Law_get 5 hh_get 8 183 [.ref (G 0), .int a1, .int a2, .ref ao] (u, o) kk (u1, o1) ∧ m_Ref_get v a1 a2 = some (rv, v1) ∧ IV u1 v1 ∧ rg_cd v1 = kk ∧ (kk = 0 → o1 (0 : Int32).toNatClampNeg = rv.toInt64) := by
  obtain ⟨r, u1, rv, v1, h1, h2, h3, h4⟩ := p_get I a1 a2
  rcases h4 with ⟨rfl, hc⟩ | ⟨rfl, hc⟩ | ⟨rfl, hc⟩
  · exact ⟨0, u1, _, rv, v1, h_get_ok l hfl D G Y ao o h1, h2, h3, hc, fun _ => by simp [vp_updL]⟩
  · exact ⟨1, u1, o, rv, v1, h_get_0 l hfl D G Y ao o h1, h2, h3, hc, fun h => absurd h (by decide)⟩
  · exact ⟨2, u1, o, rv, v1, h_get_2 l hfl D G Y ao o h1, h2, h3, hc, fun h => absurd h (by decide)⟩
theorem x_from (l : Launch) (hfl : l.flags = flags0) (D : va_G) (G : Nat → Nat) (Y : Nat → ClassId) (ao : Nat) {u : SM} {v : SR} (I : IV u v) (o : Nat → Int64) (a1 : Int32) : ∃ kk u1 o1 rv v1, KH l D G Y ao y_Law_from b_Law_from 4 hh_from 7 160 [.ref (G 0), .int a1, .ref ao] (u, o) kk (u1, o1) ∧ m_Ref_from v a1 = some (rv, v1) ∧ IV u1 v1 ∧ rg_cd v1 = kk ∧ (kk = 0 → o1 (0 : Int32).toNatClampNeg = rv.toInt64) := by
  obtain ⟨r, u1, rv, v1, h1, h2, h3, h4⟩ := p_from I a1
  rcases h4 with ⟨rfl, hc⟩ | ⟨rfl, hc⟩ | ⟨rfl, hc⟩
  · exact ⟨0, u1, _, rv, v1, h_from_ok l hfl D G Y ao o h1, h2, h3, hc, fun _ => by simp [vp_updL]⟩
  · exact ⟨1, u1, o, rv, v1, h_from_0 l hfl D G Y ao o h1, h2, h3, hc, fun h => absurd h (by decide)⟩
  · exact ⟨2, u1, o, rv, v1, h_from_2 l hfl D G Y ao o h1, h2, h3, hc, fun h => absurd h (by decide)⟩
theorem x_recover (l : Launch) (hfl : l.flags = flags0) (D : va_G) (G : Nat → Nat) (Y : Nat → ClassId) (ao : Nat) {u : SM} {v : SR} (I : IV u v) (o : Nat → Int64) : ∃ kk u1 o1 rv v1, KH l D G Y ao y_Law_recover b_Law_recover 3 hh_recover 48 1198 [.ref (G 0), .ref ao] (u, o) kk (u1, o1) ∧ m_Ref_recover v  = some (rv, v1) ∧ IV u1 v1 ∧ rg_cd v1 = kk ∧ (kk = 0 → o1 (0 : Int32).toNatClampNeg = rv.toInt64) := by
  obtain ⟨r, u1, rv, v1, h1, h2, h3, h4⟩ := p_recover I 
  rcases h4 with ⟨rfl, hc⟩ | ⟨rfl, hc⟩
  · exact ⟨0, u1, _, rv, v1, h_recover_ok l hfl D G Y ao o h1, h2, h3, hc, fun _ => by simp [vp_updL]⟩
  · exact ⟨1, u1, o, rv, v1, h_recover_1 l hfl D G Y ao o h1, h2, h3, hc, fun h => absurd h (by decide)⟩
set_option maxRecDepth 100000 in
set_option maxHeartbeats 8000000 in
theorem law_c0 {p : Program} {e : Env} {s : State} {m : MethodId} {below : List Frame} {meth : Method} {c : Code} (l : Launch) (hfl : l.flags = flags0) {b L : Nat} {xs : Nat → Int32} (hL : L ≤ 2048) (C : lw_At p s m meth c b L xs) {D : va_G} {G GR : Nat → Nat} {Y : Nat → ClassId} {ao : Nat} (C0 : Ctx l D clz (tyz Y) "FirmStoreLaw" code 7 [Value.ref b] p s m c (fun q => s.heap.size ≤ q)) (hSZ : SZ s.heap.size s s.heap) (hNC : NCx s) {i : Nat} {x4 : Int32} (hiL : i + 4 ≤ L) (hx4 : x4 = nI i) (fin : ∀ (u : SM) (v : SR) (o : Nat → Int64), IV u v → ∀ (H : Heap) (locs : List Loc) (cells slots : Nat) (ls : Array Slot), cells ≤ 16 + (i + 4) → slots ≤ 700 + 6 * (i + 4) → LSt D G GR Y ao (fun q => s.heap.size ≤ q) s.heap H locs u v o → lv_has ls 7 [(4, .int x4), (3, .ref ao), (2, .ref (GR 0)), (1, .ref (G 0)), (0, .ref b)] → W p l e room_1 s m #[Value.ref b] below meth c H locs cells slots (lw_Z below #[Value.ref b] s) (F0 m 556 ls [])) {u : SM} {v : SR} {o : Nat → Int64} (hI : IV u v) {H : Heap} {locs : List Loc} (hLS : LSt D G GR Y ao (fun q => s.heap.size ≤ q) s.heap H locs u v o) {ls : Array Slot} (hl : lv_has ls 7 [(4, .int x4), (3, .ref ao), (2, .ref (GR 0)), (1, .ref (G 0)), (0, .ref b)]) : W p l e room_1 s m #[Value.ref b] below meth c H locs (16 + i) (700 + 6 * i) (lw_Z below #[Value.ref b] s) (F0 m 100 ls []) := by
  obtain ⟨hx, hb, hr, hml, hown, -, hX, hbl, hlocks, hgv⟩ := id C
  obtain ⟨-, -, -, -, hts, hK, hN, hA⟩ := id C0
  have hbA : ¬ (fun q : Nat => s.heap.size ≤ q) b := Nat.not_le.mpr hbl
  have hi1 : vp_in (x4 + (1 : Int32)) L := by rw [hx4, show (1 : Int32) = nI 1 from rfl, nI_add]; exact nI_in (by omega) (by omega)
  have hi2 : vp_in (x4 + (2 : Int32)) L := by rw [hx4, show (2 : Int32) = nI 2 from rfl, nI_add]; exact nI_in (by omega) (by omega)
  have hi3 : vp_in (x4 + (3 : Int32)) L := by rw [hx4, show (3 : Int32) = nI 3 from rfl, nI_add]; exact nI_in (by omega) (by omega)
  refine lv_aload_n hx hb d_law_100 rfl (lv_at hl 3 rfl) ?_
  refine lv_aload_n hx hb d_law_101 rfl (lv_at hl 4 rfl) ?_
  refine lv_iload hx hb d_law_102 (lv_at hl 0 rfl) ?_
  refine lv_iconst (v := (1 : Int32)) hx hb d_law_104 (by decide) ?_
  refine lv_iadd hx hb d_law_105 ?_
  refine va_sld hx hb hX hbl hbA hLS.2.2 hi1 d_law_106 ?_
  refine lv_aload_n hx hb d_law_107 rfl (lv_at hl 4 rfl) ?_
  refine lv_iload hx hb d_law_108 (lv_at hl 0 rfl) ?_
  refine lv_iconst (v := (2 : Int32)) hx hb d_law_110 (by decide) ?_
  refine lv_iadd hx hb d_law_111 ?_
  refine va_sld hx hb hX hbl hbA hLS.2.2 hi2 d_law_112 ?_
  refine lv_aload_n hx hb d_law_113 rfl (lv_at hl 4 rfl) ?_
  refine lv_iload hx hb d_law_114 (lv_at hl 0 rfl) ?_
  refine lv_iconst (v := (3 : Int32)) hx hb d_law_116 (by decide) ?_
  refine lv_iadd hx hb d_law_117 ?_
  refine va_sld hx hb hX hbl hbA hLS.2.2 hi3 d_law_118 ?_
  refine lv_aload_n hx hb d_law_119 rfl (lv_at hl 1 rfl) ?_
  obtain ⟨kk, u1, o1, rv, v1, hKH, hRm, hI, hcd, hout⟩ := x_put l hfl D G Y ao hI o ((xs (x4 + (1 : Int32)).toNatClampNeg)) ((xs (x4 + (2 : Int32)).toNatClampNeg)) ((xs (x4 + (3 : Int32)).toNatClampNeg))
  refine sbH (As := [.ref (G 0), .int (xs (x4 + (1 : Int32)).toNatClampNeg), .int (xs (x4 + (2 : Int32)).toNatClampNeg), .int (xs (x4 + (3 : Int32)).toNatClampNeg), .ref ao]) (rest := []) (X := wdR GR Y v) C0 hKH q_242 q_0 q_240 q_241 e_Law_put ⟨Nat.le_of_ble_eq_true rfl, Nat.le_of_ble_eq_true rfl⟩ (by show 16 + i + 1 ≤ 601024; omega) (by show 700 + 6 * i + 6 ≤ 7293034; omega) hLS.1 hLS.2.1 hLS.2.2 hl.1 rfl (Nat.le_of_ble_eq_true rfl) d_law_120 hSZ (fun _ _ h => h) (Nat.le_refl _) hNC (fun H locs hP hD hS => ?_)
  have hLS : LSt D G GR Y ao (fun q => s.heap.size ≤ q) s.heap H locs u1 v o1 := ⟨hP, hD, hS⟩
  refine lv_istore (lv' := [(5, .int kk), (4, .int x4), (3, .ref ao), (2, .ref (GR 0)), (1, .ref (G 0)), (0, .ref b)]) hx hb d_law_123 hl (by decide) rfl (fun ls hl => ?_)
  refine lv_aload_n hx hb d_law_125 rfl (lv_at hl 3 rfl) ?_
  refine lv_aload_n hx hb d_law_126 rfl (lv_at hl 5 rfl) ?_
  refine lv_iload hx hb d_law_127 (lv_at hl 1 rfl) ?_
  refine lv_iconst (v := (1 : Int32)) hx hb d_law_129 (by decide) ?_
  refine lv_iadd hx hb d_law_130 ?_
  refine va_sld hx hb hX hbl hbA hLS.2.2 hi1 d_law_131 ?_
  refine lv_aload_n hx hb d_law_132 rfl (lv_at hl 5 rfl) ?_
  refine lv_iload hx hb d_law_133 (lv_at hl 1 rfl) ?_
  refine lv_iconst (v := (2 : Int32)) hx hb d_law_135 (by decide) ?_
  refine lv_iadd hx hb d_law_136 ?_
  refine va_sld hx hb hX hbl hbA hLS.2.2 hi2 d_law_137 ?_
  refine lv_aload_n hx hb d_law_138 rfl (lv_at hl 5 rfl) ?_
  refine lv_iload hx hb d_law_139 (lv_at hl 1 rfl) ?_
  refine lv_iconst (v := (3 : Int32)) hx hb d_law_141 (by decide) ?_
  refine lv_iadd hx hb d_law_142 ?_
  refine va_sld hx hb hX hbl hbA hLS.2.2 hi3 d_law_143 ?_
  refine lrI (As := [.int (xs (x4 + (1 : Int32)).toNatClampNeg), .int (xs (x4 + (2 : Int32)).toNatClampNeg), .int (xs (x4 + (3 : Int32)).toNatClampNeg)]) (rest := []) C0 hLS (k_Ref_put l D GR Y hRm) rfl q_582 q_6 q_579 q_580 q_581 e_Ref_put ⟨Nat.le_of_ble_eq_true rfl, Nat.le_of_ble_eq_true rfl⟩ (by show (16 + i + 1) ≤ 601024; omega) (by show (700 + 6 * i + 6) ≤ 7293034; omega) hl.1 rfl (Nat.le_of_ble_eq_true rfl) d_law_144 (fun H locs hLS => ?_)
  refine lv_istore (lv' := [(6, .int rv), (5, .int kk), (4, .int x4), (3, .ref ao), (2, .ref (GR 0)), (1, .ref (G 0)), (0, .ref b)]) hx hb d_law_147 hl (by decide) rfl (fun ls hl => ?_)
  refine lv_aload_n hx hb d_law_149 rfl (lv_at hl 4 rfl) ?_
  refine lrI (As := []) (rest := []) C0 hLS (k_Ref_thrown l D GR Y (show m_Ref_thrown v1 = some (rg_cd v1, v1) from rfl)) rfl q_578 q_6 q_575 q_576 q_577 e_Ref_thrown ⟨Nat.le_of_ble_eq_true rfl, Nat.le_of_ble_eq_true rfl⟩ (by show (16 + i + 1) ≤ 601024; omega) (by show (700 + 6 * i + 6) ≤ 7293034; omega) hl.1 rfl (Nat.le_of_ble_eq_true rfl) d_law_150 (fun H locs hLS => ?_)
  refine lv_iload hx hb d_law_153 (lv_at hl 1 rfl) ?_
  refine lv_icmp_eq (tgt := 160) hx hb d_law_155 (by decide) (fun hc => ?_) (fun hc => absurd hcd hc)
  refine lv_iload hx hb d_law_160 (lv_at hl 1 rfl) ?_
  refine lv_if_ne (tgt := 177) hx hb d_law_162 (by decide) (fun hc => ?_) (fun hc => ?_)
  · refine lv_goto (tgt := 556) hx hb d_law_177 (by decide) ?_
    exact fin u1 v1 o1 hI _ _ _ _ _ (by omega) (by omega) hLS (lv_sub hl [2, 3, 4, 5, 6] rfl)
  · refine lv_aload_n hx hb d_law_165 rfl (lv_at hl 3 rfl) ?_
    refine lv_iconst (v := (0 : Int32)) hx hb d_law_166 (by decide) ?_
    refine va_lald hx hb hK hLS.1 8 0 (f := o1) rfl rfl (inb_in rfl) d_law_167 ?_
    refine lv_iload hx hb d_law_168 (lv_at hl 0 rfl) ?_
    refine lv_i2l (v := (rv.toInt64)) hx hb d_law_170 rfl ?_
    refine W.lcmp hx hb d_law_171 ?_
    refine lv_if_eq (tgt := 177) hx hb d_law_172 (by decide) (fun hc2 => ?_) (fun hc2 => absurd ((lg_cmp_eq _ _).mpr (hout hc)) hc2)
    refine lv_goto (tgt := 556) hx hb d_law_177 (by decide) ?_
    exact fin u1 v1 o1 hI _ _ _ _ _ (by omega) (by omega) hLS (lv_sub hl [2, 3, 4, 5, 6] rfl)
set_option maxRecDepth 100000 in
set_option maxHeartbeats 8000000 in
theorem law_c1 {p : Program} {e : Env} {s : State} {m : MethodId} {below : List Frame} {meth : Method} {c : Code} (l : Launch) (hfl : l.flags = flags0) {b L : Nat} {xs : Nat → Int32} (hL : L ≤ 2048) (C : lw_At p s m meth c b L xs) {D : va_G} {G GR : Nat → Nat} {Y : Nat → ClassId} {ao : Nat} (C0 : Ctx l D clz (tyz Y) "FirmStoreLaw" code 7 [Value.ref b] p s m c (fun q => s.heap.size ≤ q)) (hSZ : SZ s.heap.size s s.heap) (hNC : NCx s) {i : Nat} {x4 : Int32} (hiL : i + 4 ≤ L) (hx4 : x4 = nI i) (fin : ∀ (u : SM) (v : SR) (o : Nat → Int64), IV u v → ∀ (H : Heap) (locs : List Loc) (cells slots : Nat) (ls : Array Slot), cells ≤ 16 + (i + 4) → slots ≤ 700 + 6 * (i + 4) → LSt D G GR Y ao (fun q => s.heap.size ≤ q) s.heap H locs u v o → lv_has ls 7 [(4, .int x4), (3, .ref ao), (2, .ref (GR 0)), (1, .ref (G 0)), (0, .ref b)] → W p l e room_1 s m #[Value.ref b] below meth c H locs cells slots (lw_Z below #[Value.ref b] s) (F0 m 556 ls [])) {u : SM} {v : SR} {o : Nat → Int64} (hI : IV u v) {H : Heap} {locs : List Loc} (hLS : LSt D G GR Y ao (fun q => s.heap.size ≤ q) s.heap H locs u v o) {ls : Array Slot} (hl : lv_has ls 7 [(4, .int x4), (3, .ref ao), (2, .ref (GR 0)), (1, .ref (G 0)), (0, .ref b)]) : W p l e room_1 s m #[Value.ref b] below meth c H locs (16 + i) (700 + 6 * i) (lw_Z below #[Value.ref b] s) (F0 m 180 ls []) := by
  obtain ⟨hx, hb, hr, hml, hown, -, hX, hbl, hlocks, hgv⟩ := id C
  obtain ⟨-, -, -, -, hts, hK, hN, hA⟩ := id C0
  have hbA : ¬ (fun q : Nat => s.heap.size ≤ q) b := Nat.not_le.mpr hbl
  have hi1 : vp_in (x4 + (1 : Int32)) L := by rw [hx4, show (1 : Int32) = nI 1 from rfl, nI_add]; exact nI_in (by omega) (by omega)
  have hi2 : vp_in (x4 + (2 : Int32)) L := by rw [hx4, show (2 : Int32) = nI 2 from rfl, nI_add]; exact nI_in (by omega) (by omega)
  have hi3 : vp_in (x4 + (3 : Int32)) L := by rw [hx4, show (3 : Int32) = nI 3 from rfl, nI_add]; exact nI_in (by omega) (by omega)
  refine lv_aload_n hx hb d_law_180 rfl (lv_at hl 3 rfl) ?_
  refine lv_aload_n hx hb d_law_181 rfl (lv_at hl 4 rfl) ?_
  refine lv_iload hx hb d_law_182 (lv_at hl 0 rfl) ?_
  refine lv_iconst (v := (1 : Int32)) hx hb d_law_184 (by decide) ?_
  refine lv_iadd hx hb d_law_185 ?_
  refine va_sld hx hb hX hbl hbA hLS.2.2 hi1 d_law_186 ?_
  refine lv_aload_n hx hb d_law_187 rfl (lv_at hl 4 rfl) ?_
  refine lv_iload hx hb d_law_188 (lv_at hl 0 rfl) ?_
  refine lv_iconst (v := (2 : Int32)) hx hb d_law_190 (by decide) ?_
  refine lv_iadd hx hb d_law_191 ?_
  refine va_sld hx hb hX hbl hbA hLS.2.2 hi2 d_law_192 ?_
  refine lv_aload_n hx hb d_law_193 rfl (lv_at hl 1 rfl) ?_
  obtain ⟨kk, u1, o1, rv, v1, hKH, hRm, hI, hcd, hout⟩ := x_remove l hfl D G Y ao hI o ((xs (x4 + (1 : Int32)).toNatClampNeg)) ((xs (x4 + (2 : Int32)).toNatClampNeg))
  refine sbH (As := [.ref (G 0), .int (xs (x4 + (1 : Int32)).toNatClampNeg), .int (xs (x4 + (2 : Int32)).toNatClampNeg), .ref ao]) (rest := []) (X := wdR GR Y v) C0 hKH q_441 q_0 q_439 q_440 e_Law_remove ⟨Nat.le_of_ble_eq_true rfl, Nat.le_of_ble_eq_true rfl⟩ (by show 16 + i + 1 ≤ 601024; omega) (by show 700 + 6 * i + 6 ≤ 7293034; omega) hLS.1 hLS.2.1 hLS.2.2 hl.1 rfl (Nat.le_of_ble_eq_true rfl) d_law_194 hSZ (fun _ _ h => h) (Nat.le_refl _) hNC (fun H locs hP hD hS => ?_)
  have hLS : LSt D G GR Y ao (fun q => s.heap.size ≤ q) s.heap H locs u1 v o1 := ⟨hP, hD, hS⟩
  refine lv_istore (lv' := [(5, .int kk), (4, .int x4), (3, .ref ao), (2, .ref (GR 0)), (1, .ref (G 0)), (0, .ref b)]) hx hb d_law_197 hl (by decide) rfl (fun ls hl => ?_)
  refine lv_aload_n hx hb d_law_199 rfl (lv_at hl 3 rfl) ?_
  refine lv_aload_n hx hb d_law_200 rfl (lv_at hl 5 rfl) ?_
  refine lv_iload hx hb d_law_201 (lv_at hl 1 rfl) ?_
  refine lv_iconst (v := (1 : Int32)) hx hb d_law_203 (by decide) ?_
  refine lv_iadd hx hb d_law_204 ?_
  refine va_sld hx hb hX hbl hbA hLS.2.2 hi1 d_law_205 ?_
  refine lv_aload_n hx hb d_law_206 rfl (lv_at hl 5 rfl) ?_
  refine lv_iload hx hb d_law_207 (lv_at hl 1 rfl) ?_
  refine lv_iconst (v := (2 : Int32)) hx hb d_law_209 (by decide) ?_
  refine lv_iadd hx hb d_law_210 ?_
  refine va_sld hx hb hX hbl hbA hLS.2.2 hi2 d_law_211 ?_
  refine lrI (As := [.int (xs (x4 + (1 : Int32)).toNatClampNeg), .int (xs (x4 + (2 : Int32)).toNatClampNeg)]) (rest := []) C0 hLS (k_Ref_remove l D GR Y hRm) rfl q_709 q_6 q_706 q_707 q_708 e_Ref_remove ⟨Nat.le_of_ble_eq_true rfl, Nat.le_of_ble_eq_true rfl⟩ (by show (16 + i + 1) ≤ 601024; omega) (by show (700 + 6 * i + 6) ≤ 7293034; omega) hl.1 rfl (Nat.le_of_ble_eq_true rfl) d_law_212 (fun H locs hLS => ?_)
  refine lv_istore (lv' := [(6, .int rv), (5, .int kk), (4, .int x4), (3, .ref ao), (2, .ref (GR 0)), (1, .ref (G 0)), (0, .ref b)]) hx hb d_law_215 hl (by decide) rfl (fun ls hl => ?_)
  refine lv_aload_n hx hb d_law_217 rfl (lv_at hl 4 rfl) ?_
  refine lrI (As := []) (rest := []) C0 hLS (k_Ref_thrown l D GR Y (show m_Ref_thrown v1 = some (rg_cd v1, v1) from rfl)) rfl q_578 q_6 q_575 q_576 q_577 e_Ref_thrown ⟨Nat.le_of_ble_eq_true rfl, Nat.le_of_ble_eq_true rfl⟩ (by show (16 + i + 1) ≤ 601024; omega) (by show (700 + 6 * i + 6) ≤ 7293034; omega) hl.1 rfl (Nat.le_of_ble_eq_true rfl) d_law_218 (fun H locs hLS => ?_)
  refine lv_iload hx hb d_law_221 (lv_at hl 1 rfl) ?_
  refine lv_icmp_eq (tgt := 228) hx hb d_law_223 (by decide) (fun hc => ?_) (fun hc => absurd hcd hc)
  refine lv_iload hx hb d_law_228 (lv_at hl 1 rfl) ?_
  refine lv_if_ne (tgt := 245) hx hb d_law_230 (by decide) (fun hc => ?_) (fun hc => ?_)
  · refine lv_goto (tgt := 556) hx hb d_law_245 (by decide) ?_
    exact fin u1 v1 o1 hI _ _ _ _ _ (by omega) (by omega) hLS (lv_sub hl [2, 3, 4, 5, 6] rfl)
  · refine lv_aload_n hx hb d_law_233 rfl (lv_at hl 3 rfl) ?_
    refine lv_iconst (v := (0 : Int32)) hx hb d_law_234 (by decide) ?_
    refine va_lald hx hb hK hLS.1 8 0 (f := o1) rfl rfl (inb_in rfl) d_law_235 ?_
    refine lv_iload hx hb d_law_236 (lv_at hl 0 rfl) ?_
    refine lv_i2l (v := (rv.toInt64)) hx hb d_law_238 rfl ?_
    refine W.lcmp hx hb d_law_239 ?_
    refine lv_if_eq (tgt := 245) hx hb d_law_240 (by decide) (fun hc2 => ?_) (fun hc2 => absurd ((lg_cmp_eq _ _).mpr (hout hc)) hc2)
    refine lv_goto (tgt := 556) hx hb d_law_245 (by decide) ?_
    exact fin u1 v1 o1 hI _ _ _ _ _ (by omega) (by omega) hLS (lv_sub hl [2, 3, 4, 5, 6] rfl)
set_option maxRecDepth 100000 in
set_option maxHeartbeats 8000000 in
theorem law_c2 {p : Program} {e : Env} {s : State} {m : MethodId} {below : List Frame} {meth : Method} {c : Code} (l : Launch) (hfl : l.flags = flags0) {b L : Nat} {xs : Nat → Int32} (hL : L ≤ 2048) (C : lw_At p s m meth c b L xs) {D : va_G} {G GR : Nat → Nat} {Y : Nat → ClassId} {ao : Nat} (C0 : Ctx l D clz (tyz Y) "FirmStoreLaw" code 7 [Value.ref b] p s m c (fun q => s.heap.size ≤ q)) (hSZ : SZ s.heap.size s s.heap) (hNC : NCx s) {i : Nat} {x4 : Int32} (hiL : i + 4 ≤ L) (hx4 : x4 = nI i) (fin : ∀ (u : SM) (v : SR) (o : Nat → Int64), IV u v → ∀ (H : Heap) (locs : List Loc) (cells slots : Nat) (ls : Array Slot), cells ≤ 16 + (i + 4) → slots ≤ 700 + 6 * (i + 4) → LSt D G GR Y ao (fun q => s.heap.size ≤ q) s.heap H locs u v o → lv_has ls 7 [(4, .int x4), (3, .ref ao), (2, .ref (GR 0)), (1, .ref (G 0)), (0, .ref b)] → W p l e room_1 s m #[Value.ref b] below meth c H locs cells slots (lw_Z below #[Value.ref b] s) (F0 m 556 ls [])) {u : SM} {v : SR} {o : Nat → Int64} (hI : IV u v) {H : Heap} {locs : List Loc} (hLS : LSt D G GR Y ao (fun q => s.heap.size ≤ q) s.heap H locs u v o) {ls : Array Slot} (hl : lv_has ls 7 [(4, .int x4), (3, .ref ao), (2, .ref (GR 0)), (1, .ref (G 0)), (0, .ref b)]) : W p l e room_1 s m #[Value.ref b] below meth c H locs (16 + i) (700 + 6 * i) (lw_Z below #[Value.ref b] s) (F0 m 248 ls []) := by
  obtain ⟨hx, hb, hr, hml, hown, -, hX, hbl, hlocks, hgv⟩ := id C
  obtain ⟨-, -, -, -, hts, hK, hN, hA⟩ := id C0
  have hbA : ¬ (fun q : Nat => s.heap.size ≤ q) b := Nat.not_le.mpr hbl
  have hi1 : vp_in (x4 + (1 : Int32)) L := by rw [hx4, show (1 : Int32) = nI 1 from rfl, nI_add]; exact nI_in (by omega) (by omega)
  have hi2 : vp_in (x4 + (2 : Int32)) L := by rw [hx4, show (2 : Int32) = nI 2 from rfl, nI_add]; exact nI_in (by omega) (by omega)
  have hi3 : vp_in (x4 + (3 : Int32)) L := by rw [hx4, show (3 : Int32) = nI 3 from rfl, nI_add]; exact nI_in (by omega) (by omega)
  refine lv_aload_n hx hb d_law_248 rfl (lv_at hl 3 rfl) ?_
  refine lv_aload_n hx hb d_law_249 rfl (lv_at hl 4 rfl) ?_
  refine lv_iload hx hb d_law_250 (lv_at hl 0 rfl) ?_
  refine lv_iconst (v := (1 : Int32)) hx hb d_law_252 (by decide) ?_
  refine lv_iadd hx hb d_law_253 ?_
  refine va_sld hx hb hX hbl hbA hLS.2.2 hi1 d_law_254 ?_
  refine lv_aload_n hx hb d_law_255 rfl (lv_at hl 4 rfl) ?_
  refine lv_iload hx hb d_law_256 (lv_at hl 0 rfl) ?_
  refine lv_iconst (v := (2 : Int32)) hx hb d_law_258 (by decide) ?_
  refine lv_iadd hx hb d_law_259 ?_
  refine va_sld hx hb hX hbl hbA hLS.2.2 hi2 d_law_260 ?_
  refine lv_aload_n hx hb d_law_261 rfl (lv_at hl 1 rfl) ?_
  obtain ⟨kk, u1, o1, rv, v1, hKH, hRm, hI, hcd, hout⟩ := x_get l hfl D G Y ao hI o ((xs (x4 + (1 : Int32)).toNatClampNeg)) ((xs (x4 + (2 : Int32)).toNatClampNeg))
  refine sbH (As := [.ref (G 0), .int (xs (x4 + (1 : Int32)).toNatClampNeg), .int (xs (x4 + (2 : Int32)).toNatClampNeg), .ref ao]) (rest := []) (X := wdR GR Y v) C0 hKH q_479 q_0 q_477 q_478 e_Law_get ⟨Nat.le_of_ble_eq_true rfl, Nat.le_of_ble_eq_true rfl⟩ (by show 16 + i + 1 ≤ 601024; omega) (by show 700 + 6 * i + 6 ≤ 7293034; omega) hLS.1 hLS.2.1 hLS.2.2 hl.1 rfl (Nat.le_of_ble_eq_true rfl) d_law_262 hSZ (fun _ _ h => h) (Nat.le_refl _) hNC (fun H locs hP hD hS => ?_)
  have hLS : LSt D G GR Y ao (fun q => s.heap.size ≤ q) s.heap H locs u1 v o1 := ⟨hP, hD, hS⟩
  refine lv_istore (lv' := [(5, .int kk), (4, .int x4), (3, .ref ao), (2, .ref (GR 0)), (1, .ref (G 0)), (0, .ref b)]) hx hb d_law_265 hl (by decide) rfl (fun ls hl => ?_)
  refine lv_aload_n hx hb d_law_267 rfl (lv_at hl 3 rfl) ?_
  refine lv_aload_n hx hb d_law_268 rfl (lv_at hl 5 rfl) ?_
  refine lv_iload hx hb d_law_269 (lv_at hl 1 rfl) ?_
  refine lv_iconst (v := (1 : Int32)) hx hb d_law_271 (by decide) ?_
  refine lv_iadd hx hb d_law_272 ?_
  refine va_sld hx hb hX hbl hbA hLS.2.2 hi1 d_law_273 ?_
  refine lv_aload_n hx hb d_law_274 rfl (lv_at hl 5 rfl) ?_
  refine lv_iload hx hb d_law_275 (lv_at hl 1 rfl) ?_
  refine lv_iconst (v := (2 : Int32)) hx hb d_law_277 (by decide) ?_
  refine lv_iadd hx hb d_law_278 ?_
  refine va_sld hx hb hX hbl hbA hLS.2.2 hi2 d_law_279 ?_
  refine lrI (As := [.int (xs (x4 + (1 : Int32)).toNatClampNeg), .int (xs (x4 + (2 : Int32)).toNatClampNeg)]) (rest := []) C0 hLS (k_Ref_get l D GR Y hRm) rfl q_721 q_6 q_718 q_719 q_720 e_Ref_get ⟨Nat.le_of_ble_eq_true rfl, Nat.le_of_ble_eq_true rfl⟩ (by show (16 + i + 1) ≤ 601024; omega) (by show (700 + 6 * i + 6) ≤ 7293034; omega) hl.1 rfl (Nat.le_of_ble_eq_true rfl) d_law_280 (fun H locs hLS => ?_)
  refine lv_istore (lv' := [(6, .int rv), (5, .int kk), (4, .int x4), (3, .ref ao), (2, .ref (GR 0)), (1, .ref (G 0)), (0, .ref b)]) hx hb d_law_283 hl (by decide) rfl (fun ls hl => ?_)
  refine lv_aload_n hx hb d_law_285 rfl (lv_at hl 4 rfl) ?_
  refine lrI (As := []) (rest := []) C0 hLS (k_Ref_thrown l D GR Y (show m_Ref_thrown v1 = some (rg_cd v1, v1) from rfl)) rfl q_578 q_6 q_575 q_576 q_577 e_Ref_thrown ⟨Nat.le_of_ble_eq_true rfl, Nat.le_of_ble_eq_true rfl⟩ (by show (16 + i + 1) ≤ 601024; omega) (by show (700 + 6 * i + 6) ≤ 7293034; omega) hl.1 rfl (Nat.le_of_ble_eq_true rfl) d_law_286 (fun H locs hLS => ?_)
  refine lv_iload hx hb d_law_289 (lv_at hl 1 rfl) ?_
  refine lv_icmp_eq (tgt := 296) hx hb d_law_291 (by decide) (fun hc => ?_) (fun hc => absurd hcd hc)
  refine lv_iload hx hb d_law_296 (lv_at hl 1 rfl) ?_
  refine lv_if_ne (tgt := 313) hx hb d_law_298 (by decide) (fun hc => ?_) (fun hc => ?_)
  · refine lv_goto (tgt := 556) hx hb d_law_313 (by decide) ?_
    exact fin u1 v1 o1 hI _ _ _ _ _ (by omega) (by omega) hLS (lv_sub hl [2, 3, 4, 5, 6] rfl)
  · refine lv_aload_n hx hb d_law_301 rfl (lv_at hl 3 rfl) ?_
    refine lv_iconst (v := (0 : Int32)) hx hb d_law_302 (by decide) ?_
    refine va_lald hx hb hK hLS.1 8 0 (f := o1) rfl rfl (inb_in rfl) d_law_303 ?_
    refine lv_iload hx hb d_law_304 (lv_at hl 0 rfl) ?_
    refine lv_i2l (v := (rv.toInt64)) hx hb d_law_306 rfl ?_
    refine W.lcmp hx hb d_law_307 ?_
    refine lv_if_eq (tgt := 313) hx hb d_law_308 (by decide) (fun hc2 => ?_) (fun hc2 => absurd ((lg_cmp_eq _ _).mpr (hout hc)) hc2)
    refine lv_goto (tgt := 556) hx hb d_law_313 (by decide) ?_
    exact fin u1 v1 o1 hI _ _ _ _ _ (by omega) (by omega) hLS (lv_sub hl [2, 3, 4, 5, 6] rfl)
set_option maxRecDepth 100000 in
set_option maxHeartbeats 8000000 in
theorem law_c3 {p : Program} {e : Env} {s : State} {m : MethodId} {below : List Frame} {meth : Method} {c : Code} (l : Launch) (hfl : l.flags = flags0) {b L : Nat} {xs : Nat → Int32} (hL : L ≤ 2048) (C : lw_At p s m meth c b L xs) {D : va_G} {G GR : Nat → Nat} {Y : Nat → ClassId} {ao : Nat} (C0 : Ctx l D clz (tyz Y) "FirmStoreLaw" code 7 [Value.ref b] p s m c (fun q => s.heap.size ≤ q)) (hSZ : SZ s.heap.size s s.heap) (hNC : NCx s) {i : Nat} {x4 : Int32} (hiL : i + 4 ≤ L) (hx4 : x4 = nI i) (fin : ∀ (u : SM) (v : SR) (o : Nat → Int64), IV u v → ∀ (H : Heap) (locs : List Loc) (cells slots : Nat) (ls : Array Slot), cells ≤ 16 + (i + 4) → slots ≤ 700 + 6 * (i + 4) → LSt D G GR Y ao (fun q => s.heap.size ≤ q) s.heap H locs u v o → lv_has ls 7 [(4, .int x4), (3, .ref ao), (2, .ref (GR 0)), (1, .ref (G 0)), (0, .ref b)] → W p l e room_1 s m #[Value.ref b] below meth c H locs cells slots (lw_Z below #[Value.ref b] s) (F0 m 556 ls [])) {u : SM} {v : SR} {o : Nat → Int64} (hI : IV u v) {H : Heap} {locs : List Loc} (hLS : LSt D G GR Y ao (fun q => s.heap.size ≤ q) s.heap H locs u v o) {ls : Array Slot} (hl : lv_has ls 7 [(4, .int x4), (3, .ref ao), (2, .ref (GR 0)), (1, .ref (G 0)), (0, .ref b)]) : W p l e room_1 s m #[Value.ref b] below meth c H locs (16 + i) (700 + 6 * i) (lw_Z below #[Value.ref b] s) (F0 m 316 ls []) := by
  obtain ⟨hx, hb, hr, hml, hown, -, hX, hbl, hlocks, hgv⟩ := id C
  obtain ⟨-, -, -, -, hts, hK, hN, hA⟩ := id C0
  have hbA : ¬ (fun q : Nat => s.heap.size ≤ q) b := Nat.not_le.mpr hbl
  have hi1 : vp_in (x4 + (1 : Int32)) L := by rw [hx4, show (1 : Int32) = nI 1 from rfl, nI_add]; exact nI_in (by omega) (by omega)
  have hi2 : vp_in (x4 + (2 : Int32)) L := by rw [hx4, show (2 : Int32) = nI 2 from rfl, nI_add]; exact nI_in (by omega) (by omega)
  have hi3 : vp_in (x4 + (3 : Int32)) L := by rw [hx4, show (3 : Int32) = nI 3 from rfl, nI_add]; exact nI_in (by omega) (by omega)
  refine lv_aload_n hx hb d_law_316 rfl (lv_at hl 3 rfl) ?_
  refine lv_aload_n hx hb d_law_317 rfl (lv_at hl 4 rfl) ?_
  refine lv_iload hx hb d_law_318 (lv_at hl 0 rfl) ?_
  refine lv_iconst (v := (1 : Int32)) hx hb d_law_320 (by decide) ?_
  refine lv_iadd hx hb d_law_321 ?_
  refine va_sld hx hb hX hbl hbA hLS.2.2 hi1 d_law_322 ?_
  refine lv_aload_n hx hb d_law_323 rfl (lv_at hl 1 rfl) ?_
  obtain ⟨kk, u1, o1, rv, v1, hKH, hRm, hI, hcd, hout⟩ := x_from l hfl D G Y ao hI o ((xs (x4 + (1 : Int32)).toNatClampNeg))
  refine sbH (As := [.ref (G 0), .int (xs (x4 + (1 : Int32)).toNatClampNeg), .ref ao]) (rest := []) (X := wdR GR Y v) C0 hKH q_487 q_0 q_485 q_486 e_Law_from ⟨Nat.le_of_ble_eq_true rfl, Nat.le_of_ble_eq_true rfl⟩ (by show 16 + i + 1 ≤ 601024; omega) (by show 700 + 6 * i + 6 ≤ 7293034; omega) hLS.1 hLS.2.1 hLS.2.2 hl.1 rfl (Nat.le_of_ble_eq_true rfl) d_law_324 hSZ (fun _ _ h => h) (Nat.le_refl _) hNC (fun H locs hP hD hS => ?_)
  have hLS : LSt D G GR Y ao (fun q => s.heap.size ≤ q) s.heap H locs u1 v o1 := ⟨hP, hD, hS⟩
  refine lv_istore (lv' := [(5, .int kk), (4, .int x4), (3, .ref ao), (2, .ref (GR 0)), (1, .ref (G 0)), (0, .ref b)]) hx hb d_law_327 hl (by decide) rfl (fun ls hl => ?_)
  refine lv_aload_n hx hb d_law_329 rfl (lv_at hl 3 rfl) ?_
  refine lv_aload_n hx hb d_law_330 rfl (lv_at hl 5 rfl) ?_
  refine lv_iload hx hb d_law_331 (lv_at hl 1 rfl) ?_
  refine lv_iconst (v := (1 : Int32)) hx hb d_law_333 (by decide) ?_
  refine lv_iadd hx hb d_law_334 ?_
  refine va_sld hx hb hX hbl hbA hLS.2.2 hi1 d_law_335 ?_
  refine lrI (As := [.int (xs (x4 + (1 : Int32)).toNatClampNeg)]) (rest := []) C0 hLS (k_Ref_from l D GR Y hRm) rfl q_725 q_6 q_722 q_723 q_724 e_Ref_from ⟨Nat.le_of_ble_eq_true rfl, Nat.le_of_ble_eq_true rfl⟩ (by show (16 + i + 1) ≤ 601024; omega) (by show (700 + 6 * i + 6) ≤ 7293034; omega) hl.1 rfl (Nat.le_of_ble_eq_true rfl) d_law_336 (fun H locs hLS => ?_)
  refine lv_istore (lv' := [(6, .int rv), (5, .int kk), (4, .int x4), (3, .ref ao), (2, .ref (GR 0)), (1, .ref (G 0)), (0, .ref b)]) hx hb d_law_339 hl (by decide) rfl (fun ls hl => ?_)
  refine lv_aload_n hx hb d_law_341 rfl (lv_at hl 4 rfl) ?_
  refine lrI (As := []) (rest := []) C0 hLS (k_Ref_thrown l D GR Y (show m_Ref_thrown v1 = some (rg_cd v1, v1) from rfl)) rfl q_578 q_6 q_575 q_576 q_577 e_Ref_thrown ⟨Nat.le_of_ble_eq_true rfl, Nat.le_of_ble_eq_true rfl⟩ (by show (16 + i + 1) ≤ 601024; omega) (by show (700 + 6 * i + 6) ≤ 7293034; omega) hl.1 rfl (Nat.le_of_ble_eq_true rfl) d_law_342 (fun H locs hLS => ?_)
  refine lv_iload hx hb d_law_345 (lv_at hl 1 rfl) ?_
  refine lv_icmp_eq (tgt := 352) hx hb d_law_347 (by decide) (fun hc => ?_) (fun hc => absurd hcd hc)
  refine lv_iload hx hb d_law_352 (lv_at hl 1 rfl) ?_
  refine lv_if_ne (tgt := 369) hx hb d_law_354 (by decide) (fun hc => ?_) (fun hc => ?_)
  · refine lv_goto (tgt := 556) hx hb d_law_369 (by decide) ?_
    exact fin u1 v1 o1 hI _ _ _ _ _ (by omega) (by omega) hLS (lv_sub hl [2, 3, 4, 5, 6] rfl)
  · refine lv_aload_n hx hb d_law_357 rfl (lv_at hl 3 rfl) ?_
    refine lv_iconst (v := (0 : Int32)) hx hb d_law_358 (by decide) ?_
    refine va_lald hx hb hK hLS.1 8 0 (f := o1) rfl rfl (inb_in rfl) d_law_359 ?_
    refine lv_iload hx hb d_law_360 (lv_at hl 0 rfl) ?_
    refine lv_i2l (v := (rv.toInt64)) hx hb d_law_362 rfl ?_
    refine W.lcmp hx hb d_law_363 ?_
    refine lv_if_eq (tgt := 369) hx hb d_law_364 (by decide) (fun hc2 => ?_) (fun hc2 => absurd ((lg_cmp_eq _ _).mpr (hout hc)) hc2)
    refine lv_goto (tgt := 556) hx hb d_law_369 (by decide) ?_
    exact fin u1 v1 o1 hI _ _ _ _ _ (by omega) (by omega) hLS (lv_sub hl [2, 3, 4, 5, 6] rfl)
set_option maxRecDepth 100000 in
set_option maxHeartbeats 8000000 in
theorem law_c4 {p : Program} {e : Env} {s : State} {m : MethodId} {below : List Frame} {meth : Method} {c : Code} (l : Launch) (hfl : l.flags = flags0) {b L : Nat} {xs : Nat → Int32} (hL : L ≤ 2048) (C : lw_At p s m meth c b L xs) {D : va_G} {G GR : Nat → Nat} {Y : Nat → ClassId} {ao : Nat} (C0 : Ctx l D clz (tyz Y) "FirmStoreLaw" code 7 [Value.ref b] p s m c (fun q => s.heap.size ≤ q)) (hSZ : SZ s.heap.size s s.heap) (hNC : NCx s) {i : Nat} {x4 : Int32} (hiL : i + 4 ≤ L) (hx4 : x4 = nI i) (fin : ∀ (u : SM) (v : SR) (o : Nat → Int64), IV u v → ∀ (H : Heap) (locs : List Loc) (cells slots : Nat) (ls : Array Slot), cells ≤ 16 + (i + 4) → slots ≤ 700 + 6 * (i + 4) → LSt D G GR Y ao (fun q => s.heap.size ≤ q) s.heap H locs u v o → lv_has ls 7 [(4, .int x4), (3, .ref ao), (2, .ref (GR 0)), (1, .ref (G 0)), (0, .ref b)] → W p l e room_1 s m #[Value.ref b] below meth c H locs cells slots (lw_Z below #[Value.ref b] s) (F0 m 556 ls [])) {u : SM} {v : SR} {o : Nat → Int64} (hI : IV u v) {H : Heap} {locs : List Loc} (hLS : LSt D G GR Y ao (fun q => s.heap.size ≤ q) s.heap H locs u v o) {ls : Array Slot} (hl : lv_has ls 7 [(4, .int x4), (3, .ref ao), (2, .ref (GR 0)), (1, .ref (G 0)), (0, .ref b)]) : W p l e room_1 s m #[Value.ref b] below meth c H locs (16 + i) (700 + 6 * i) (lw_Z below #[Value.ref b] s) (F0 m 372 ls []) := by
  obtain ⟨hx, hb, hr, hml, hown, -, hX, hbl, hlocks, hgv⟩ := id C
  obtain ⟨-, -, -, -, hts, hK, hN, hA⟩ := id C0
  have hbA : ¬ (fun q : Nat => s.heap.size ≤ q) b := Nat.not_le.mpr hbl
  have hi1 : vp_in (x4 + (1 : Int32)) L := by rw [hx4, show (1 : Int32) = nI 1 from rfl, nI_add]; exact nI_in (by omega) (by omega)
  have hi2 : vp_in (x4 + (2 : Int32)) L := by rw [hx4, show (2 : Int32) = nI 2 from rfl, nI_add]; exact nI_in (by omega) (by omega)
  have hi3 : vp_in (x4 + (3 : Int32)) L := by rw [hx4, show (3 : Int32) = nI 3 from rfl, nI_add]; exact nI_in (by omega) (by omega)
  refine lv_aload_n hx hb d_law_372 rfl (lv_at hl 3 rfl) ?_
  refine lv_aload_n hx hb d_law_373 rfl (lv_at hl 4 rfl) ?_
  refine lv_iload hx hb d_law_374 (lv_at hl 0 rfl) ?_
  refine lv_iconst (v := (1 : Int32)) hx hb d_law_376 (by decide) ?_
  refine lv_iadd hx hb d_law_377 ?_
  refine va_sld hx hb hX hbl hbA hLS.2.2 hi1 d_law_378 ?_
  refine lv_aload_n hx hb d_law_379 rfl (lv_at hl 4 rfl) ?_
  refine lv_iload hx hb d_law_380 (lv_at hl 0 rfl) ?_
  refine lv_iconst (v := (2 : Int32)) hx hb d_law_382 (by decide) ?_
  refine lv_iadd hx hb d_law_383 ?_
  refine va_sld hx hb hX hbl hbA hLS.2.2 hi2 d_law_384 ?_
  obtain ⟨r, u1, v1, hCm, hRm, hI⟩ := p_order hI ((xs (x4 + (1 : Int32)).toNatClampNeg)) ((xs (x4 + (2 : Int32)).toNatClampNeg))
  refine lcZ (As := [.int (xs (x4 + (1 : Int32)).toNatClampNeg), .int (xs (x4 + (2 : Int32)).toNatClampNeg)]) (rest := []) C0 hLS (k_Firm_order l D G Y hCm) rfl q_109 q_1 q_106 q_107 q_108 e_Firm_order ⟨Nat.le_of_ble_eq_true rfl, Nat.le_of_ble_eq_true rfl⟩ (by show (16 + i) ≤ 601024; omega) (by show (700 + 6 * i) ≤ 7293034; omega) hl.1 rfl (Nat.le_of_ble_eq_true rfl) d_law_385 (fun H locs _ hLS => ?_)
  refine lv_aload_n hx hb d_law_388 rfl (lv_at hl 2 rfl) ?_
  refine lv_aload_n hx hb d_law_389 rfl (lv_at hl 4 rfl) ?_
  refine lv_iload hx hb d_law_390 (lv_at hl 0 rfl) ?_
  refine lv_iconst (v := (1 : Int32)) hx hb d_law_392 (by decide) ?_
  refine lv_iadd hx hb d_law_393 ?_
  refine va_sld hx hb hX hbl hbA hLS.2.2 hi1 d_law_394 ?_
  refine lv_aload_n hx hb d_law_395 rfl (lv_at hl 4 rfl) ?_
  refine lv_iload hx hb d_law_396 (lv_at hl 0 rfl) ?_
  refine lv_iconst (v := (2 : Int32)) hx hb d_law_398 (by decide) ?_
  refine lv_iadd hx hb d_law_399 ?_
  refine va_sld hx hb hX hbl hbA hLS.2.2 hi2 d_law_400 ?_
  refine lrZ (As := [.int (xs (x4 + (1 : Int32)).toNatClampNeg), .int (xs (x4 + (2 : Int32)).toNatClampNeg)]) (rest := [.int r]) C0 hLS (k_Ref_order l D GR Y hRm) rfl q_733 q_6 q_730 q_731 q_732 e_Ref_order ⟨Nat.le_of_ble_eq_true rfl, Nat.le_of_ble_eq_true rfl⟩ (by show (16 + i) ≤ 601024; omega) (by show (700 + 6 * i) ≤ 7293034; omega) hl.1 rfl (Nat.le_of_ble_eq_true rfl) d_law_401 (fun H locs _ hLS => ?_)
  refine lv_icmp_eq (tgt := 556) hx hb d_law_404 (by decide) (fun hc => ?_) (fun hc => absurd rfl hc)
  exact fin u1 v1 o hI _ _ _ _ _ (by omega) (by omega) hLS (lv_sub hl [0, 1, 2, 3, 4] rfl)
set_option maxRecDepth 100000 in
set_option maxHeartbeats 8000000 in
theorem law_c5 {p : Program} {e : Env} {s : State} {m : MethodId} {below : List Frame} {meth : Method} {c : Code} (l : Launch) (hfl : l.flags = flags0) {b L : Nat} {xs : Nat → Int32} (hL : L ≤ 2048) (C : lw_At p s m meth c b L xs) {D : va_G} {G GR : Nat → Nat} {Y : Nat → ClassId} {ao : Nat} (C0 : Ctx l D clz (tyz Y) "FirmStoreLaw" code 7 [Value.ref b] p s m c (fun q => s.heap.size ≤ q)) (hSZ : SZ s.heap.size s s.heap) (hNC : NCx s) {i : Nat} {x4 : Int32} (hiL : i + 4 ≤ L) (hx4 : x4 = nI i) (fin : ∀ (u : SM) (v : SR) (o : Nat → Int64), IV u v → ∀ (H : Heap) (locs : List Loc) (cells slots : Nat) (ls : Array Slot), cells ≤ 16 + (i + 4) → slots ≤ 700 + 6 * (i + 4) → LSt D G GR Y ao (fun q => s.heap.size ≤ q) s.heap H locs u v o → lv_has ls 7 [(4, .int x4), (3, .ref ao), (2, .ref (GR 0)), (1, .ref (G 0)), (0, .ref b)] → W p l e room_1 s m #[Value.ref b] below meth c H locs cells slots (lw_Z below #[Value.ref b] s) (F0 m 556 ls [])) {u : SM} {v : SR} {o : Nat → Int64} (hI : IV u v) {H : Heap} {locs : List Loc} (hLS : LSt D G GR Y ao (fun q => s.heap.size ≤ q) s.heap H locs u v o) {ls : Array Slot} (hl : lv_has ls 7 [(4, .int x4), (3, .ref ao), (2, .ref (GR 0)), (1, .ref (G 0)), (0, .ref b)]) : W p l e room_1 s m #[Value.ref b] below meth c H locs (16 + i) (700 + 6 * i) (lw_Z below #[Value.ref b] s) (F0 m 409 ls []) := by
  obtain ⟨hx, hb, hr, hml, hown, -, hX, hbl, hlocks, hgv⟩ := id C
  obtain ⟨-, -, -, -, hts, hK, hN, hA⟩ := id C0
  have hbA : ¬ (fun q : Nat => s.heap.size ≤ q) b := Nat.not_le.mpr hbl
  have hi1 : vp_in (x4 + (1 : Int32)) L := by rw [hx4, show (1 : Int32) = nI 1 from rfl, nI_add]; exact nI_in (by omega) (by omega)
  have hi2 : vp_in (x4 + (2 : Int32)) L := by rw [hx4, show (2 : Int32) = nI 2 from rfl, nI_add]; exact nI_in (by omega) (by omega)
  have hi3 : vp_in (x4 + (3 : Int32)) L := by rw [hx4, show (3 : Int32) = nI 3 from rfl, nI_add]; exact nI_in (by omega) (by omega)
  refine lv_aload_n hx hb d_law_409 rfl (lv_at hl 3 rfl) ?_
  refine lv_aload_n hx hb d_law_410 rfl (lv_at hl 1 rfl) ?_
  obtain ⟨kk, u1, o1, rv, v1, hKH, hRm, hI, hcd, hout⟩ := x_recover l hfl D G Y ao hI o 
  refine sbH (As := [.ref (G 0), .ref ao]) (rest := []) (X := wdR GR Y v) C0 hKH q_498 q_0 q_496 q_497 e_Law_recover ⟨Nat.le_of_ble_eq_true rfl, Nat.le_of_ble_eq_true rfl⟩ (by show 16 + i + 1 ≤ 601024; omega) (by show 700 + 6 * i + 6 ≤ 7293034; omega) hLS.1 hLS.2.1 hLS.2.2 hl.1 rfl (Nat.le_of_ble_eq_true rfl) d_law_411 hSZ (fun _ _ h => h) (Nat.le_refl _) hNC (fun H locs hP hD hS => ?_)
  have hLS : LSt D G GR Y ao (fun q => s.heap.size ≤ q) s.heap H locs u1 v o1 := ⟨hP, hD, hS⟩
  refine lv_istore (lv' := [(5, .int kk), (4, .int x4), (3, .ref ao), (2, .ref (GR 0)), (1, .ref (G 0)), (0, .ref b)]) hx hb d_law_414 hl (by decide) rfl (fun ls hl => ?_)
  refine lv_aload_n hx hb d_law_416 rfl (lv_at hl 3 rfl) ?_
  refine lrI (As := []) (rest := []) C0 hLS (k_Ref_recover l D GR Y hRm) rfl q_737 q_6 q_734 q_735 q_736 e_Ref_recover ⟨Nat.le_of_ble_eq_true rfl, Nat.le_of_ble_eq_true rfl⟩ (by show (16 + i + 1) ≤ 601024; omega) (by show (700 + 6 * i + 6) ≤ 7293034; omega) hl.1 rfl (Nat.le_of_ble_eq_true rfl) d_law_417 (fun H locs hLS => ?_)
  refine lv_istore (lv' := [(6, .int rv), (5, .int kk), (4, .int x4), (3, .ref ao), (2, .ref (GR 0)), (1, .ref (G 0)), (0, .ref b)]) hx hb d_law_420 hl (by decide) rfl (fun ls hl => ?_)
  refine lv_aload_n hx hb d_law_422 rfl (lv_at hl 4 rfl) ?_
  refine lrI (As := []) (rest := []) C0 hLS (k_Ref_thrown l D GR Y (show m_Ref_thrown v1 = some (rg_cd v1, v1) from rfl)) rfl q_578 q_6 q_575 q_576 q_577 e_Ref_thrown ⟨Nat.le_of_ble_eq_true rfl, Nat.le_of_ble_eq_true rfl⟩ (by show (16 + i + 1) ≤ 601024; omega) (by show (700 + 6 * i + 6) ≤ 7293034; omega) hl.1 rfl (Nat.le_of_ble_eq_true rfl) d_law_423 (fun H locs hLS => ?_)
  refine lv_iload hx hb d_law_426 (lv_at hl 1 rfl) ?_
  refine lv_icmp_eq (tgt := 433) hx hb d_law_428 (by decide) (fun hc => ?_) (fun hc => absurd hcd hc)
  refine lv_iload hx hb d_law_433 (lv_at hl 1 rfl) ?_
  refine lv_if_ne (tgt := 450) hx hb d_law_435 (by decide) (fun hc => ?_) (fun hc => ?_)
  · refine lv_goto (tgt := 556) hx hb d_law_450 (by decide) ?_
    exact fin u1 v1 o1 hI _ _ _ _ _ (by omega) (by omega) hLS (lv_sub hl [2, 3, 4, 5, 6] rfl)
  · refine lv_aload_n hx hb d_law_438 rfl (lv_at hl 3 rfl) ?_
    refine lv_iconst (v := (0 : Int32)) hx hb d_law_439 (by decide) ?_
    refine va_lald hx hb hK hLS.1 8 0 (f := o1) rfl rfl (inb_in rfl) d_law_440 ?_
    refine lv_iload hx hb d_law_441 (lv_at hl 0 rfl) ?_
    refine lv_i2l (v := (rv.toInt64)) hx hb d_law_443 rfl ?_
    refine W.lcmp hx hb d_law_444 ?_
    refine lv_if_eq (tgt := 450) hx hb d_law_445 (by decide) (fun hc2 => ?_) (fun hc2 => absurd ((lg_cmp_eq _ _).mpr (hout hc)) hc2)
    refine lv_goto (tgt := 556) hx hb d_law_450 (by decide) ?_
    exact fin u1 v1 o1 hI _ _ _ _ _ (by omega) (by omega) hLS (lv_sub hl [2, 3, 4, 5, 6] rfl)
set_option maxRecDepth 100000 in
set_option maxHeartbeats 8000000 in
theorem law_c6 {p : Program} {e : Env} {s : State} {m : MethodId} {below : List Frame} {meth : Method} {c : Code} (l : Launch) (hfl : l.flags = flags0) {b L : Nat} {xs : Nat → Int32} (hL : L ≤ 2048) (C : lw_At p s m meth c b L xs) {D : va_G} {G GR : Nat → Nat} {Y : Nat → ClassId} {ao : Nat} (C0 : Ctx l D clz (tyz Y) "FirmStoreLaw" code 7 [Value.ref b] p s m c (fun q => s.heap.size ≤ q)) (hSZ : SZ s.heap.size s s.heap) (hNC : NCx s) {i : Nat} {x4 : Int32} (hiL : i + 4 ≤ L) (hx4 : x4 = nI i) (fin : ∀ (u : SM) (v : SR) (o : Nat → Int64), IV u v → ∀ (H : Heap) (locs : List Loc) (cells slots : Nat) (ls : Array Slot), cells ≤ 16 + (i + 4) → slots ≤ 700 + 6 * (i + 4) → LSt D G GR Y ao (fun q => s.heap.size ≤ q) s.heap H locs u v o → lv_has ls 7 [(4, .int x4), (3, .ref ao), (2, .ref (GR 0)), (1, .ref (G 0)), (0, .ref b)] → W p l e room_1 s m #[Value.ref b] below meth c H locs cells slots (lw_Z below #[Value.ref b] s) (F0 m 556 ls [])) {u : SM} {v : SR} {o : Nat → Int64} (hI : IV u v) {H : Heap} {locs : List Loc} (hLS : LSt D G GR Y ao (fun q => s.heap.size ≤ q) s.heap H locs u v o) {ls : Array Slot} (hl : lv_has ls 7 [(4, .int x4), (3, .ref ao), (2, .ref (GR 0)), (1, .ref (G 0)), (0, .ref b)]) : W p l e room_1 s m #[Value.ref b] below meth c H locs (16 + i) (700 + 6 * i) (lw_Z below #[Value.ref b] s) (F0 m 453 ls []) := by
  obtain ⟨hx, hb, hr, hml, hown, -, hX, hbl, hlocks, hgv⟩ := id C
  obtain ⟨-, -, -, -, hts, hK, hN, hA⟩ := id C0
  have hbA : ¬ (fun q : Nat => s.heap.size ≤ q) b := Nat.not_le.mpr hbl
  have hi1 : vp_in (x4 + (1 : Int32)) L := by rw [hx4, show (1 : Int32) = nI 1 from rfl, nI_add]; exact nI_in (by omega) (by omega)
  have hi2 : vp_in (x4 + (2 : Int32)) L := by rw [hx4, show (2 : Int32) = nI 2 from rfl, nI_add]; exact nI_in (by omega) (by omega)
  have hi3 : vp_in (x4 + (3 : Int32)) L := by rw [hx4, show (3 : Int32) = nI 3 from rfl, nI_add]; exact nI_in (by omega) (by omega)
  refine lv_aload_n hx hb d_law_453 rfl (lv_at hl 3 rfl) ?_
  refine lv_aload_n hx hb d_law_454 rfl (lv_at hl 4 rfl) ?_
  refine lv_iload hx hb d_law_455 (lv_at hl 0 rfl) ?_
  refine lv_iconst (v := (1 : Int32)) hx hb d_law_457 (by decide) ?_
  refine lv_iadd hx hb d_law_458 ?_
  refine va_sld hx hb hX hbl hbA hLS.2.2 hi1 d_law_459 ?_
  obtain ⟨r, v1, hCm, hRm, hI⟩ := p_size hI ((xs (x4 + (1 : Int32)).toNatClampNeg))
  refine lcI (As := [.int (xs (x4 + (1 : Int32)).toNatClampNeg)]) (rest := []) C0 hLS (k_Firm_size l D G Y hCm) rfl q_117 q_1 q_114 q_115 q_116 e_Firm_size ⟨Nat.le_of_ble_eq_true rfl, Nat.le_of_ble_eq_true rfl⟩ (by show (16 + i) ≤ 601024; omega) (by show (700 + 6 * i) ≤ 7293034; omega) hl.1 rfl (Nat.le_of_ble_eq_true rfl) d_law_460 (fun H locs hLS => ?_)
  refine lv_aload_n hx hb d_law_463 rfl (lv_at hl 2 rfl) ?_
  refine lv_aload_n hx hb d_law_464 rfl (lv_at hl 4 rfl) ?_
  refine lv_iload hx hb d_law_465 (lv_at hl 0 rfl) ?_
  refine lv_iconst (v := (1 : Int32)) hx hb d_law_467 (by decide) ?_
  refine lv_iadd hx hb d_law_468 ?_
  refine va_sld hx hb hX hbl hbA hLS.2.2 hi1 d_law_469 ?_
  refine lrI (As := [.int (xs (x4 + (1 : Int32)).toNatClampNeg)]) (rest := [.int r]) C0 hLS (k_Ref_size l D GR Y hRm) rfl q_757 q_6 q_754 q_755 q_756 e_Ref_size ⟨Nat.le_of_ble_eq_true rfl, Nat.le_of_ble_eq_true rfl⟩ (by show (16 + i) ≤ 601024; omega) (by show (700 + 6 * i) ≤ 7293034; omega) hl.1 rfl (Nat.le_of_ble_eq_true rfl) d_law_470 (fun H locs hLS => ?_)
  refine lv_icmp_eq (tgt := 556) hx hb d_law_473 (by decide) (fun hc => ?_) (fun hc => absurd rfl hc)
  exact fin u v1 o hI _ _ _ _ _ (by omega) (by omega) hLS (lv_sub hl [0, 1, 2, 3, 4] rfl)
set_option maxRecDepth 100000 in
set_option maxHeartbeats 8000000 in
theorem law_c7 {p : Program} {e : Env} {s : State} {m : MethodId} {below : List Frame} {meth : Method} {c : Code} (l : Launch) (hfl : l.flags = flags0) {b L : Nat} {xs : Nat → Int32} (hL : L ≤ 2048) (C : lw_At p s m meth c b L xs) {D : va_G} {G GR : Nat → Nat} {Y : Nat → ClassId} {ao : Nat} (C0 : Ctx l D clz (tyz Y) "FirmStoreLaw" code 7 [Value.ref b] p s m c (fun q => s.heap.size ≤ q)) (hSZ : SZ s.heap.size s s.heap) (hNC : NCx s) {i : Nat} {x4 : Int32} (hiL : i + 4 ≤ L) (hx4 : x4 = nI i) (fin : ∀ (u : SM) (v : SR) (o : Nat → Int64), IV u v → ∀ (H : Heap) (locs : List Loc) (cells slots : Nat) (ls : Array Slot), cells ≤ 16 + (i + 4) → slots ≤ 700 + 6 * (i + 4) → LSt D G GR Y ao (fun q => s.heap.size ≤ q) s.heap H locs u v o → lv_has ls 7 [(4, .int x4), (3, .ref ao), (2, .ref (GR 0)), (1, .ref (G 0)), (0, .ref b)] → W p l e room_1 s m #[Value.ref b] below meth c H locs cells slots (lw_Z below #[Value.ref b] s) (F0 m 556 ls [])) {u : SM} {v : SR} {o : Nat → Int64} (hI : IV u v) {H : Heap} {locs : List Loc} (hLS : LSt D G GR Y ao (fun q => s.heap.size ≤ q) s.heap H locs u v o) {ls : Array Slot} (hl : lv_has ls 7 [(4, .int x4), (3, .ref ao), (2, .ref (GR 0)), (1, .ref (G 0)), (0, .ref b)]) : W p l e room_1 s m #[Value.ref b] below meth c H locs (16 + i) (700 + 6 * i) (lw_Z below #[Value.ref b] s) (F0 m 478 ls []) := by
  obtain ⟨hx, hb, hr, hml, hown, -, hX, hbl, hlocks, hgv⟩ := id C
  obtain ⟨-, -, -, -, hts, hK, hN, hA⟩ := id C0
  have hbA : ¬ (fun q : Nat => s.heap.size ≤ q) b := Nat.not_le.mpr hbl
  have hi1 : vp_in (x4 + (1 : Int32)) L := by rw [hx4, show (1 : Int32) = nI 1 from rfl, nI_add]; exact nI_in (by omega) (by omega)
  have hi2 : vp_in (x4 + (2 : Int32)) L := by rw [hx4, show (2 : Int32) = nI 2 from rfl, nI_add]; exact nI_in (by omega) (by omega)
  have hi3 : vp_in (x4 + (3 : Int32)) L := by rw [hx4, show (3 : Int32) = nI 3 from rfl, nI_add]; exact nI_in (by omega) (by omega)
  refine lv_aload_n hx hb d_law_478 rfl (lv_at hl 3 rfl) ?_
  obtain ⟨r, v1, hCm, hRm, hI⟩ := p_free hI 
  refine lcI (As := []) (rest := []) C0 hLS (k_Firm_free l D G Y hCm) rfl q_194 q_1 q_191 q_192 q_193 e_Firm_free ⟨Nat.le_of_ble_eq_true rfl, Nat.le_of_ble_eq_true rfl⟩ (by show (16 + i) ≤ 601024; omega) (by show (700 + 6 * i) ≤ 7293034; omega) hl.1 rfl (Nat.le_of_ble_eq_true rfl) d_law_479 (fun H locs hLS => ?_)
  refine lv_aload_n hx hb d_law_482 rfl (lv_at hl 2 rfl) ?_
  refine lrI (As := []) (rest := [.int r]) C0 hLS (k_Ref_free l D GR Y hRm) rfl q_761 q_6 q_758 q_759 q_760 e_Ref_free ⟨Nat.le_of_ble_eq_true rfl, Nat.le_of_ble_eq_true rfl⟩ (by show (16 + i) ≤ 601024; omega) (by show (700 + 6 * i) ≤ 7293034; omega) hl.1 rfl (Nat.le_of_ble_eq_true rfl) d_law_483 (fun H locs hLS => ?_)
  refine lv_icmp_eq (tgt := 556) hx hb d_law_486 (by decide) (fun hc => ?_) (fun hc => absurd rfl hc)
  exact fin u v1 o hI _ _ _ _ _ (by omega) (by omega) hLS (lv_sub hl [0, 1, 2, 3, 4] rfl)
set_option maxRecDepth 100000 in
set_option maxHeartbeats 8000000 in
theorem law_c8 {p : Program} {e : Env} {s : State} {m : MethodId} {below : List Frame} {meth : Method} {c : Code} (l : Launch) (hfl : l.flags = flags0) {b L : Nat} {xs : Nat → Int32} (hL : L ≤ 2048) (C : lw_At p s m meth c b L xs) {D : va_G} {G GR : Nat → Nat} {Y : Nat → ClassId} {ao : Nat} (C0 : Ctx l D clz (tyz Y) "FirmStoreLaw" code 7 [Value.ref b] p s m c (fun q => s.heap.size ≤ q)) (hSZ : SZ s.heap.size s s.heap) (hNC : NCx s) {i : Nat} {x4 : Int32} (hiL : i + 4 ≤ L) (hx4 : x4 = nI i) (fin : ∀ (u : SM) (v : SR) (o : Nat → Int64), IV u v → ∀ (H : Heap) (locs : List Loc) (cells slots : Nat) (ls : Array Slot), cells ≤ 16 + (i + 4) → slots ≤ 700 + 6 * (i + 4) → LSt D G GR Y ao (fun q => s.heap.size ≤ q) s.heap H locs u v o → lv_has ls 7 [(4, .int x4), (3, .ref ao), (2, .ref (GR 0)), (1, .ref (G 0)), (0, .ref b)] → W p l e room_1 s m #[Value.ref b] below meth c H locs cells slots (lw_Z below #[Value.ref b] s) (F0 m 556 ls [])) {u : SM} {v : SR} {o : Nat → Int64} (hI : IV u v) {H : Heap} {locs : List Loc} (hLS : LSt D G GR Y ao (fun q => s.heap.size ≤ q) s.heap H locs u v o) {ls : Array Slot} (hl : lv_has ls 7 [(4, .int x4), (3, .ref ao), (2, .ref (GR 0)), (1, .ref (G 0)), (0, .ref b)]) : W p l e room_1 s m #[Value.ref b] below meth c H locs (16 + i) (700 + 6 * i) (lw_Z below #[Value.ref b] s) (F0 m 491 ls []) := by
  obtain ⟨hx, hb, hr, hml, hown, -, hX, hbl, hlocks, hgv⟩ := id C
  obtain ⟨-, -, -, -, hts, hK, hN, hA⟩ := id C0
  have hbA : ¬ (fun q : Nat => s.heap.size ≤ q) b := Nat.not_le.mpr hbl
  have hi1 : vp_in (x4 + (1 : Int32)) L := by rw [hx4, show (1 : Int32) = nI 1 from rfl, nI_add]; exact nI_in (by omega) (by omega)
  have hi2 : vp_in (x4 + (2 : Int32)) L := by rw [hx4, show (2 : Int32) = nI 2 from rfl, nI_add]; exact nI_in (by omega) (by omega)
  have hi3 : vp_in (x4 + (3 : Int32)) L := by rw [hx4, show (3 : Int32) = nI 3 from rfl, nI_add]; exact nI_in (by omega) (by omega)
  refine lv_aload_n hx hb d_law_491 rfl (lv_at hl 3 rfl) ?_
  obtain ⟨r, v1, hCm, hRm, hI⟩ := p_height hI 
  refine lcI (As := []) (rest := []) C0 hLS (k_Firm_height l D G Y hCm) rfl q_222 q_1 q_219 q_220 q_221 e_Firm_height ⟨Nat.le_of_ble_eq_true rfl, Nat.le_of_ble_eq_true rfl⟩ (by show (16 + i) ≤ 601024; omega) (by show (700 + 6 * i) ≤ 7293034; omega) hl.1 rfl (Nat.le_of_ble_eq_true rfl) d_law_492 (fun H locs hLS => ?_)
  refine lv_aload_n hx hb d_law_495 rfl (lv_at hl 2 rfl) ?_
  refine lrI (As := []) (rest := [.int r]) C0 hLS (k_Ref_height l D GR Y hRm) rfl q_765 q_6 q_762 q_763 q_764 e_Ref_height ⟨Nat.le_of_ble_eq_true rfl, Nat.le_of_ble_eq_true rfl⟩ (by show (16 + i) ≤ 601024; omega) (by show (700 + 6 * i) ≤ 7293034; omega) hl.1 rfl (Nat.le_of_ble_eq_true rfl) d_law_496 (fun H locs hLS => ?_)
  refine lv_icmp_eq (tgt := 556) hx hb d_law_499 (by decide) (fun hc => ?_) (fun hc => absurd rfl hc)
  exact fin u v1 o hI _ _ _ _ _ (by omega) (by omega) hLS (lv_sub hl [0, 1, 2, 3, 4] rfl)
set_option maxRecDepth 100000 in
set_option maxHeartbeats 8000000 in
theorem law_c9 {p : Program} {e : Env} {s : State} {m : MethodId} {below : List Frame} {meth : Method} {c : Code} (l : Launch) (hfl : l.flags = flags0) {b L : Nat} {xs : Nat → Int32} (hL : L ≤ 2048) (C : lw_At p s m meth c b L xs) {D : va_G} {G GR : Nat → Nat} {Y : Nat → ClassId} {ao : Nat} (C0 : Ctx l D clz (tyz Y) "FirmStoreLaw" code 7 [Value.ref b] p s m c (fun q => s.heap.size ≤ q)) (hSZ : SZ s.heap.size s s.heap) (hNC : NCx s) {i : Nat} {x4 : Int32} (hiL : i + 4 ≤ L) (hx4 : x4 = nI i) (fin : ∀ (u : SM) (v : SR) (o : Nat → Int64), IV u v → ∀ (H : Heap) (locs : List Loc) (cells slots : Nat) (ls : Array Slot), cells ≤ 16 + (i + 4) → slots ≤ 700 + 6 * (i + 4) → LSt D G GR Y ao (fun q => s.heap.size ≤ q) s.heap H locs u v o → lv_has ls 7 [(4, .int x4), (3, .ref ao), (2, .ref (GR 0)), (1, .ref (G 0)), (0, .ref b)] → W p l e room_1 s m #[Value.ref b] below meth c H locs cells slots (lw_Z below #[Value.ref b] s) (F0 m 556 ls [])) {u : SM} {v : SR} {o : Nat → Int64} (hI : IV u v) {H : Heap} {locs : List Loc} (hLS : LSt D G GR Y ao (fun q => s.heap.size ≤ q) s.heap H locs u v o) {ls : Array Slot} (hl : lv_has ls 7 [(4, .int x4), (3, .ref ao), (2, .ref (GR 0)), (1, .ref (G 0)), (0, .ref b)]) : W p l e room_1 s m #[Value.ref b] below meth c H locs (16 + i) (700 + 6 * i) (lw_Z below #[Value.ref b] s) (F0 m 504 ls []) := by
  obtain ⟨hx, hb, hr, hml, hown, -, hX, hbl, hlocks, hgv⟩ := id C
  obtain ⟨-, -, -, -, hts, hK, hN, hA⟩ := id C0
  have hbA : ¬ (fun q : Nat => s.heap.size ≤ q) b := Nat.not_le.mpr hbl
  have hi1 : vp_in (x4 + (1 : Int32)) L := by rw [hx4, show (1 : Int32) = nI 1 from rfl, nI_add]; exact nI_in (by omega) (by omega)
  have hi2 : vp_in (x4 + (2 : Int32)) L := by rw [hx4, show (2 : Int32) = nI 2 from rfl, nI_add]; exact nI_in (by omega) (by omega)
  have hi3 : vp_in (x4 + (3 : Int32)) L := by rw [hx4, show (3 : Int32) = nI 3 from rfl, nI_add]; exact nI_in (by omega) (by omega)
  refine lv_aload_n hx hb d_law_504 rfl (lv_at hl 3 rfl) ?_
  refine lv_aload_n hx hb d_law_505 rfl (lv_at hl 4 rfl) ?_
  refine lv_iload hx hb d_law_506 (lv_at hl 0 rfl) ?_
  refine lv_iconst (v := (1 : Int32)) hx hb d_law_508 (by decide) ?_
  refine lv_iadd hx hb d_law_509 ?_
  refine va_sld hx hb hX hbl hbA hLS.2.2 hi1 d_law_510 ?_
  obtain ⟨r, v1, hCm, hRm, hI⟩ := p_word hI ((xs (x4 + (1 : Int32)).toNatClampNeg))
  refine lcL (As := [.int (xs (x4 + (1 : Int32)).toNatClampNeg)]) (rest := []) C0 hLS (k_Firm_word l D G Y hCm) rfl q_230 q_1 q_227 q_228 q_229 e_Firm_word ⟨Nat.le_of_ble_eq_true rfl, Nat.le_of_ble_eq_true rfl⟩ (by show (16 + i) ≤ 601024; omega) (by show (700 + 6 * i) ≤ 7293034; omega) hl.1 rfl (Nat.le_of_ble_eq_true rfl) d_law_511 (fun H locs hLS => ?_)
  refine lv_aload_n hx hb d_law_514 rfl (lv_at hl 2 rfl) ?_
  refine lv_aload_n hx hb d_law_515 rfl (lv_at hl 4 rfl) ?_
  refine lv_iload hx hb d_law_516 (lv_at hl 0 rfl) ?_
  refine lv_iconst (v := (1 : Int32)) hx hb d_law_518 (by decide) ?_
  refine lv_iadd hx hb d_law_519 ?_
  refine va_sld hx hb hX hbl hbA hLS.2.2 hi1 d_law_520 ?_
  refine lrL (As := [.int (xs (x4 + (1 : Int32)).toNatClampNeg)]) (rest := [.long r]) C0 hLS (k_Ref_word l D GR Y hRm) rfl q_769 q_6 q_766 q_767 q_768 e_Ref_word ⟨Nat.le_of_ble_eq_true rfl, Nat.le_of_ble_eq_true rfl⟩ (by show (16 + i) ≤ 601024; omega) (by show (700 + 6 * i) ≤ 7293034; omega) hl.1 rfl (Nat.le_of_ble_eq_true rfl) d_law_521 (fun H locs hLS => ?_)
  refine W.lcmp hx hb d_law_524 ?_
  refine lv_if_eq (tgt := 556) hx hb d_law_525 (by decide) (fun hc => ?_) (fun hc => absurd ((lg_cmp_eq _ _).mpr rfl) hc)
  exact fin u v1 o hI _ _ _ _ _ (by omega) (by omega) hLS (lv_sub hl [0, 1, 2, 3, 4] rfl)
set_option maxRecDepth 100000 in
set_option maxHeartbeats 8000000 in
theorem law_c10 {p : Program} {e : Env} {s : State} {m : MethodId} {below : List Frame} {meth : Method} {c : Code} (l : Launch) (hfl : l.flags = flags0) {b L : Nat} {xs : Nat → Int32} (hL : L ≤ 2048) (C : lw_At p s m meth c b L xs) {D : va_G} {G GR : Nat → Nat} {Y : Nat → ClassId} {ao : Nat} (C0 : Ctx l D clz (tyz Y) "FirmStoreLaw" code 7 [Value.ref b] p s m c (fun q => s.heap.size ≤ q)) (hSZ : SZ s.heap.size s s.heap) (hNC : NCx s) {i : Nat} {x4 : Int32} (hiL : i + 4 ≤ L) (hx4 : x4 = nI i) (fin : ∀ (u : SM) (v : SR) (o : Nat → Int64), IV u v → ∀ (H : Heap) (locs : List Loc) (cells slots : Nat) (ls : Array Slot), cells ≤ 16 + (i + 4) → slots ≤ 700 + 6 * (i + 4) → LSt D G GR Y ao (fun q => s.heap.size ≤ q) s.heap H locs u v o → lv_has ls 7 [(4, .int x4), (3, .ref ao), (2, .ref (GR 0)), (1, .ref (G 0)), (0, .ref b)] → W p l e room_1 s m #[Value.ref b] below meth c H locs cells slots (lw_Z below #[Value.ref b] s) (F0 m 556 ls [])) {u : SM} {v : SR} {o : Nat → Int64} (hI : IV u v) {H : Heap} {locs : List Loc} (hLS : LSt D G GR Y ao (fun q => s.heap.size ≤ q) s.heap H locs u v o) {ls : Array Slot} (hl : lv_has ls 7 [(4, .int x4), (3, .ref ao), (2, .ref (GR 0)), (1, .ref (G 0)), (0, .ref b)]) : W p l e room_1 s m #[Value.ref b] below meth c H locs (16 + i) (700 + 6 * i) (lw_Z below #[Value.ref b] s) (F0 m 530 ls []) := by
  obtain ⟨hx, hb, hr, hml, hown, -, hX, hbl, hlocks, hgv⟩ := id C
  obtain ⟨-, -, -, -, hts, hK, hN, hA⟩ := id C0
  have hbA : ¬ (fun q : Nat => s.heap.size ≤ q) b := Nat.not_le.mpr hbl
  have hi1 : vp_in (x4 + (1 : Int32)) L := by rw [hx4, show (1 : Int32) = nI 1 from rfl, nI_add]; exact nI_in (by omega) (by omega)
  have hi2 : vp_in (x4 + (2 : Int32)) L := by rw [hx4, show (2 : Int32) = nI 2 from rfl, nI_add]; exact nI_in (by omega) (by omega)
  have hi3 : vp_in (x4 + (3 : Int32)) L := by rw [hx4, show (3 : Int32) = nI 3 from rfl, nI_add]; exact nI_in (by omega) (by omega)
  refine lv_aload_n hx hb d_law_530 rfl (lv_at hl 3 rfl) ?_
  obtain ⟨r, v1, hCm, hRm, hI⟩ := p_stores hI 
  refine lcI (As := []) (rest := []) C0 hLS (k_Firm_stores l D G Y hCm) rfl q_235 q_1 q_232 q_233 q_234 e_Firm_stores ⟨Nat.le_of_ble_eq_true rfl, Nat.le_of_ble_eq_true rfl⟩ (by show (16 + i) ≤ 601024; omega) (by show (700 + 6 * i) ≤ 7293034; omega) hl.1 rfl (Nat.le_of_ble_eq_true rfl) d_law_531 (fun H locs hLS => ?_)
  refine lv_aload_n hx hb d_law_534 rfl (lv_at hl 2 rfl) ?_
  refine lrI (As := []) (rest := [.int r]) C0 hLS (k_Ref_stores l D GR Y hRm) rfl q_773 q_6 q_770 q_771 q_772 e_Ref_stores ⟨Nat.le_of_ble_eq_true rfl, Nat.le_of_ble_eq_true rfl⟩ (by show (16 + i) ≤ 601024; omega) (by show (700 + 6 * i) ≤ 7293034; omega) hl.1 rfl (Nat.le_of_ble_eq_true rfl) d_law_535 (fun H locs hLS => ?_)
  refine lv_icmp_eq (tgt := 556) hx hb d_law_538 (by decide) (fun hc => ?_) (fun hc => absurd rfl hc)
  exact fin u v1 o hI _ _ _ _ _ (by omega) (by omega) hLS (lv_sub hl [0, 1, 2, 3, 4] rfl)
set_option maxRecDepth 100000 in
set_option maxHeartbeats 8000000 in
theorem law_c11 {p : Program} {e : Env} {s : State} {m : MethodId} {below : List Frame} {meth : Method} {c : Code} (l : Launch) (hfl : l.flags = flags0) {b L : Nat} {xs : Nat → Int32} (hL : L ≤ 2048) (C : lw_At p s m meth c b L xs) {D : va_G} {G GR : Nat → Nat} {Y : Nat → ClassId} {ao : Nat} (C0 : Ctx l D clz (tyz Y) "FirmStoreLaw" code 7 [Value.ref b] p s m c (fun q => s.heap.size ≤ q)) (hSZ : SZ s.heap.size s s.heap) (hNC : NCx s) {i : Nat} {x4 : Int32} (hiL : i + 4 ≤ L) (hx4 : x4 = nI i) (fin : ∀ (u : SM) (v : SR) (o : Nat → Int64), IV u v → ∀ (H : Heap) (locs : List Loc) (cells slots : Nat) (ls : Array Slot), cells ≤ 16 + (i + 4) → slots ≤ 700 + 6 * (i + 4) → LSt D G GR Y ao (fun q => s.heap.size ≤ q) s.heap H locs u v o → lv_has ls 7 [(4, .int x4), (3, .ref ao), (2, .ref (GR 0)), (1, .ref (G 0)), (0, .ref b)] → W p l e room_1 s m #[Value.ref b] below meth c H locs cells slots (lw_Z below #[Value.ref b] s) (F0 m 556 ls [])) {u : SM} {v : SR} {o : Nat → Int64} (hI : IV u v) {H : Heap} {locs : List Loc} (hLS : LSt D G GR Y ao (fun q => s.heap.size ≤ q) s.heap H locs u v o) {ls : Array Slot} (hl : lv_has ls 7 [(4, .int x4), (3, .ref ao), (2, .ref (GR 0)), (1, .ref (G 0)), (0, .ref b)]) : W p l e room_1 s m #[Value.ref b] below meth c H locs (16 + i) (700 + 6 * i) (lw_Z below #[Value.ref b] s) (F0 m 543 ls []) := by
  obtain ⟨hx, hb, hr, hml, hown, -, hX, hbl, hlocks, hgv⟩ := id C
  obtain ⟨-, -, -, -, hts, hK, hN, hA⟩ := id C0
  have hbA : ¬ (fun q : Nat => s.heap.size ≤ q) b := Nat.not_le.mpr hbl
  have hi1 : vp_in (x4 + (1 : Int32)) L := by rw [hx4, show (1 : Int32) = nI 1 from rfl, nI_add]; exact nI_in (by omega) (by omega)
  have hi2 : vp_in (x4 + (2 : Int32)) L := by rw [hx4, show (2 : Int32) = nI 2 from rfl, nI_add]; exact nI_in (by omega) (by omega)
  have hi3 : vp_in (x4 + (3 : Int32)) L := by rw [hx4, show (3 : Int32) = nI 3 from rfl, nI_add]; exact nI_in (by omega) (by omega)
  refine lv_aload_n hx hb d_law_543 rfl (lv_at hl 3 rfl) ?_
  obtain ⟨r, v1, hCm, hRm, hI⟩ := p_down hI 
  refine lcZ (As := []) (rest := []) C0 hLS (k_Firm_down l D G Y hCm) rfl q_239 q_1 q_236 q_237 q_238 e_Firm_down ⟨Nat.le_of_ble_eq_true rfl, Nat.le_of_ble_eq_true rfl⟩ (by show (16 + i) ≤ 601024; omega) (by show (700 + 6 * i) ≤ 7293034; omega) hl.1 rfl (Nat.le_of_ble_eq_true rfl) d_law_544 (fun H locs _ hLS => ?_)
  refine lv_aload_n hx hb d_law_547 rfl (lv_at hl 2 rfl) ?_
  refine lrZ (As := []) (rest := [.int r]) C0 hLS (k_Ref_down l D GR Y hRm) rfl q_777 q_6 q_774 q_775 q_776 e_Ref_down ⟨Nat.le_of_ble_eq_true rfl, Nat.le_of_ble_eq_true rfl⟩ (by show (16 + i) ≤ 601024; omega) (by show (700 + 6 * i) ≤ 7293034; omega) hl.1 rfl (Nat.le_of_ble_eq_true rfl) d_law_548 (fun H locs _ hLS => ?_)
  refine lv_icmp_eq (tgt := 556) hx hb d_law_551 (by decide) (fun hc => ?_) (fun hc => absurd rfl hc)
  exact fin u v1 o hI _ _ _ _ _ (by omega) (by omega) hLS (lv_sub hl [0, 1, 2, 3, 4] rfl)
