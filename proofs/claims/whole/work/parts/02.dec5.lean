theorem dX11_init_0 : decode cX11_init 0 = .ok (.aload_n 0, 1) := by decide +kernel
theorem dX11_init_1 : decode cX11_init 1 = .ok (.invokespecial 1, 3) := by decide +kernel
theorem dX11_init_4 : decode cX11_init 4 = .ok (.aload_n 0, 1) := by decide +kernel
theorem dX11_init_5 : decode cX11_init 5 = .ok (.sipush 2000, 3) := by decide +kernel
theorem dX11_init_8 : decode cX11_init 8 = .ok (.newarray .int, 2) := by decide +kernel
theorem dX11_init_10 : decode cX11_init 10 = .ok (.putfield 7, 3) := by decide +kernel
theorem dX11_init_13 : decode cX11_init 13 = .ok (.aload_n 0, 1) := by decide +kernel
theorem dX11_init_14 : decode cX11_init 14 = .ok (.sipush 4000, 3) := by decide +kernel
theorem dX11_init_17 : decode cX11_init 17 = .ok (.newarray .int, 2) := by decide +kernel
theorem dX11_init_19 : decode cX11_init 19 = .ok (.putfield 13, 3) := by decide +kernel
theorem dX11_init_22 : decode cX11_init 22 = .ok (.aload_n 0, 1) := by decide +kernel
theorem dX11_init_23 : decode cX11_init 23 = .ok (.iconst 2, 1) := by decide +kernel
theorem dX11_init_24 : decode cX11_init 24 = .ok (.newarray .int, 2) := by decide +kernel
theorem dX11_init_26 : decode cX11_init 26 = .ok (.putfield 16, 3) := by decide +kernel
theorem dX11_init_29 : decode cX11_init 29 = .ok (.aload_n 0, 1) := by decide +kernel
theorem dX11_init_30 : decode cX11_init 30 = .ok (.bipush 16, 2) := by decide +kernel
theorem dX11_init_32 : decode cX11_init 32 = .ok (.newarray .int, 2) := by decide +kernel
theorem dX11_init_34 : decode cX11_init 34 = .ok (.putfield 19, 3) := by decide +kernel
theorem dX11_init_37 : decode cX11_init 37 = .ok (.aload_n 0, 1) := by decide +kernel
theorem dX11_init_38 : decode cX11_init 38 = .ok (.bipush 16, 2) := by decide +kernel
theorem dX11_init_40 : decode cX11_init 40 = .ok (.newarray .int, 2) := by decide +kernel
theorem dX11_init_42 : decode cX11_init 42 = .ok (.putfield 22, 3) := by decide +kernel
theorem dX11_init_45 : decode cX11_init 45 = .ok (.aload_n 0, 1) := by decide +kernel
theorem dX11_init_46 : decode cX11_init 46 = .ok (.bipush 16, 2) := by decide +kernel
theorem dX11_init_48 : decode cX11_init 48 = .ok (.newarray .int, 2) := by decide +kernel
theorem dX11_init_50 : decode cX11_init 50 = .ok (.putfield 25, 3) := by decide +kernel
theorem dX11_init_53 : decode cX11_init 53 = .ok (.aload_n 0, 1) := by decide +kernel
theorem dX11_init_54 : decode cX11_init 54 = .ok (.bipush 16, 2) := by decide +kernel
theorem dX11_init_56 : decode cX11_init 56 = .ok (.newarray .int, 2) := by decide +kernel
theorem dX11_init_58 : decode cX11_init 58 = .ok (.putfield 28, 3) := by decide +kernel
theorem dX11_init_61 : decode cX11_init 61 = .ok (.aload_n 0, 1) := by decide +kernel
theorem dX11_init_62 : decode cX11_init 62 = .ok (.bipush 16, 2) := by decide +kernel
theorem dX11_init_64 : decode cX11_init 64 = .ok (.newarray .int, 2) := by decide +kernel
theorem dX11_init_66 : decode cX11_init 66 = .ok (.putfield 31, 3) := by decide +kernel
theorem dX11_init_69 : decode cX11_init 69 = .ok (.aload_n 0, 1) := by decide +kernel
theorem dX11_init_70 : decode cX11_init 70 = .ok (.bipush 16, 2) := by decide +kernel
theorem dX11_init_72 : decode cX11_init 72 = .ok (.newarray .int, 2) := by decide +kernel
theorem dX11_init_74 : decode cX11_init 74 = .ok (.putfield 34, 3) := by decide +kernel
theorem dX11_init_77 : decode cX11_init 77 = .ok (.aload_n 0, 1) := by decide +kernel
theorem dX11_init_78 : decode cX11_init 78 = .ok (.bipush 16, 2) := by decide +kernel
theorem dX11_init_80 : decode cX11_init 80 = .ok (.newarray .int, 2) := by decide +kernel
theorem dX11_init_82 : decode cX11_init 82 = .ok (.putfield 37, 3) := by decide +kernel
theorem dX11_init_85 : decode cX11_init 85 = .ok (.aload_n 0, 1) := by decide +kernel
theorem dX11_init_86 : decode cX11_init 86 = .ok (.sipush 192, 3) := by decide +kernel
theorem dX11_init_89 : decode cX11_init 89 = .ok (.newarray .int, 2) := by decide +kernel
theorem dX11_init_91 : decode cX11_init 91 = .ok (.putfield 40, 3) := by decide +kernel
theorem dX11_init_94 : decode cX11_init 94 = .ok (.aload_n 0, 1) := by decide +kernel
theorem dX11_init_95 : decode cX11_init 95 = .ok (.sipush 192, 3) := by decide +kernel
theorem dX11_init_98 : decode cX11_init 98 = .ok (.newarray .int, 2) := by decide +kernel
theorem dX11_init_100 : decode cX11_init 100 = .ok (.putfield 43, 3) := by decide +kernel
theorem dX11_init_103 : decode cX11_init 103 = .ok (.aload_n 0, 1) := by decide +kernel
theorem dX11_init_104 : decode cX11_init 104 = .ok (.sipush 192, 3) := by decide +kernel
theorem dX11_init_107 : decode cX11_init 107 = .ok (.newarray .int, 2) := by decide +kernel
theorem dX11_init_109 : decode cX11_init 109 = .ok (.putfield 46, 3) := by decide +kernel
theorem dX11_init_112 : decode cX11_init 112 = .ok (.aload_n 0, 1) := by decide +kernel
theorem dX11_init_113 : decode cX11_init 113 = .ok (.sipush 192, 3) := by decide +kernel
theorem dX11_init_116 : decode cX11_init 116 = .ok (.newarray .int, 2) := by decide +kernel
theorem dX11_init_118 : decode cX11_init 118 = .ok (.putfield 49, 3) := by decide +kernel
theorem dX11_init_121 : decode cX11_init 121 = .ok (.aload_n 0, 1) := by decide +kernel
theorem dX11_init_122 : decode cX11_init 122 = .ok (.sipush 128, 3) := by decide +kernel
theorem dX11_init_125 : decode cX11_init 125 = .ok (.newarray .int, 2) := by decide +kernel
theorem dX11_init_127 : decode cX11_init 127 = .ok (.putfield 52, 3) := by decide +kernel
theorem dX11_init_130 : decode cX11_init 130 = .ok (.aload_n 0, 1) := by decide +kernel
theorem dX11_init_131 : decode cX11_init 131 = .ok (.sipush 128, 3) := by decide +kernel
theorem dX11_init_134 : decode cX11_init 134 = .ok (.newarray .int, 2) := by decide +kernel
theorem dX11_init_136 : decode cX11_init 136 = .ok (.putfield 55, 3) := by decide +kernel
theorem dX11_init_139 : decode cX11_init 139 = .ok (.aload_n 0, 1) := by decide +kernel
theorem dX11_init_140 : decode cX11_init 140 = .ok (.sipush 128, 3) := by decide +kernel
theorem dX11_init_143 : decode cX11_init 143 = .ok (.newarray .int, 2) := by decide +kernel
theorem dX11_init_145 : decode cX11_init 145 = .ok (.putfield 58, 3) := by decide +kernel
theorem dX11_init_148 : decode cX11_init 148 = .ok (.aload_n 0, 1) := by decide +kernel
theorem dX11_init_149 : decode cX11_init 149 = .ok (.sipush 128, 3) := by decide +kernel
theorem dX11_init_152 : decode cX11_init 152 = .ok (.newarray .int, 2) := by decide +kernel
theorem dX11_init_154 : decode cX11_init 154 = .ok (.putfield 61, 3) := by decide +kernel
theorem dX11_init_157 : decode cX11_init 157 = .ok (.aload_n 0, 1) := by decide +kernel
theorem dX11_init_158 : decode cX11_init 158 = .ok (.bipush 96, 2) := by decide +kernel
theorem dX11_init_160 : decode cX11_init 160 = .ok (.newarray .int, 2) := by decide +kernel
theorem dX11_init_162 : decode cX11_init 162 = .ok (.putfield 64, 3) := by decide +kernel
theorem dX11_init_165 : decode cX11_init 165 = .ok (.aload_n 0, 1) := by decide +kernel
theorem dX11_init_166 : decode cX11_init 166 = .ok (.bipush 96, 2) := by decide +kernel
theorem dX11_init_168 : decode cX11_init 168 = .ok (.newarray .int, 2) := by decide +kernel
theorem dX11_init_170 : decode cX11_init 170 = .ok (.putfield 67, 3) := by decide +kernel
theorem dX11_init_173 : decode cX11_init 173 = .ok (.aload_n 0, 1) := by decide +kernel
theorem dX11_init_174 : decode cX11_init 174 = .ok (.bipush 96, 2) := by decide +kernel
theorem dX11_init_176 : decode cX11_init 176 = .ok (.newarray .int, 2) := by decide +kernel
theorem dX11_init_178 : decode cX11_init 178 = .ok (.putfield 70, 3) := by decide +kernel
theorem dX11_init_181 : decode cX11_init 181 = .ok (.aload_n 0, 1) := by decide +kernel
theorem dX11_init_182 : decode cX11_init 182 = .ok (.bipush 96, 2) := by decide +kernel
theorem dX11_init_184 : decode cX11_init 184 = .ok (.newarray .int, 2) := by decide +kernel
theorem dX11_init_186 : decode cX11_init 186 = .ok (.putfield 73, 3) := by decide +kernel
theorem dX11_init_189 : decode cX11_init 189 = .ok (.aload_n 0, 1) := by decide +kernel
theorem dX11_init_190 : decode cX11_init 190 = .ok (.bipush 96, 2) := by decide +kernel
theorem dX11_init_192 : decode cX11_init 192 = .ok (.newarray .int, 2) := by decide +kernel
theorem dX11_init_194 : decode cX11_init 194 = .ok (.putfield 76, 3) := by decide +kernel
theorem dX11_init_197 : decode cX11_init 197 = .ok (.aload_n 0, 1) := by decide +kernel
theorem dX11_init_198 : decode cX11_init 198 = .ok (.iconst 2, 1) := by decide +kernel
theorem dX11_init_199 : decode cX11_init 199 = .ok (.newarray .int, 2) := by decide +kernel
theorem dX11_init_201 : decode cX11_init 201 = .ok (.putfield 79, 3) := by decide +kernel
theorem dX11_init_204 : decode cX11_init 204 = .ok (.aload_n 0, 1) := by decide +kernel
theorem dX11_init_205 : decode cX11_init 205 = .ok (.sipush 1040, 3) := by decide +kernel
theorem dX11_init_208 : decode cX11_init 208 = .ok (.newarray .int, 2) := by decide +kernel
theorem dX11_init_210 : decode cX11_init 210 = .ok (.putfield 82, 3) := by decide +kernel
theorem dX11_init_213 : decode cX11_init 213 = .ok (.aload_n 0, 1) := by decide +kernel
theorem dX11_init_214 : decode cX11_init 214 = .ok (.sipush 1040, 3) := by decide +kernel
theorem dX11_init_217 : decode cX11_init 217 = .ok (.newarray .int, 2) := by decide +kernel
theorem dX11_init_219 : decode cX11_init 219 = .ok (.putfield 85, 3) := by decide +kernel
theorem dX11_init_222 : decode cX11_init 222 = .ok (.aload_n 0, 1) := by decide +kernel
theorem dX11_init_223 : decode cX11_init 223 = .ok (.sipush 1040, 3) := by decide +kernel
theorem dX11_init_226 : decode cX11_init 226 = .ok (.newarray .int, 2) := by decide +kernel
theorem dX11_init_228 : decode cX11_init 228 = .ok (.putfield 88, 3) := by decide +kernel
theorem dX11_init_231 : decode cX11_init 231 = .ok (.aload_n 0, 1) := by decide +kernel
theorem dX11_init_232 : decode cX11_init 232 = .ok (.sipush 1040, 3) := by decide +kernel
theorem dX11_init_235 : decode cX11_init 235 = .ok (.newarray .int, 2) := by decide +kernel
theorem dX11_init_237 : decode cX11_init 237 = .ok (.putfield 91, 3) := by decide +kernel
theorem dX11_init_240 : decode cX11_init 240 = .ok (.aload_n 0, 1) := by decide +kernel
theorem dX11_init_241 : decode cX11_init 241 = .ok (.sipush 1040, 3) := by decide +kernel
theorem dX11_init_244 : decode cX11_init 244 = .ok (.newarray .int, 2) := by decide +kernel
theorem dX11_init_246 : decode cX11_init 246 = .ok (.putfield 94, 3) := by decide +kernel
theorem dX11_init_249 : decode cX11_init 249 = .ok (.aload_n 0, 1) := by decide +kernel
theorem dX11_init_250 : decode cX11_init 250 = .ok (.iconst 2, 1) := by decide +kernel
theorem dX11_init_251 : decode cX11_init 251 = .ok (.newarray .int, 2) := by decide +kernel
theorem dX11_init_253 : decode cX11_init 253 = .ok (.putfield 97, 3) := by decide +kernel
theorem dX11_init_256 : decode cX11_init 256 = .ok (.aload_n 0, 1) := by decide +kernel
theorem dX11_init_257 : decode cX11_init 257 = .ok (.sipush 4200, 3) := by decide +kernel
theorem dX11_init_260 : decode cX11_init 260 = .ok (.newarray .int, 2) := by decide +kernel
theorem dX11_init_262 : decode cX11_init 262 = .ok (.putfield 100, 3) := by decide +kernel
theorem dX11_init_265 : decode cX11_init 265 = .ok (.aload_n 0, 1) := by decide +kernel
theorem dX11_init_266 : decode cX11_init 266 = .ok (.sipush 4200, 3) := by decide +kernel
theorem dX11_init_269 : decode cX11_init 269 = .ok (.newarray .int, 2) := by decide +kernel
theorem dX11_init_271 : decode cX11_init 271 = .ok (.putfield 103, 3) := by decide +kernel
theorem dX11_init_274 : decode cX11_init 274 = .ok (.aload_n 0, 1) := by decide +kernel
theorem dX11_init_275 : decode cX11_init 275 = .ok (.sipush 4200, 3) := by decide +kernel
theorem dX11_init_278 : decode cX11_init 278 = .ok (.newarray .int, 2) := by decide +kernel
theorem dX11_init_280 : decode cX11_init 280 = .ok (.putfield 106, 3) := by decide +kernel
theorem dX11_init_283 : decode cX11_init 283 = .ok (.aload_n 0, 1) := by decide +kernel
theorem dX11_init_284 : decode cX11_init 284 = .ok (.sipush 4200, 3) := by decide +kernel
theorem dX11_init_287 : decode cX11_init 287 = .ok (.newarray .int, 2) := by decide +kernel
theorem dX11_init_289 : decode cX11_init 289 = .ok (.putfield 109, 3) := by decide +kernel
theorem dX11_init_292 : decode cX11_init 292 = .ok (.aload_n 0, 1) := by decide +kernel
theorem dX11_init_293 : decode cX11_init 293 = .ok (.sipush 4200, 3) := by decide +kernel
theorem dX11_init_296 : decode cX11_init 296 = .ok (.newarray .int, 2) := by decide +kernel
theorem dX11_init_298 : decode cX11_init 298 = .ok (.putfield 112, 3) := by decide +kernel
theorem dX11_init_301 : decode cX11_init 301 = .ok (.aload_n 0, 1) := by decide +kernel
theorem dX11_init_302 : decode cX11_init 302 = .ok (.sipush 4200, 3) := by decide +kernel
theorem dX11_init_305 : decode cX11_init 305 = .ok (.newarray .int, 2) := by decide +kernel
theorem dX11_init_307 : decode cX11_init 307 = .ok (.putfield 115, 3) := by decide +kernel
theorem dX11_init_310 : decode cX11_init 310 = .ok (.aload_n 0, 1) := by decide +kernel
theorem dX11_init_311 : decode cX11_init 311 = .ok (.sipush 4200, 3) := by decide +kernel
theorem dX11_init_314 : decode cX11_init 314 = .ok (.newarray .int, 2) := by decide +kernel
theorem dX11_init_316 : decode cX11_init 316 = .ok (.putfield 118, 3) := by decide +kernel
theorem dX11_init_319 : decode cX11_init 319 = .ok (.aload_n 0, 1) := by decide +kernel
theorem dX11_init_320 : decode cX11_init 320 = .ok (.bipush 16, 2) := by decide +kernel
theorem dX11_init_322 : decode cX11_init 322 = .ok (.newarray .int, 2) := by decide +kernel
theorem dX11_init_324 : decode cX11_init 324 = .ok (.putfield 121, 3) := by decide +kernel
theorem dX11_init_327 : decode cX11_init 327 = .ok (.aload_n 0, 1) := by decide +kernel
theorem dX11_init_328 : decode cX11_init 328 = .ok (.sipush 4200, 3) := by decide +kernel
theorem dX11_init_331 : decode cX11_init 331 = .ok (.newarray .int, 2) := by decide +kernel
theorem dX11_init_333 : decode cX11_init 333 = .ok (.putfield 124, 3) := by decide +kernel
theorem dX11_init_336 : decode cX11_init 336 = .ok (.aload_n 0, 1) := by decide +kernel
theorem dX11_init_337 : decode cX11_init 337 = .ok (.sipush 4200, 3) := by decide +kernel
theorem dX11_init_340 : decode cX11_init 340 = .ok (.newarray .int, 2) := by decide +kernel
theorem dX11_init_342 : decode cX11_init 342 = .ok (.putfield 127, 3) := by decide +kernel
theorem dX11_init_345 : decode cX11_init 345 = .ok (.aload_n 0, 1) := by decide +kernel
theorem dX11_init_346 : decode cX11_init 346 = .ok (.sipush 1100, 3) := by decide +kernel
theorem dX11_init_349 : decode cX11_init 349 = .ok (.newarray .int, 2) := by decide +kernel
theorem dX11_init_351 : decode cX11_init 351 = .ok (.putfield 130, 3) := by decide +kernel
theorem dX11_init_354 : decode cX11_init 354 = .ok (.aload_n 0, 1) := by decide +kernel
theorem dX11_init_355 : decode cX11_init 355 = .ok (.ldc 133, 2) := by decide +kernel
theorem dX11_init_357 : decode cX11_init 357 = .ok (.putfield 134, 3) := by decide +kernel
theorem dX11_init_360 : decode cX11_init 360 = .ok (.aload_n 0, 1) := by decide +kernel
theorem dX11_init_361 : decode cX11_init 361 = .ok (.bipush 8, 2) := by decide +kernel
theorem dX11_init_363 : decode cX11_init 363 = .ok (.newarray .int, 2) := by decide +kernel
theorem dX11_init_365 : decode cX11_init 365 = .ok (.putfield 138, 3) := by decide +kernel
theorem dX11_init_368 : decode cX11_init 368 = .ok (.aload_n 0, 1) := by decide +kernel
theorem dX11_init_369 : decode cX11_init 369 = .ok (.bipush 96, 2) := by decide +kernel
theorem dX11_init_371 : decode cX11_init 371 = .ok (.newarray .int, 2) := by decide +kernel
theorem dX11_init_373 : decode cX11_init 373 = .ok (.putfield 141, 3) := by decide +kernel
theorem dX11_init_376 : decode cX11_init 376 = .ok (.aload_n 0, 1) := by decide +kernel
theorem dX11_init_377 : decode cX11_init 377 = .ok (.bipush 48, 2) := by decide +kernel
theorem dX11_init_379 : decode cX11_init 379 = .ok (.newarray .int, 2) := by decide +kernel
theorem dX11_init_381 : decode cX11_init 381 = .ok (.putfield 144, 3) := by decide +kernel
theorem dX11_init_384 : decode cX11_init 384 = .ok (.aload_n 0, 1) := by decide +kernel
theorem dX11_init_385 : decode cX11_init 385 = .ok (.bipush 8, 2) := by decide +kernel
theorem dX11_init_387 : decode cX11_init 387 = .ok (.newarray .int, 2) := by decide +kernel
theorem dX11_init_389 : decode cX11_init 389 = .ok (.putfield 147, 3) := by decide +kernel
theorem dX11_init_392 : decode cX11_init 392 = .ok (.aload_n 0, 1) := by decide +kernel
theorem dX11_init_393 : decode cX11_init 393 = .ok (.sipush 200, 3) := by decide +kernel
theorem dX11_init_396 : decode cX11_init 396 = .ok (.newarray .int, 2) := by decide +kernel
theorem dX11_init_398 : decode cX11_init 398 = .ok (.putfield 150, 3) := by decide +kernel
theorem dX11_init_401 : decode cX11_init 401 = .ok (.aload_n 0, 1) := by decide +kernel
theorem dX11_init_402 : decode cX11_init 402 = .ok (.bipush 30, 2) := by decide +kernel
theorem dX11_init_404 : decode cX11_init 404 = .ok (.newarray .int, 2) := by decide +kernel
theorem dX11_init_406 : decode cX11_init 406 = .ok (.putfield 153, 3) := by decide +kernel
theorem dX11_init_409 : decode cX11_init 409 = .ok (.aload_n 0, 1) := by decide +kernel
theorem dX11_init_410 : decode cX11_init 410 = .ok (.bipush 30, 2) := by decide +kernel
theorem dX11_init_412 : decode cX11_init 412 = .ok (.newarray .int, 2) := by decide +kernel
theorem dX11_init_414 : decode cX11_init 414 = .ok (.putfield 156, 3) := by decide +kernel
theorem dX11_init_417 : decode cX11_init 417 = .ok (.aload_n 0, 1) := by decide +kernel
theorem dX11_init_418 : decode cX11_init 418 = .ok (.bipush 30, 2) := by decide +kernel
theorem dX11_init_420 : decode cX11_init 420 = .ok (.newarray .int, 2) := by decide +kernel
theorem dX11_init_422 : decode cX11_init 422 = .ok (.putfield 159, 3) := by decide +kernel
theorem dX11_init_425 : decode cX11_init 425 = .ok (.aload_n 0, 1) := by decide +kernel
theorem dX11_init_426 : decode cX11_init 426 = .ok (.bipush 30, 2) := by decide +kernel
theorem dX11_init_428 : decode cX11_init 428 = .ok (.newarray .int, 2) := by decide +kernel
theorem dX11_init_430 : decode cX11_init 430 = .ok (.putfield 162, 3) := by decide +kernel
theorem dX11_init_433 : decode cX11_init 433 = .ok (.aload_n 0, 1) := by decide +kernel
theorem dX11_init_434 : decode cX11_init 434 = .ok (.sipush 2100, 3) := by decide +kernel
theorem dX11_init_437 : decode cX11_init 437 = .ok (.newarray .int, 2) := by decide +kernel
theorem dX11_init_439 : decode cX11_init 439 = .ok (.putfield 165, 3) := by decide +kernel
theorem dX11_init_442 : decode cX11_init 442 = .ok (.aload_n 0, 1) := by decide +kernel
theorem dX11_init_443 : decode cX11_init 443 = .ok (.bipush 12, 2) := by decide +kernel
theorem dX11_init_445 : decode cX11_init 445 = .ok (.newarray .int, 2) := by decide +kernel
theorem dX11_init_447 : decode cX11_init 447 = .ok (.putfield 168, 3) := by decide +kernel
theorem dX11_init_450 : decode cX11_init 450 = .ok (.return_, 1) := by decide +kernel
theorem dX11_in_0 : decode cX11_in 0 = .ok (.iload_n 0, 1) := by decide +kernel
theorem dX11_in_1 : decode cX11_in 1 = .ok (.iload_n 1, 1) := by decide +kernel
theorem dX11_in_2 : decode cX11_in 2 = .ok (.if_icmp .lt 12, 3) := by decide +kernel
theorem dX11_in_5 : decode cX11_in 5 = .ok (.iload_n 0, 1) := by decide +kernel
theorem dX11_in_6 : decode cX11_in 6 = .ok (.iload_n 2, 1) := by decide +kernel
theorem dX11_in_7 : decode cX11_in 7 = .ok (.if_icmp .gt 7, 3) := by decide +kernel
theorem dX11_in_10 : decode cX11_in 10 = .ok (.iconst 1, 1) := by decide +kernel
theorem dX11_in_11 : decode cX11_in 11 = .ok (.goto 4, 3) := by decide +kernel
theorem dX11_in_14 : decode cX11_in 14 = .ok (.iconst 0, 1) := by decide +kernel
theorem dX11_in_15 : decode cX11_in 15 = .ok (.ireturn, 1) := by decide +kernel
theorem dX11_feed_0 : decode cX11_feed 0 = .ok (.aload_n 0, 1) := by decide +kernel
theorem dX11_feed_1 : decode cX11_feed 1 = .ok (.getfield 171, 3) := by decide +kernel
theorem dX11_feed_4 : decode cX11_feed 4 = .ok (.bipush 20, 2) := by decide +kernel
theorem dX11_feed_6 : decode cX11_feed 6 = .ok (.iadd, 1) := by decide +kernel
theorem dX11_feed_7 : decode cX11_feed 7 = .ok (.sipush 2000, 3) := by decide +kernel
theorem dX11_feed_10 : decode cX11_feed 10 = .ok (.if_icmp .le 6, 3) := by decide +kernel
theorem dX11_feed_13 : decode cX11_feed 13 = .ok (.ldc 174, 2) := by decide +kernel
theorem dX11_feed_15 : decode cX11_feed 15 = .ok (.ireturn, 1) := by decide +kernel
theorem dX11_feed_16 : decode cX11_feed 16 = .ok (.iconst 0, 1) := by decide +kernel
theorem dX11_feed_17 : decode cX11_feed 17 = .ok (.istore 6, 2) := by decide +kernel
theorem dX11_feed_19 : decode cX11_feed 19 = .ok (.iload 6, 2) := by decide +kernel
theorem dX11_feed_21 : decode cX11_feed 21 = .ok (.bipush 20, 2) := by decide +kernel
theorem dX11_feed_23 : decode cX11_feed 23 = .ok (.if_icmp .ge 93, 3) := by decide +kernel
theorem dX11_feed_26 : decode cX11_feed 26 = .ok (.iload 6, 2) := by decide +kernel
theorem dX11_feed_28 : decode cX11_feed 28 = .ok (.iconst 4, 1) := by decide +kernel
theorem dX11_feed_29 : decode cX11_feed 29 = .ok (.if_icmp .ge 7, 3) := by decide +kernel
theorem dX11_feed_32 : decode cX11_feed 32 = .ok (.iload_n 1, 1) := by decide +kernel
theorem dX11_feed_33 : decode cX11_feed 33 = .ok (.goto 39, 3) := by decide +kernel
theorem dX11_feed_36 : decode cX11_feed 36 = .ok (.iload 6, 2) := by decide +kernel
theorem dX11_feed_38 : decode cX11_feed 38 = .ok (.bipush 8, 2) := by decide +kernel
theorem dX11_feed_40 : decode cX11_feed 40 = .ok (.if_icmp .ge 7, 3) := by decide +kernel
theorem dX11_feed_43 : decode cX11_feed 43 = .ok (.iload_n 2, 1) := by decide +kernel
theorem dX11_feed_44 : decode cX11_feed 44 = .ok (.goto 28, 3) := by decide +kernel
theorem dX11_feed_47 : decode cX11_feed 47 = .ok (.iload 6, 2) := by decide +kernel
theorem dX11_feed_49 : decode cX11_feed 49 = .ok (.bipush 12, 2) := by decide +kernel
theorem dX11_feed_51 : decode cX11_feed 51 = .ok (.if_icmp .ge 7, 3) := by decide +kernel
theorem dX11_feed_54 : decode cX11_feed 54 = .ok (.iload_n 3, 1) := by decide +kernel
theorem dX11_feed_55 : decode cX11_feed 55 = .ok (.goto 17, 3) := by decide +kernel
theorem dX11_feed_58 : decode cX11_feed 58 = .ok (.iload 6, 2) := by decide +kernel
theorem dX11_feed_60 : decode cX11_feed 60 = .ok (.bipush 16, 2) := by decide +kernel
theorem dX11_feed_62 : decode cX11_feed 62 = .ok (.if_icmp .ge 8, 3) := by decide +kernel
theorem dX11_feed_65 : decode cX11_feed 65 = .ok (.iload 4, 2) := by decide +kernel
theorem dX11_feed_67 : decode cX11_feed 67 = .ok (.goto 5, 3) := by decide +kernel
theorem dX11_feed_70 : decode cX11_feed 70 = .ok (.iload 5, 2) := by decide +kernel
theorem dX11_feed_72 : decode cX11_feed 72 = .ok (.istore 7, 2) := by decide +kernel
theorem dX11_feed_74 : decode cX11_feed 74 = .ok (.aload_n 0, 1) := by decide +kernel
theorem dX11_feed_75 : decode cX11_feed 75 = .ok (.getfield 7, 3) := by decide +kernel
theorem dX11_feed_78 : decode cX11_feed 78 = .ok (.aload_n 0, 1) := by decide +kernel
theorem dX11_feed_79 : decode cX11_feed 79 = .ok (.getfield 171, 3) := by decide +kernel
theorem dX11_feed_82 : decode cX11_feed 82 = .ok (.iload 7, 2) := by decide +kernel
theorem dX11_feed_84 : decode cX11_feed 84 = .ok (.bipush 24, 2) := by decide +kernel
theorem dX11_feed_86 : decode cX11_feed 86 = .ok (.bipush 8, 2) := by decide +kernel
theorem dX11_feed_88 : decode cX11_feed 88 = .ok (.iload 6, 2) := by decide +kernel
theorem dX11_feed_90 : decode cX11_feed 90 = .ok (.iconst 4, 1) := by decide +kernel
theorem dX11_feed_91 : decode cX11_feed 91 = .ok (.irem, 1) := by decide +kernel
theorem dX11_feed_92 : decode cX11_feed 92 = .ok (.imul, 1) := by decide +kernel
theorem dX11_feed_93 : decode cX11_feed 93 = .ok (.isub, 1) := by decide +kernel
theorem dX11_feed_94 : decode cX11_feed 94 = .ok (.ishr, 1) := by decide +kernel
theorem dX11_feed_95 : decode cX11_feed 95 = .ok (.sipush 255, 3) := by decide +kernel
theorem dX11_feed_98 : decode cX11_feed 98 = .ok (.iand, 1) := by decide +kernel
theorem dX11_feed_99 : decode cX11_feed 99 = .ok (.iastore, 1) := by decide +kernel
theorem dX11_feed_100 : decode cX11_feed 100 = .ok (.aload_n 0, 1) := by decide +kernel
theorem dX11_feed_101 : decode cX11_feed 101 = .ok (.dup, 1) := by decide +kernel
theorem dX11_feed_102 : decode cX11_feed 102 = .ok (.getfield 171, 3) := by decide +kernel
theorem dX11_feed_105 : decode cX11_feed 105 = .ok (.iconst 1, 1) := by decide +kernel
theorem dX11_feed_106 : decode cX11_feed 106 = .ok (.iadd, 1) := by decide +kernel
theorem dX11_feed_107 : decode cX11_feed 107 = .ok (.putfield 171, 3) := by decide +kernel
theorem dX11_feed_110 : decode cX11_feed 110 = .ok (.iinc 6 1, 3) := by decide +kernel
theorem dX11_feed_113 : decode cX11_feed 113 = .ok (.goto (-94), 3) := by decide +kernel
theorem dX11_feed_116 : decode cX11_feed 116 = .ok (.aload_n 0, 1) := by decide +kernel
theorem dX11_feed_117 : decode cX11_feed 117 = .ok (.getfield 171, 3) := by decide +kernel
theorem dX11_feed_120 : decode cX11_feed 120 = .ok (.ireturn, 1) := by decide +kernel
theorem dX11_end_0 : decode cX11_end 0 = .ok (.iload_n 1, 1) := by decide +kernel
theorem dX11_end_1 : decode cX11_end 1 = .ok (.iconst 0, 1) := by decide +kernel
theorem dX11_end_2 : decode cX11_end 2 = .ok (.aload_n 0, 1) := by decide +kernel
theorem dX11_end_3 : decode cX11_end 3 = .ok (.getfield 171, 3) := by decide +kernel
theorem dX11_end_6 : decode cX11_end 6 = .ok (.invokestatic 175, 3) := by decide +kernel
theorem dX11_end_9 : decode cX11_end 9 = .ok (.ifCond .ne 6, 3) := by decide +kernel
theorem dX11_end_12 : decode cX11_end 12 = .ok (.ldc 179, 2) := by decide +kernel
theorem dX11_end_14 : decode cX11_end 14 = .ok (.ireturn, 1) := by decide +kernel
theorem dX11_end_15 : decode cX11_end 15 = .ok (.aload_n 0, 1) := by decide +kernel
theorem dX11_end_16 : decode cX11_end 16 = .ok (.iload_n 1, 1) := by decide +kernel
theorem dX11_end_17 : decode cX11_end 17 = .ok (.putfield 171, 3) := by decide +kernel
theorem dX11_end_20 : decode cX11_end 20 = .ok (.iload_n 1, 1) := by decide +kernel
theorem dX11_end_21 : decode cX11_end 21 = .ok (.ireturn, 1) := by decide +kernel
theorem dX11_byteAt_0 : decode cX11_byteAt 0 = .ok (.iload_n 1, 1) := by decide +kernel
theorem dX11_byteAt_1 : decode cX11_byteAt 1 = .ok (.aload_n 0, 1) := by decide +kernel
theorem dX11_byteAt_2 : decode cX11_byteAt 2 = .ok (.getfield 180, 3) := by decide +kernel
theorem dX11_byteAt_5 : decode cX11_byteAt 5 = .ok (.if_icmp .ge 21, 3) := by decide +kernel
theorem dX11_byteAt_8 : decode cX11_byteAt 8 = .ok (.aload_n 0, 1) := by decide +kernel
theorem dX11_byteAt_9 : decode cX11_byteAt 9 = .ok (.getfield 13, 3) := by decide +kernel
theorem dX11_byteAt_12 : decode cX11_byteAt 12 = .ok (.sipush 2000, 3) := by decide +kernel
theorem dX11_byteAt_15 : decode cX11_byteAt 15 = .ok (.aload_n 0, 1) := by decide +kernel
theorem dX11_byteAt_16 : decode cX11_byteAt 16 = .ok (.getfield 183, 3) := by decide +kernel
theorem dX11_byteAt_19 : decode cX11_byteAt 19 = .ok (.imul, 1) := by decide +kernel
theorem dX11_byteAt_20 : decode cX11_byteAt 20 = .ok (.iload_n 1, 1) := by decide +kernel
theorem dX11_byteAt_21 : decode cX11_byteAt 21 = .ok (.iadd, 1) := by decide +kernel
theorem dX11_byteAt_22 : decode cX11_byteAt 22 = .ok (.iaload, 1) := by decide +kernel
theorem dX11_byteAt_23 : decode cX11_byteAt 23 = .ok (.goto 4, 3) := by decide +kernel
theorem dX11_byteAt_26 : decode cX11_byteAt 26 = .ok (.iconst (-1), 1) := by decide +kernel
theorem dX11_byteAt_27 : decode cX11_byteAt 27 = .ok (.ireturn, 1) := by decide +kernel
theorem dX11_isLetter_0 : decode cX11_isLetter 0 = .ok (.iload_n 0, 1) := by decide +kernel
theorem dX11_isLetter_1 : decode cX11_isLetter 1 = .ok (.bipush 97, 2) := by decide +kernel
theorem dX11_isLetter_3 : decode cX11_isLetter 3 = .ok (.if_icmp .lt 9, 3) := by decide +kernel
theorem dX11_isLetter_6 : decode cX11_isLetter 6 = .ok (.iload_n 0, 1) := by decide +kernel
theorem dX11_isLetter_7 : decode cX11_isLetter 7 = .ok (.bipush 122, 2) := by decide +kernel
theorem dX11_isLetter_9 : decode cX11_isLetter 9 = .ok (.if_icmp .le 15, 3) := by decide +kernel
theorem dX11_isLetter_12 : decode cX11_isLetter 12 = .ok (.iload_n 0, 1) := by decide +kernel
theorem dX11_isLetter_13 : decode cX11_isLetter 13 = .ok (.bipush 65, 2) := by decide +kernel
theorem dX11_isLetter_15 : decode cX11_isLetter 15 = .ok (.if_icmp .lt 13, 3) := by decide +kernel
theorem dX11_isLetter_18 : decode cX11_isLetter 18 = .ok (.iload_n 0, 1) := by decide +kernel
theorem dX11_isLetter_19 : decode cX11_isLetter 19 = .ok (.bipush 90, 2) := by decide +kernel
theorem dX11_isLetter_21 : decode cX11_isLetter 21 = .ok (.if_icmp .gt 7, 3) := by decide +kernel
theorem dX11_isLetter_24 : decode cX11_isLetter 24 = .ok (.iconst 1, 1) := by decide +kernel
theorem dX11_isLetter_25 : decode cX11_isLetter 25 = .ok (.goto 4, 3) := by decide +kernel
theorem dX11_isLetter_28 : decode cX11_isLetter 28 = .ok (.iconst 0, 1) := by decide +kernel
theorem dX11_isLetter_29 : decode cX11_isLetter 29 = .ok (.ireturn, 1) := by decide +kernel
theorem dX11_isDigit_0 : decode cX11_isDigit 0 = .ok (.iload_n 0, 1) := by decide +kernel
theorem dX11_isDigit_1 : decode cX11_isDigit 1 = .ok (.bipush 48, 2) := by decide +kernel
theorem dX11_isDigit_3 : decode cX11_isDigit 3 = .ok (.if_icmp .lt 13, 3) := by decide +kernel
theorem dX11_isDigit_6 : decode cX11_isDigit 6 = .ok (.iload_n 0, 1) := by decide +kernel
theorem dX11_isDigit_7 : decode cX11_isDigit 7 = .ok (.bipush 57, 2) := by decide +kernel
theorem dX11_isDigit_9 : decode cX11_isDigit 9 = .ok (.if_icmp .gt 7, 3) := by decide +kernel
theorem dX11_isDigit_12 : decode cX11_isDigit 12 = .ok (.iconst 1, 1) := by decide +kernel
theorem dX11_isDigit_13 : decode cX11_isDigit 13 = .ok (.goto 4, 3) := by decide +kernel
theorem dX11_isDigit_16 : decode cX11_isDigit 16 = .ok (.iconst 0, 1) := by decide +kernel
theorem dX11_isDigit_17 : decode cX11_isDigit 17 = .ok (.ireturn, 1) := by decide +kernel
theorem dX11_isSign_0 : decode cX11_isSign 0 = .ok (.iload_n 0, 1) := by decide +kernel
theorem dX11_isSign_1 : decode cX11_isSign 1 = .ok (.bipush 123, 2) := by decide +kernel
theorem dX11_isSign_3 : decode cX11_isSign 3 = .ok (.if_icmp .eq 69, 3) := by decide +kernel
theorem dX11_isSign_6 : decode cX11_isSign 6 = .ok (.iload_n 0, 1) := by decide +kernel
theorem dX11_isSign_7 : decode cX11_isSign 7 = .ok (.bipush 125, 2) := by decide +kernel
theorem dX11_isSign_9 : decode cX11_isSign 9 = .ok (.if_icmp .eq 63, 3) := by decide +kernel
theorem dX11_isSign_12 : decode cX11_isSign 12 = .ok (.iload_n 0, 1) := by decide +kernel
theorem dX11_isSign_13 : decode cX11_isSign 13 = .ok (.bipush 40, 2) := by decide +kernel
theorem dX11_isSign_15 : decode cX11_isSign 15 = .ok (.if_icmp .eq 57, 3) := by decide +kernel
theorem dX11_isSign_18 : decode cX11_isSign 18 = .ok (.iload_n 0, 1) := by decide +kernel
theorem dX11_isSign_19 : decode cX11_isSign 19 = .ok (.bipush 41, 2) := by decide +kernel
theorem dX11_isSign_21 : decode cX11_isSign 21 = .ok (.if_icmp .eq 51, 3) := by decide +kernel
theorem dX11_isSign_24 : decode cX11_isSign 24 = .ok (.iload_n 0, 1) := by decide +kernel
theorem dX11_isSign_25 : decode cX11_isSign 25 = .ok (.bipush 44, 2) := by decide +kernel
theorem dX11_isSign_27 : decode cX11_isSign 27 = .ok (.if_icmp .eq 45, 3) := by decide +kernel
theorem dX11_isSign_30 : decode cX11_isSign 30 = .ok (.iload_n 0, 1) := by decide +kernel
theorem dX11_isSign_31 : decode cX11_isSign 31 = .ok (.bipush 59, 2) := by decide +kernel
theorem dX11_isSign_33 : decode cX11_isSign 33 = .ok (.if_icmp .eq 39, 3) := by decide +kernel
theorem dX11_isSign_36 : decode cX11_isSign 36 = .ok (.iload_n 0, 1) := by decide +kernel
theorem dX11_isSign_37 : decode cX11_isSign 37 = .ok (.bipush 61, 2) := by decide +kernel
theorem dX11_isSign_39 : decode cX11_isSign 39 = .ok (.if_icmp .eq 33, 3) := by decide +kernel
theorem dX11_isSign_42 : decode cX11_isSign 42 = .ok (.iload_n 0, 1) := by decide +kernel
theorem dX11_isSign_43 : decode cX11_isSign 43 = .ok (.bipush 43, 2) := by decide +kernel
theorem dX11_isSign_45 : decode cX11_isSign 45 = .ok (.if_icmp .eq 27, 3) := by decide +kernel
theorem dX11_isSign_48 : decode cX11_isSign 48 = .ok (.iload_n 0, 1) := by decide +kernel
theorem dX11_isSign_49 : decode cX11_isSign 49 = .ok (.bipush 45, 2) := by decide +kernel
theorem dX11_isSign_51 : decode cX11_isSign 51 = .ok (.if_icmp .eq 21, 3) := by decide +kernel
theorem dX11_isSign_54 : decode cX11_isSign 54 = .ok (.iload_n 0, 1) := by decide +kernel
theorem dX11_isSign_55 : decode cX11_isSign 55 = .ok (.bipush 42, 2) := by decide +kernel
theorem dX11_isSign_57 : decode cX11_isSign 57 = .ok (.if_icmp .eq 15, 3) := by decide +kernel
theorem dX11_isSign_60 : decode cX11_isSign 60 = .ok (.iload_n 0, 1) := by decide +kernel
theorem dX11_isSign_61 : decode cX11_isSign 61 = .ok (.bipush 47, 2) := by decide +kernel
theorem dX11_isSign_63 : decode cX11_isSign 63 = .ok (.if_icmp .eq 9, 3) := by decide +kernel
theorem dX11_isSign_66 : decode cX11_isSign 66 = .ok (.iload_n 0, 1) := by decide +kernel
theorem dX11_isSign_67 : decode cX11_isSign 67 = .ok (.bipush 46, 2) := by decide +kernel
theorem dX11_isSign_69 : decode cX11_isSign 69 = .ok (.if_icmp .ne 7, 3) := by decide +kernel
theorem dX11_isSign_72 : decode cX11_isSign 72 = .ok (.iconst 1, 1) := by decide +kernel
theorem dX11_isSign_73 : decode cX11_isSign 73 = .ok (.goto 4, 3) := by decide +kernel
theorem dX11_isSign_76 : decode cX11_isSign 76 = .ok (.iconst 0, 1) := by decide +kernel
theorem dX11_isSign_77 : decode cX11_isSign 77 = .ok (.ireturn, 1) := by decide +kernel
theorem dX11_next_0 : decode cX11_next 0 = .ok (.aload_n 0, 1) := by decide +kernel
theorem dX11_next_1 : decode cX11_next 1 = .ok (.aload_n 0, 1) := by decide +kernel
theorem dX11_next_2 : decode cX11_next 2 = .ok (.getfield 186, 3) := by decide +kernel
theorem dX11_next_5 : decode cX11_next 5 = .ok (.invokevirtual 189, 3) := by decide +kernel
theorem dX11_next_8 : decode cX11_next 8 = .ok (.bipush 32, 2) := by decide +kernel
theorem dX11_next_10 : decode cX11_next 10 = .ok (.if_icmp .eq 16, 3) := by decide +kernel
theorem dX11_next_13 : decode cX11_next 13 = .ok (.aload_n 0, 1) := by decide +kernel
theorem dX11_next_14 : decode cX11_next 14 = .ok (.aload_n 0, 1) := by decide +kernel
theorem dX11_next_15 : decode cX11_next 15 = .ok (.getfield 186, 3) := by decide +kernel
theorem dX11_next_18 : decode cX11_next 18 = .ok (.invokevirtual 189, 3) := by decide +kernel
theorem dX11_next_21 : decode cX11_next 21 = .ok (.bipush 10, 2) := by decide +kernel
theorem dX11_next_23 : decode cX11_next 23 = .ok (.if_icmp .ne 16, 3) := by decide +kernel
theorem dX11_next_26 : decode cX11_next 26 = .ok (.aload_n 0, 1) := by decide +kernel
theorem dX11_next_27 : decode cX11_next 27 = .ok (.dup, 1) := by decide +kernel
theorem dX11_next_28 : decode cX11_next 28 = .ok (.getfield 186, 3) := by decide +kernel
theorem dX11_next_31 : decode cX11_next 31 = .ok (.iconst 1, 1) := by decide +kernel
theorem dX11_next_32 : decode cX11_next 32 = .ok (.iadd, 1) := by decide +kernel
theorem dX11_next_33 : decode cX11_next 33 = .ok (.putfield 186, 3) := by decide +kernel
theorem dX11_next_36 : decode cX11_next 36 = .ok (.goto (-36), 3) := by decide +kernel
theorem dX11_next_39 : decode cX11_next 39 = .ok (.aload_n 0, 1) := by decide +kernel
theorem dX11_next_40 : decode cX11_next 40 = .ok (.aload_n 0, 1) := by decide +kernel
theorem dX11_next_41 : decode cX11_next 41 = .ok (.getfield 186, 3) := by decide +kernel
theorem dX11_next_44 : decode cX11_next 44 = .ok (.putfield 193, 3) := by decide +kernel
theorem dX11_next_47 : decode cX11_next 47 = .ok (.aload_n 0, 1) := by decide +kernel
theorem dX11_next_48 : decode cX11_next 48 = .ok (.aload_n 0, 1) := by decide +kernel
theorem dX11_next_49 : decode cX11_next 49 = .ok (.getfield 186, 3) := by decide +kernel
theorem dX11_next_52 : decode cX11_next 52 = .ok (.invokevirtual 189, 3) := by decide +kernel
theorem dX11_next_55 : decode cX11_next 55 = .ok (.istore_n 1, 1) := by decide +kernel
theorem dX11_next_56 : decode cX11_next 56 = .ok (.iload_n 1, 1) := by decide +kernel
theorem dX11_next_57 : decode cX11_next 57 = .ok (.ifCond .ge 11, 3) := by decide +kernel
theorem dX11_next_60 : decode cX11_next 60 = .ok (.aload_n 0, 1) := by decide +kernel
theorem dX11_next_61 : decode cX11_next 61 = .ok (.iconst 0, 1) := by decide +kernel
theorem dX11_next_62 : decode cX11_next 62 = .ok (.putfield 196, 3) := by decide +kernel
theorem dX11_next_65 : decode cX11_next 65 = .ok (.goto 203, 3) := by decide +kernel
theorem dX11_next_68 : decode cX11_next 68 = .ok (.iload_n 1, 1) := by decide +kernel
theorem dX11_next_69 : decode cX11_next 69 = .ok (.invokestatic 199, 3) := by decide +kernel
theorem dX11_next_72 : decode cX11_next 72 = .ok (.ifCond .eq 81, 3) := by decide +kernel
theorem dX11_next_75 : decode cX11_next 75 = .ok (.aload_n 0, 1) := by decide +kernel
theorem dX11_next_76 : decode cX11_next 76 = .ok (.aload_n 0, 1) := by decide +kernel
theorem dX11_next_77 : decode cX11_next 77 = .ok (.getfield 186, 3) := by decide +kernel
theorem dX11_next_80 : decode cX11_next 80 = .ok (.invokevirtual 189, 3) := by decide +kernel
theorem dX11_next_83 : decode cX11_next 83 = .ok (.invokestatic 199, 3) := by decide +kernel
theorem dX11_next_86 : decode cX11_next 86 = .ok (.ifCond .ne 17, 3) := by decide +kernel
theorem dX11_next_89 : decode cX11_next 89 = .ok (.aload_n 0, 1) := by decide +kernel
theorem dX11_next_90 : decode cX11_next 90 = .ok (.aload_n 0, 1) := by decide +kernel
theorem dX11_next_91 : decode cX11_next 91 = .ok (.getfield 186, 3) := by decide +kernel
theorem dX11_next_94 : decode cX11_next 94 = .ok (.invokevirtual 189, 3) := by decide +kernel
theorem dX11_next_97 : decode cX11_next 97 = .ok (.invokestatic 203, 3) := by decide +kernel
theorem dX11_next_100 : decode cX11_next 100 = .ok (.ifCond .eq 16, 3) := by decide +kernel
theorem dX11_next_103 : decode cX11_next 103 = .ok (.aload_n 0, 1) := by decide +kernel
theorem dX11_next_104 : decode cX11_next 104 = .ok (.dup, 1) := by decide +kernel
theorem dX11_next_105 : decode cX11_next 105 = .ok (.getfield 186, 3) := by decide +kernel
theorem dX11_next_108 : decode cX11_next 108 = .ok (.iconst 1, 1) := by decide +kernel
theorem dX11_next_109 : decode cX11_next 109 = .ok (.iadd, 1) := by decide +kernel
theorem dX11_next_110 : decode cX11_next 110 = .ok (.putfield 186, 3) := by decide +kernel
theorem dX11_next_113 : decode cX11_next 113 = .ok (.goto (-38), 3) := by decide +kernel
theorem dX11_next_116 : decode cX11_next 116 = .ok (.aload_n 0, 1) := by decide +kernel
theorem dX11_next_117 : decode cX11_next 117 = .ok (.aload_n 0, 1) := by decide +kernel
theorem dX11_next_118 : decode cX11_next 118 = .ok (.getfield 186, 3) := by decide +kernel
theorem dX11_next_121 : decode cX11_next 121 = .ok (.aload_n 0, 1) := by decide +kernel
theorem dX11_next_122 : decode cX11_next 122 = .ok (.getfield 193, 3) := by decide +kernel
theorem dX11_next_125 : decode cX11_next 125 = .ok (.isub, 1) := by decide +kernel
theorem dX11_next_126 : decode cX11_next 126 = .ok (.putfield 206, 3) := by decide +kernel
theorem dX11_next_129 : decode cX11_next 129 = .ok (.aload_n 0, 1) := by decide +kernel
theorem dX11_next_130 : decode cX11_next 130 = .ok (.aload_n 0, 1) := by decide +kernel
theorem dX11_next_131 : decode cX11_next 131 = .ok (.getfield 206, 3) := by decide +kernel
theorem dX11_next_134 : decode cX11_next 134 = .ok (.bipush 12, 2) := by decide +kernel
theorem dX11_next_136 : decode cX11_next 136 = .ok (.if_icmp .le 7, 3) := by decide +kernel
theorem dX11_next_139 : decode cX11_next 139 = .ok (.iconst 4, 1) := by decide +kernel
theorem dX11_next_140 : decode cX11_next 140 = .ok (.goto 7, 3) := by decide +kernel
theorem dX11_next_143 : decode cX11_next 143 = .ok (.aload_n 0, 1) := by decide +kernel
theorem dX11_next_144 : decode cX11_next 144 = .ok (.invokevirtual 209, 3) := by decide +kernel
theorem dX11_next_147 : decode cX11_next 147 = .ok (.putfield 196, 3) := by decide +kernel
theorem dX11_next_150 : decode cX11_next 150 = .ok (.goto 118, 3) := by decide +kernel
theorem dX11_next_153 : decode cX11_next 153 = .ok (.iload_n 1, 1) := by decide +kernel
theorem dX11_next_154 : decode cX11_next 154 = .ok (.invokestatic 203, 3) := by decide +kernel
theorem dX11_next_157 : decode cX11_next 157 = .ok (.ifCond .eq 80, 3) := by decide +kernel
theorem dX11_next_160 : decode cX11_next 160 = .ok (.aload_n 0, 1) := by decide +kernel
theorem dX11_next_161 : decode cX11_next 161 = .ok (.iconst 0, 1) := by decide +kernel
theorem dX11_next_162 : decode cX11_next 162 = .ok (.putfield 213, 3) := by decide +kernel
theorem dX11_next_165 : decode cX11_next 165 = .ok (.aload_n 0, 1) := by decide +kernel
theorem dX11_next_166 : decode cX11_next 166 = .ok (.aload_n 0, 1) := by decide +kernel
theorem dX11_next_167 : decode cX11_next 167 = .ok (.getfield 186, 3) := by decide +kernel
theorem dX11_next_170 : decode cX11_next 170 = .ok (.invokevirtual 189, 3) := by decide +kernel
theorem dX11_next_173 : decode cX11_next 173 = .ok (.invokestatic 203, 3) := by decide +kernel
theorem dX11_next_176 : decode cX11_next 176 = .ok (.ifCond .eq 53, 3) := by decide +kernel
theorem dX11_next_179 : decode cX11_next 179 = .ok (.aload_n 0, 1) := by decide +kernel
theorem dX11_next_180 : decode cX11_next 180 = .ok (.getfield 186, 3) := by decide +kernel
theorem dX11_next_183 : decode cX11_next 183 = .ok (.aload_n 0, 1) := by decide +kernel
theorem dX11_next_184 : decode cX11_next 184 = .ok (.getfield 193, 3) := by decide +kernel
theorem dX11_next_187 : decode cX11_next 187 = .ok (.isub, 1) := by decide +kernel
theorem dX11_next_188 : decode cX11_next 188 = .ok (.bipush 9, 2) := by decide +kernel
theorem dX11_next_190 : decode cX11_next 190 = .ok (.if_icmp .ge 39, 3) := by decide +kernel
theorem dX11_next_193 : decode cX11_next 193 = .ok (.aload_n 0, 1) := by decide +kernel
theorem dX11_next_194 : decode cX11_next 194 = .ok (.bipush 10, 2) := by decide +kernel
theorem dX11_next_196 : decode cX11_next 196 = .ok (.aload_n 0, 1) := by decide +kernel
theorem dX11_next_197 : decode cX11_next 197 = .ok (.getfield 213, 3) := by decide +kernel
theorem dX11_next_200 : decode cX11_next 200 = .ok (.imul, 1) := by decide +kernel
theorem dX11_next_201 : decode cX11_next 201 = .ok (.aload_n 0, 1) := by decide +kernel
theorem dX11_next_202 : decode cX11_next 202 = .ok (.aload_n 0, 1) := by decide +kernel
theorem dX11_next_203 : decode cX11_next 203 = .ok (.getfield 186, 3) := by decide +kernel
theorem dX11_next_206 : decode cX11_next 206 = .ok (.invokevirtual 189, 3) := by decide +kernel
theorem dX11_next_209 : decode cX11_next 209 = .ok (.iadd, 1) := by decide +kernel
theorem dX11_next_210 : decode cX11_next 210 = .ok (.bipush 48, 2) := by decide +kernel
theorem dX11_next_212 : decode cX11_next 212 = .ok (.isub, 1) := by decide +kernel
theorem dX11_next_213 : decode cX11_next 213 = .ok (.putfield 213, 3) := by decide +kernel
theorem dX11_next_216 : decode cX11_next 216 = .ok (.aload_n 0, 1) := by decide +kernel
theorem dX11_next_217 : decode cX11_next 217 = .ok (.dup, 1) := by decide +kernel
theorem dX11_next_218 : decode cX11_next 218 = .ok (.getfield 186, 3) := by decide +kernel
theorem dX11_next_221 : decode cX11_next 221 = .ok (.iconst 1, 1) := by decide +kernel
theorem dX11_next_222 : decode cX11_next 222 = .ok (.iadd, 1) := by decide +kernel
theorem dX11_next_223 : decode cX11_next 223 = .ok (.putfield 186, 3) := by decide +kernel
theorem dX11_next_226 : decode cX11_next 226 = .ok (.goto (-61), 3) := by decide +kernel
theorem dX11_next_229 : decode cX11_next 229 = .ok (.aload_n 0, 1) := by decide +kernel
theorem dX11_next_230 : decode cX11_next 230 = .ok (.iconst 2, 1) := by decide +kernel
theorem dX11_next_231 : decode cX11_next 231 = .ok (.putfield 196, 3) := by decide +kernel
theorem dX11_next_234 : decode cX11_next 234 = .ok (.goto 34, 3) := by decide +kernel
theorem dX11_next_237 : decode cX11_next 237 = .ok (.aload_n 0, 1) := by decide +kernel
theorem dX11_next_238 : decode cX11_next 238 = .ok (.iload_n 1, 1) := by decide +kernel
theorem dX11_next_239 : decode cX11_next 239 = .ok (.invokestatic 216, 3) := by decide +kernel
theorem dX11_next_242 : decode cX11_next 242 = .ok (.ifCond .eq 7, 3) := by decide +kernel
theorem dX11_next_245 : decode cX11_next 245 = .ok (.iconst 3, 1) := by decide +kernel
theorem dX11_next_246 : decode cX11_next 246 = .ok (.goto 4, 3) := by decide +kernel
theorem dX11_next_249 : decode cX11_next 249 = .ok (.iconst 4, 1) := by decide +kernel
theorem dX11_next_250 : decode cX11_next 250 = .ok (.putfield 196, 3) := by decide +kernel
theorem dX11_next_253 : decode cX11_next 253 = .ok (.aload_n 0, 1) := by decide +kernel
theorem dX11_next_254 : decode cX11_next 254 = .ok (.iload_n 1, 1) := by decide +kernel
theorem dX11_next_255 : decode cX11_next 255 = .ok (.putfield 213, 3) := by decide +kernel
theorem dX11_next_258 : decode cX11_next 258 = .ok (.aload_n 0, 1) := by decide +kernel
theorem dX11_next_259 : decode cX11_next 259 = .ok (.dup, 1) := by decide +kernel
theorem dX11_next_260 : decode cX11_next 260 = .ok (.getfield 186, 3) := by decide +kernel
theorem dX11_next_263 : decode cX11_next 263 = .ok (.iconst 1, 1) := by decide +kernel
theorem dX11_next_264 : decode cX11_next 264 = .ok (.iadd, 1) := by decide +kernel
theorem dX11_next_265 : decode cX11_next 265 = .ok (.putfield 186, 3) := by decide +kernel
theorem dX11_next_268 : decode cX11_next 268 = .ok (.return_, 1) := by decide +kernel
theorem dX11_spells_0 : decode cX11_spells 0 = .ok (.aload_n 0, 1) := by decide +kernel
theorem dX11_spells_1 : decode cX11_spells 1 = .ok (.getfield 206, 3) := by decide +kernel
theorem dX11_spells_4 : decode cX11_spells 4 = .ok (.iload_n 3, 1) := by decide +kernel
theorem dX11_spells_5 : decode cX11_spells 5 = .ok (.if_icmp .ne 7, 3) := by decide +kernel
theorem dX11_spells_8 : decode cX11_spells 8 = .ok (.iconst 1, 1) := by decide +kernel
theorem dX11_spells_9 : decode cX11_spells 9 = .ok (.goto 4, 3) := by decide +kernel
theorem dX11_spells_12 : decode cX11_spells 12 = .ok (.iconst 0, 1) := by decide +kernel
theorem dX11_spells_13 : decode cX11_spells 13 = .ok (.istore 4, 2) := by decide +kernel
theorem dX11_spells_15 : decode cX11_spells 15 = .ok (.iconst 0, 1) := by decide +kernel
theorem dX11_spells_16 : decode cX11_spells 16 = .ok (.istore 5, 2) := by decide +kernel
theorem dX11_spells_18 : decode cX11_spells 18 = .ok (.iload 5, 2) := by decide +kernel
theorem dX11_spells_20 : decode cX11_spells 20 = .ok (.iload_n 3, 1) := by decide +kernel
theorem dX11_spells_21 : decode cX11_spells 21 = .ok (.if_icmp .ge 51, 3) := by decide +kernel
theorem dX11_spells_24 : decode cX11_spells 24 = .ok (.iload 4, 2) := by decide +kernel
theorem dX11_spells_26 : decode cX11_spells 26 = .ok (.ifCond .eq 46, 3) := by decide +kernel
theorem dX11_spells_29 : decode cX11_spells 29 = .ok (.aload_n 0, 1) := by decide +kernel
theorem dX11_spells_30 : decode cX11_spells 30 = .ok (.aload_n 0, 1) := by decide +kernel
theorem dX11_spells_31 : decode cX11_spells 31 = .ok (.getfield 193, 3) := by decide +kernel
theorem dX11_spells_34 : decode cX11_spells 34 = .ok (.iload 5, 2) := by decide +kernel
theorem dX11_spells_36 : decode cX11_spells 36 = .ok (.iadd, 1) := by decide +kernel
theorem dX11_spells_37 : decode cX11_spells 37 = .ok (.invokevirtual 189, 3) := by decide +kernel
theorem dX11_spells_40 : decode cX11_spells 40 = .ok (.lload_n 1, 1) := by decide +kernel
theorem dX11_spells_41 : decode cX11_spells 41 = .ok (.bipush 8, 2) := by decide +kernel
theorem dX11_spells_43 : decode cX11_spells 43 = .ok (.iload_n 3, 1) := by decide +kernel
theorem dX11_spells_44 : decode cX11_spells 44 = .ok (.iconst 1, 1) := by decide +kernel
theorem dX11_spells_45 : decode cX11_spells 45 = .ok (.isub, 1) := by decide +kernel
theorem dX11_spells_46 : decode cX11_spells 46 = .ok (.iload 5, 2) := by decide +kernel
theorem dX11_spells_48 : decode cX11_spells 48 = .ok (.isub, 1) := by decide +kernel
theorem dX11_spells_49 : decode cX11_spells 49 = .ok (.imul, 1) := by decide +kernel
theorem dX11_spells_50 : decode cX11_spells 50 = .ok (.lshr, 1) := by decide +kernel
theorem dX11_spells_51 : decode cX11_spells 51 = .ok (.ldc2_w 219, 3) := by decide +kernel
theorem dX11_spells_54 : decode cX11_spells 54 = .ok (.land, 1) := by decide +kernel
theorem dX11_spells_55 : decode cX11_spells 55 = .ok (.l2i, 1) := by decide +kernel
theorem dX11_spells_56 : decode cX11_spells 56 = .ok (.if_icmp .ne 7, 3) := by decide +kernel
theorem dX11_spells_59 : decode cX11_spells 59 = .ok (.iconst 1, 1) := by decide +kernel
theorem dX11_spells_60 : decode cX11_spells 60 = .ok (.goto 4, 3) := by decide +kernel
theorem dX11_spells_63 : decode cX11_spells 63 = .ok (.iconst 0, 1) := by decide +kernel
theorem dX11_spells_64 : decode cX11_spells 64 = .ok (.istore 4, 2) := by decide +kernel
theorem dX11_spells_66 : decode cX11_spells 66 = .ok (.iinc 5 1, 3) := by decide +kernel
theorem dX11_spells_69 : decode cX11_spells 69 = .ok (.goto (-51), 3) := by decide +kernel
theorem dX11_spells_72 : decode cX11_spells 72 = .ok (.iload 4, 2) := by decide +kernel
theorem dX11_spells_74 : decode cX11_spells 74 = .ok (.ireturn, 1) := by decide +kernel
theorem dX11_wordAt_0 : decode cX11_wordAt 0 = .ok (.aload_n 0, 1) := by decide +kernel
theorem dX11_wordAt_1 : decode cX11_wordAt 1 = .ok (.ldc2_w 221, 3) := by decide +kernel
theorem dX11_wordAt_4 : decode cX11_wordAt 4 = .ok (.iconst 4, 1) := by decide +kernel
theorem dX11_wordAt_5 : decode cX11_wordAt 5 = .ok (.invokevirtual 223, 3) := by decide +kernel
theorem dX11_wordAt_8 : decode cX11_wordAt 8 = .ok (.ifCond .eq 8, 3) := by decide +kernel
theorem dX11_wordAt_11 : decode cX11_wordAt 11 = .ok (.bipush 20, 2) := by decide +kernel
theorem dX11_wordAt_13 : decode cX11_wordAt 13 = .ok (.goto 133, 3) := by decide +kernel
theorem dX11_wordAt_16 : decode cX11_wordAt 16 = .ok (.aload_n 0, 1) := by decide +kernel
theorem dX11_wordAt_17 : decode cX11_wordAt 17 = .ok (.ldc2_w 227, 3) := by decide +kernel
theorem dX11_wordAt_20 : decode cX11_wordAt 20 = .ok (.bipush 8, 2) := by decide +kernel
theorem dX11_wordAt_22 : decode cX11_wordAt 22 = .ok (.invokevirtual 223, 3) := by decide +kernel
theorem dX11_wordAt_25 : decode cX11_wordAt 25 = .ok (.ifCond .eq 8, 3) := by decide +kernel
theorem dX11_wordAt_28 : decode cX11_wordAt 28 = .ok (.bipush 21, 2) := by decide +kernel
theorem dX11_wordAt_30 : decode cX11_wordAt 30 = .ok (.goto 116, 3) := by decide +kernel
theorem dX11_wordAt_33 : decode cX11_wordAt 33 = .ok (.aload_n 0, 1) := by decide +kernel
theorem dX11_wordAt_34 : decode cX11_wordAt 34 = .ok (.ldc2_w 229, 3) := by decide +kernel
theorem dX11_wordAt_37 : decode cX11_wordAt 37 = .ok (.iconst 3, 1) := by decide +kernel
theorem dX11_wordAt_38 : decode cX11_wordAt 38 = .ok (.invokevirtual 223, 3) := by decide +kernel
theorem dX11_wordAt_41 : decode cX11_wordAt 41 = .ok (.ifCond .eq 8, 3) := by decide +kernel
theorem dX11_wordAt_44 : decode cX11_wordAt 44 = .ok (.bipush 22, 2) := by decide +kernel
theorem dX11_wordAt_46 : decode cX11_wordAt 46 = .ok (.goto 100, 3) := by decide +kernel
theorem dX11_wordAt_49 : decode cX11_wordAt 49 = .ok (.aload_n 0, 1) := by decide +kernel
theorem dX11_wordAt_50 : decode cX11_wordAt 50 = .ok (.ldc2_w 231, 3) := by decide +kernel
theorem dX11_wordAt_53 : decode cX11_wordAt 53 = .ok (.iconst 5, 1) := by decide +kernel
theorem dX11_wordAt_54 : decode cX11_wordAt 54 = .ok (.invokevirtual 223, 3) := by decide +kernel
theorem dX11_wordAt_57 : decode cX11_wordAt 57 = .ok (.ifCond .eq 8, 3) := by decide +kernel
theorem dX11_wordAt_60 : decode cX11_wordAt 60 = .ok (.bipush 23, 2) := by decide +kernel
theorem dX11_wordAt_62 : decode cX11_wordAt 62 = .ok (.goto 84, 3) := by decide +kernel
theorem dX11_wordAt_65 : decode cX11_wordAt 65 = .ok (.aload_n 0, 1) := by decide +kernel
theorem dX11_wordAt_66 : decode cX11_wordAt 66 = .ok (.ldc2_w 233, 3) := by decide +kernel
theorem dX11_wordAt_69 : decode cX11_wordAt 69 = .ok (.iconst 5, 1) := by decide +kernel
theorem dX11_wordAt_70 : decode cX11_wordAt 70 = .ok (.invokevirtual 223, 3) := by decide +kernel
theorem dX11_wordAt_73 : decode cX11_wordAt 73 = .ok (.ifCond .eq 8, 3) := by decide +kernel
theorem dX11_wordAt_76 : decode cX11_wordAt 76 = .ok (.bipush 24, 2) := by decide +kernel
theorem dX11_wordAt_78 : decode cX11_wordAt 78 = .ok (.goto 68, 3) := by decide +kernel
theorem dX11_wordAt_81 : decode cX11_wordAt 81 = .ok (.aload_n 0, 1) := by decide +kernel
theorem dX11_wordAt_82 : decode cX11_wordAt 82 = .ok (.ldc2_w 235, 3) := by decide +kernel
theorem dX11_wordAt_85 : decode cX11_wordAt 85 = .ok (.iconst 5, 1) := by decide +kernel
theorem dX11_wordAt_86 : decode cX11_wordAt 86 = .ok (.invokevirtual 223, 3) := by decide +kernel
theorem dX11_wordAt_89 : decode cX11_wordAt 89 = .ok (.ifCond .eq 8, 3) := by decide +kernel
theorem dX11_wordAt_92 : decode cX11_wordAt 92 = .ok (.bipush 25, 2) := by decide +kernel
theorem dX11_wordAt_94 : decode cX11_wordAt 94 = .ok (.goto 52, 3) := by decide +kernel
theorem dX11_wordAt_97 : decode cX11_wordAt 97 = .ok (.aload_n 0, 1) := by decide +kernel
theorem dX11_wordAt_98 : decode cX11_wordAt 98 = .ok (.ldc2_w 237, 3) := by decide +kernel
theorem dX11_wordAt_101 : decode cX11_wordAt 101 = .ok (.iconst 3, 1) := by decide +kernel
theorem dX11_wordAt_102 : decode cX11_wordAt 102 = .ok (.invokevirtual 223, 3) := by decide +kernel
theorem dX11_wordAt_105 : decode cX11_wordAt 105 = .ok (.ifCond .eq 8, 3) := by decide +kernel
theorem dX11_wordAt_108 : decode cX11_wordAt 108 = .ok (.bipush 26, 2) := by decide +kernel
theorem dX11_wordAt_110 : decode cX11_wordAt 110 = .ok (.goto 36, 3) := by decide +kernel
theorem dX11_wordAt_113 : decode cX11_wordAt 113 = .ok (.aload_n 0, 1) := by decide +kernel
theorem dX11_wordAt_114 : decode cX11_wordAt 114 = .ok (.ldc2_w 239, 3) := by decide +kernel
theorem dX11_wordAt_117 : decode cX11_wordAt 117 = .ok (.iconst 3, 1) := by decide +kernel
theorem dX11_wordAt_118 : decode cX11_wordAt 118 = .ok (.invokevirtual 223, 3) := by decide +kernel
theorem dX11_wordAt_121 : decode cX11_wordAt 121 = .ok (.ifCond .eq 8, 3) := by decide +kernel
theorem dX11_wordAt_124 : decode cX11_wordAt 124 = .ok (.bipush 27, 2) := by decide +kernel
theorem dX11_wordAt_126 : decode cX11_wordAt 126 = .ok (.goto 20, 3) := by decide +kernel
theorem dX11_wordAt_129 : decode cX11_wordAt 129 = .ok (.aload_n 0, 1) := by decide +kernel
theorem dX11_wordAt_130 : decode cX11_wordAt 130 = .ok (.ldc2_w 241, 3) := by decide +kernel
theorem dX11_wordAt_133 : decode cX11_wordAt 133 = .ok (.iconst 5, 1) := by decide +kernel
theorem dX11_wordAt_134 : decode cX11_wordAt 134 = .ok (.invokevirtual 223, 3) := by decide +kernel
theorem dX11_wordAt_137 : decode cX11_wordAt 137 = .ok (.ifCond .eq 8, 3) := by decide +kernel
theorem dX11_wordAt_140 : decode cX11_wordAt 140 = .ok (.bipush 28, 2) := by decide +kernel
theorem dX11_wordAt_142 : decode cX11_wordAt 142 = .ok (.goto 4, 3) := by decide +kernel
theorem dX11_wordAt_145 : decode cX11_wordAt 145 = .ok (.iconst 1, 1) := by decide +kernel
theorem dX11_wordAt_146 : decode cX11_wordAt 146 = .ok (.ireturn, 1) := by decide +kernel
theorem dX11_isAt_0 : decode cX11_isAt 0 = .ok (.aload_n 0, 1) := by decide +kernel
theorem dX11_isAt_1 : decode cX11_isAt 1 = .ok (.getfield 196, 3) := by decide +kernel
theorem dX11_isAt_4 : decode cX11_isAt 4 = .ok (.iconst 3, 1) := by decide +kernel
theorem dX11_isAt_5 : decode cX11_isAt 5 = .ok (.if_icmp .ne 15, 3) := by decide +kernel
theorem dX11_isAt_8 : decode cX11_isAt 8 = .ok (.aload_n 0, 1) := by decide +kernel
theorem dX11_isAt_9 : decode cX11_isAt 9 = .ok (.getfield 213, 3) := by decide +kernel
theorem dX11_isAt_12 : decode cX11_isAt 12 = .ok (.iload_n 1, 1) := by decide +kernel
theorem dX11_isAt_13 : decode cX11_isAt 13 = .ok (.if_icmp .ne 7, 3) := by decide +kernel
theorem dX11_isAt_16 : decode cX11_isAt 16 = .ok (.iconst 1, 1) := by decide +kernel
theorem dX11_isAt_17 : decode cX11_isAt 17 = .ok (.goto 4, 3) := by decide +kernel
theorem dX11_isAt_20 : decode cX11_isAt 20 = .ok (.iconst 0, 1) := by decide +kernel
theorem dX11_isAt_21 : decode cX11_isAt 21 = .ok (.ireturn, 1) := by decide +kernel
theorem dX11_wrong_0 : decode cX11_wrong 0 = .ok (.aload_n 0, 1) := by decide +kernel
theorem dX11_wrong_1 : decode cX11_wrong 1 = .ok (.getfield 243, 3) := by decide +kernel
theorem dX11_wrong_4 : decode cX11_wrong 4 = .ok (.ifCond .eq 27, 3) := by decide +kernel
theorem dX11_wrong_7 : decode cX11_wrong 7 = .ok (.iload_n 2, 1) := by decide +kernel
theorem dX11_wrong_8 : decode cX11_wrong 8 = .ok (.aload_n 0, 1) := by decide +kernel
theorem dX11_wrong_9 : decode cX11_wrong 9 = .ok (.getfield 246, 3) := by decide +kernel
theorem dX11_wrong_12 : decode cX11_wrong 12 = .ok (.if_icmp .lt 19, 3) := by decide +kernel
theorem dX11_wrong_15 : decode cX11_wrong 15 = .ok (.iload_n 2, 1) := by decide +kernel
theorem dX11_wrong_16 : decode cX11_wrong 16 = .ok (.aload_n 0, 1) := by decide +kernel
theorem dX11_wrong_17 : decode cX11_wrong 17 = .ok (.getfield 246, 3) := by decide +kernel
theorem dX11_wrong_20 : decode cX11_wrong 20 = .ok (.if_icmp .ne 21, 3) := by decide +kernel
theorem dX11_wrong_23 : decode cX11_wrong 23 = .ok (.iload_n 1, 1) := by decide +kernel
theorem dX11_wrong_24 : decode cX11_wrong 24 = .ok (.aload_n 0, 1) := by decide +kernel
theorem dX11_wrong_25 : decode cX11_wrong 25 = .ok (.getfield 243, 3) := by decide +kernel
theorem dX11_wrong_28 : decode cX11_wrong 28 = .ok (.if_icmp .ge 13, 3) := by decide +kernel
theorem dX11_wrong_31 : decode cX11_wrong 31 = .ok (.aload_n 0, 1) := by decide +kernel
theorem dX11_wrong_32 : decode cX11_wrong 32 = .ok (.iload_n 1, 1) := by decide +kernel
theorem dX11_wrong_33 : decode cX11_wrong 33 = .ok (.putfield 243, 3) := by decide +kernel
theorem dX11_wrong_36 : decode cX11_wrong 36 = .ok (.aload_n 0, 1) := by decide +kernel
theorem dX11_wrong_37 : decode cX11_wrong 37 = .ok (.iload_n 2, 1) := by decide +kernel
theorem dX11_wrong_38 : decode cX11_wrong 38 = .ok (.putfield 246, 3) := by decide +kernel
theorem dX11_wrong_41 : decode cX11_wrong 41 = .ok (.return_, 1) := by decide +kernel
theorem dX11_isGood_0 : decode cX11_isGood 0 = .ok (.aload_n 0, 1) := by decide +kernel
theorem dX11_isGood_1 : decode cX11_isGood 1 = .ok (.getfield 243, 3) := by decide +kernel
theorem dX11_isGood_4 : decode cX11_isGood 4 = .ok (.iconst 1, 1) := by decide +kernel
theorem dX11_isGood_5 : decode cX11_isGood 5 = .ok (.if_icmp .eq 7, 3) := by decide +kernel
theorem dX11_isGood_8 : decode cX11_isGood 8 = .ok (.iconst 1, 1) := by decide +kernel
theorem dX11_isGood_9 : decode cX11_isGood 9 = .ok (.goto 4, 3) := by decide +kernel
theorem dX11_isGood_12 : decode cX11_isGood 12 = .ok (.iconst 0, 1) := by decide +kernel
theorem dX11_isGood_13 : decode cX11_isGood 13 = .ok (.ireturn, 1) := by decide +kernel
theorem dX11_stop_0 : decode cX11_stop 0 = .ok (.aload_n 0, 1) := by decide +kernel
theorem dX11_stop_1 : decode cX11_stop 1 = .ok (.invokevirtual 249, 3) := by decide +kernel
theorem dX11_stop_4 : decode cX11_stop 4 = .ok (.ifCond .eq 16, 3) := by decide +kernel
theorem dX11_stop_7 : decode cX11_stop 7 = .ok (.aload_n 0, 1) := by decide +kernel
theorem dX11_stop_8 : decode cX11_stop 8 = .ok (.iconst 1, 1) := by decide +kernel
theorem dX11_stop_9 : decode cX11_stop 9 = .ok (.putfield 243, 3) := by decide +kernel
theorem dX11_stop_12 : decode cX11_stop 12 = .ok (.aload_n 0, 1) := by decide +kernel
theorem dX11_stop_13 : decode cX11_stop 13 = .ok (.aload_n 0, 1) := by decide +kernel
theorem dX11_stop_14 : decode cX11_stop 14 = .ok (.getfield 193, 3) := by decide +kernel
theorem dX11_stop_17 : decode cX11_stop 17 = .ok (.putfield 246, 3) := by decide +kernel
theorem dX11_stop_20 : decode cX11_stop 20 = .ok (.return_, 1) := by decide +kernel
theorem dX11_need_0 : decode cX11_need 0 = .ok (.aload_n 0, 1) := by decide +kernel
theorem dX11_need_1 : decode cX11_need 1 = .ok (.invokevirtual 249, 3) := by decide +kernel
theorem dX11_need_4 : decode cX11_need 4 = .ok (.ifCond .eq 18, 3) := by decide +kernel
theorem dX11_need_7 : decode cX11_need 7 = .ok (.aload_n 0, 1) := by decide +kernel
theorem dX11_need_8 : decode cX11_need 8 = .ok (.iload_n 1, 1) := by decide +kernel
theorem dX11_need_9 : decode cX11_need 9 = .ok (.invokevirtual 253, 3) := by decide +kernel
theorem dX11_need_12 : decode cX11_need 12 = .ok (.ifCond .eq 10, 3) := by decide +kernel
theorem dX11_need_15 : decode cX11_need 15 = .ok (.aload_n 0, 1) := by decide +kernel
theorem dX11_need_16 : decode cX11_need 16 = .ok (.invokevirtual 256, 3) := by decide +kernel
theorem dX11_need_19 : decode cX11_need 19 = .ok (.goto 7, 3) := by decide +kernel
theorem dX11_need_22 : decode cX11_need 22 = .ok (.aload_n 0, 1) := by decide +kernel
theorem dX11_need_23 : decode cX11_need 23 = .ok (.invokevirtual 259, 3) := by decide +kernel
theorem dX11_need_26 : decode cX11_need 26 = .ok (.return_, 1) := by decide +kernel
theorem dX11_isSame_0 : decode cX11_isSame 0 = .ok (.iload_n 2, 1) := by decide +kernel
theorem dX11_isSame_1 : decode cX11_isSame 1 = .ok (.iload 4, 2) := by decide +kernel
theorem dX11_isSame_3 : decode cX11_isSame 3 = .ok (.if_icmp .ne 7, 3) := by decide +kernel
theorem dX11_isSame_6 : decode cX11_isSame 6 = .ok (.iconst 1, 1) := by decide +kernel
theorem dX11_isSame_7 : decode cX11_isSame 7 = .ok (.goto 4, 3) := by decide +kernel
theorem dX11_isSame_10 : decode cX11_isSame 10 = .ok (.iconst 0, 1) := by decide +kernel
theorem dX11_isSame_11 : decode cX11_isSame 11 = .ok (.istore 5, 2) := by decide +kernel
theorem dX11_isSame_13 : decode cX11_isSame 13 = .ok (.iconst 0, 1) := by decide +kernel
theorem dX11_isSame_14 : decode cX11_isSame 14 = .ok (.istore 6, 2) := by decide +kernel
theorem dX11_isSame_16 : decode cX11_isSame 16 = .ok (.iload 6, 2) := by decide +kernel
theorem dX11_isSame_18 : decode cX11_isSame 18 = .ok (.iload_n 2, 1) := by decide +kernel
theorem dX11_isSame_19 : decode cX11_isSame 19 = .ok (.if_icmp .ge 60, 3) := by decide +kernel
theorem dX11_isSame_22 : decode cX11_isSame 22 = .ok (.iload 5, 2) := by decide +kernel
theorem dX11_isSame_24 : decode cX11_isSame 24 = .ok (.ifCond .eq 55, 3) := by decide +kernel
theorem dX11_isSame_27 : decode cX11_isSame 27 = .ok (.aload_n 0, 1) := by decide +kernel
theorem dX11_isSame_28 : decode cX11_isSame 28 = .ok (.getfield 13, 3) := by decide +kernel
theorem dX11_isSame_31 : decode cX11_isSame 31 = .ok (.sipush 2000, 3) := by decide +kernel
theorem dX11_isSame_34 : decode cX11_isSame 34 = .ok (.aload_n 0, 1) := by decide +kernel
theorem dX11_isSame_35 : decode cX11_isSame 35 = .ok (.getfield 183, 3) := by decide +kernel
theorem dX11_isSame_38 : decode cX11_isSame 38 = .ok (.imul, 1) := by decide +kernel
theorem dX11_isSame_39 : decode cX11_isSame 39 = .ok (.iload_n 1, 1) := by decide +kernel
theorem dX11_isSame_40 : decode cX11_isSame 40 = .ok (.iadd, 1) := by decide +kernel
theorem dX11_isSame_41 : decode cX11_isSame 41 = .ok (.iload 6, 2) := by decide +kernel
theorem dX11_isSame_43 : decode cX11_isSame 43 = .ok (.iadd, 1) := by decide +kernel
theorem dX11_isSame_44 : decode cX11_isSame 44 = .ok (.iaload, 1) := by decide +kernel
theorem dX11_isSame_45 : decode cX11_isSame 45 = .ok (.aload_n 0, 1) := by decide +kernel
theorem dX11_isSame_46 : decode cX11_isSame 46 = .ok (.getfield 13, 3) := by decide +kernel
theorem dX11_isSame_49 : decode cX11_isSame 49 = .ok (.sipush 2000, 3) := by decide +kernel
theorem dX11_isSame_52 : decode cX11_isSame 52 = .ok (.aload_n 0, 1) := by decide +kernel
theorem dX11_isSame_53 : decode cX11_isSame 53 = .ok (.getfield 183, 3) := by decide +kernel
theorem dX11_isSame_56 : decode cX11_isSame 56 = .ok (.imul, 1) := by decide +kernel
theorem dX11_isSame_57 : decode cX11_isSame 57 = .ok (.iload_n 3, 1) := by decide +kernel
theorem dX11_isSame_58 : decode cX11_isSame 58 = .ok (.iadd, 1) := by decide +kernel
theorem dX11_isSame_59 : decode cX11_isSame 59 = .ok (.iload 6, 2) := by decide +kernel
theorem dX11_isSame_61 : decode cX11_isSame 61 = .ok (.iadd, 1) := by decide +kernel
theorem dX11_isSame_62 : decode cX11_isSame 62 = .ok (.iaload, 1) := by decide +kernel
theorem dX11_isSame_63 : decode cX11_isSame 63 = .ok (.if_icmp .ne 7, 3) := by decide +kernel
theorem dX11_isSame_66 : decode cX11_isSame 66 = .ok (.iconst 1, 1) := by decide +kernel
theorem dX11_isSame_67 : decode cX11_isSame 67 = .ok (.goto 4, 3) := by decide +kernel
theorem dX11_isSame_70 : decode cX11_isSame 70 = .ok (.iconst 0, 1) := by decide +kernel
theorem dX11_isSame_71 : decode cX11_isSame 71 = .ok (.istore 5, 2) := by decide +kernel
theorem dX11_isSame_73 : decode cX11_isSame 73 = .ok (.iinc 6 1, 3) := by decide +kernel
theorem dX11_isSame_76 : decode cX11_isSame 76 = .ok (.goto (-60), 3) := by decide +kernel
theorem dX11_isSame_79 : decode cX11_isSame 79 = .ok (.iload 5, 2) := by decide +kernel
theorem dX11_isSame_81 : decode cX11_isSame 81 = .ok (.ireturn, 1) := by decide +kernel
theorem dX11_readText_0 : decode cX11_readText 0 = .ok (.aload_n 0, 1) := by decide +kernel
theorem dX11_readText_1 : decode cX11_readText 1 = .ok (.getfield 16, 3) := by decide +kernel
theorem dX11_readText_4 : decode cX11_readText 4 = .ok (.aload_n 0, 1) := by decide +kernel
theorem dX11_readText_5 : decode cX11_readText 5 = .ok (.getfield 183, 3) := by decide +kernel
theorem dX11_readText_8 : decode cX11_readText 8 = .ok (.iconst 0, 1) := by decide +kernel
theorem dX11_readText_9 : decode cX11_readText 9 = .ok (.iastore, 1) := by decide +kernel
theorem dX11_readText_10 : decode cX11_readText 10 = .ok (.aload_n 0, 1) := by decide +kernel
theorem dX11_readText_11 : decode cX11_readText 11 = .ok (.getfield 79, 3) := by decide +kernel
theorem dX11_readText_14 : decode cX11_readText 14 = .ok (.aload_n 0, 1) := by decide +kernel
theorem dX11_readText_15 : decode cX11_readText 15 = .ok (.getfield 183, 3) := by decide +kernel
theorem dX11_readText_18 : decode cX11_readText 18 = .ok (.iconst 0, 1) := by decide +kernel
theorem dX11_readText_19 : decode cX11_readText 19 = .ok (.iastore, 1) := by decide +kernel
theorem dX11_readText_20 : decode cX11_readText 20 = .ok (.aload_n 0, 1) := by decide +kernel
theorem dX11_readText_21 : decode cX11_readText 21 = .ok (.getfield 97, 3) := by decide +kernel
theorem dX11_readText_24 : decode cX11_readText 24 = .ok (.aload_n 0, 1) := by decide +kernel
theorem dX11_readText_25 : decode cX11_readText 25 = .ok (.getfield 183, 3) := by decide +kernel
theorem dX11_readText_28 : decode cX11_readText 28 = .ok (.iconst 0, 1) := by decide +kernel
theorem dX11_readText_29 : decode cX11_readText 29 = .ok (.iastore, 1) := by decide +kernel
theorem dX11_readText_30 : decode cX11_readText 30 = .ok (.aload_n 0, 1) := by decide +kernel
theorem dX11_readText_31 : decode cX11_readText 31 = .ok (.iconst 0, 1) := by decide +kernel
theorem dX11_readText_32 : decode cX11_readText 32 = .ok (.putfield 243, 3) := by decide +kernel
theorem dX11_readText_35 : decode cX11_readText 35 = .ok (.aload_n 0, 1) := by decide +kernel
theorem dX11_readText_36 : decode cX11_readText 36 = .ok (.iconst 0, 1) := by decide +kernel
theorem dX11_readText_37 : decode cX11_readText 37 = .ok (.putfield 186, 3) := by decide +kernel
theorem dX11_readText_40 : decode cX11_readText 40 = .ok (.aload_n 0, 1) := by decide +kernel
theorem dX11_readText_41 : decode cX11_readText 41 = .ok (.invokevirtual 256, 3) := by decide +kernel
theorem dX11_readText_44 : decode cX11_readText 44 = .ok (.aload_n 0, 1) := by decide +kernel
theorem dX11_readText_45 : decode cX11_readText 45 = .ok (.invokevirtual 249, 3) := by decide +kernel
theorem dX11_readText_48 : decode cX11_readText 48 = .ok (.ifCond .eq 37, 3) := by decide +kernel
theorem dX11_readText_51 : decode cX11_readText 51 = .ok (.aload_n 0, 1) := by decide +kernel
theorem dX11_readText_52 : decode cX11_readText 52 = .ok (.getfield 196, 3) := by decide +kernel
theorem dX11_readText_55 : decode cX11_readText 55 = .ok (.ifCond .eq 30, 3) := by decide +kernel
theorem dX11_readText_58 : decode cX11_readText 58 = .ok (.aload_n 0, 1) := by decide +kernel
theorem dX11_readText_59 : decode cX11_readText 59 = .ok (.getfield 196, 3) := by decide +kernel
theorem dX11_readText_62 : decode cX11_readText 62 = .ok (.bipush 20, 2) := by decide +kernel
theorem dX11_readText_64 : decode cX11_readText 64 = .ok (.if_icmp .eq 10, 3) := by decide +kernel
theorem dX11_readText_67 : decode cX11_readText 67 = .ok (.aload_n 0, 1) := by decide +kernel
theorem dX11_readText_68 : decode cX11_readText 68 = .ok (.invokevirtual 259, 3) := by decide +kernel
theorem dX11_readText_71 : decode cX11_readText 71 = .ok (.goto (-27), 3) := by decide +kernel
theorem dX11_readText_74 : decode cX11_readText 74 = .ok (.aload_n 0, 1) := by decide +kernel
theorem dX11_readText_75 : decode cX11_readText 75 = .ok (.invokevirtual 256, 3) := by decide +kernel
theorem dX11_readText_78 : decode cX11_readText 78 = .ok (.aload_n 0, 1) := by decide +kernel
theorem dX11_readText_79 : decode cX11_readText 79 = .ok (.invokevirtual 262, 3) := by decide +kernel
theorem dX11_readText_82 : decode cX11_readText 82 = .ok (.goto (-38), 3) := by decide +kernel
theorem dX11_readText_85 : decode cX11_readText 85 = .ok (.return_, 1) := by decide +kernel
theorem dX11_readEnum_0 : decode cX11_readEnum 0 = .ok (.aload_n 0, 1) := by decide +kernel
theorem dX11_readEnum_1 : decode cX11_readEnum 1 = .ok (.getfield 196, 3) := by decide +kernel
theorem dX11_readEnum_4 : decode cX11_readEnum 4 = .ok (.iconst 1, 1) := by decide +kernel
theorem dX11_readEnum_5 : decode cX11_readEnum 5 = .ok (.if_icmp .ne 17, 3) := by decide +kernel
theorem dX11_readEnum_8 : decode cX11_readEnum 8 = .ok (.aload_n 0, 1) := by decide +kernel
theorem dX11_readEnum_9 : decode cX11_readEnum 9 = .ok (.getfield 16, 3) := by decide +kernel
theorem dX11_readEnum_12 : decode cX11_readEnum 12 = .ok (.aload_n 0, 1) := by decide +kernel
theorem dX11_readEnum_13 : decode cX11_readEnum 13 = .ok (.getfield 183, 3) := by decide +kernel
theorem dX11_readEnum_16 : decode cX11_readEnum 16 = .ok (.iaload, 1) := by decide +kernel
theorem dX11_readEnum_17 : decode cX11_readEnum 17 = .ok (.bipush 8, 2) := by decide +kernel
theorem dX11_readEnum_19 : decode cX11_readEnum 19 = .ok (.if_icmp .ne 8, 3) := by decide +kernel
theorem dX11_readEnum_22 : decode cX11_readEnum 22 = .ok (.aload_n 0, 1) := by decide +kernel
theorem dX11_readEnum_23 : decode cX11_readEnum 23 = .ok (.invokevirtual 259, 3) := by decide +kernel
theorem dX11_readEnum_26 : decode cX11_readEnum 26 = .ok (.return_, 1) := by decide +kernel
theorem dX11_readEnum_27 : decode cX11_readEnum 27 = .ok (.aload_n 0, 1) := by decide +kernel
theorem dX11_readEnum_28 : decode cX11_readEnum 28 = .ok (.bipush 8, 2) := by decide +kernel
theorem dX11_readEnum_30 : decode cX11_readEnum 30 = .ok (.aload_n 0, 1) := by decide +kernel
theorem dX11_readEnum_31 : decode cX11_readEnum 31 = .ok (.getfield 183, 3) := by decide +kernel
theorem dX11_readEnum_34 : decode cX11_readEnum 34 = .ok (.imul, 1) := by decide +kernel
theorem dX11_readEnum_35 : decode cX11_readEnum 35 = .ok (.aload_n 0, 1) := by decide +kernel
theorem dX11_readEnum_36 : decode cX11_readEnum 36 = .ok (.getfield 16, 3) := by decide +kernel
theorem dX11_readEnum_39 : decode cX11_readEnum 39 = .ok (.aload_n 0, 1) := by decide +kernel
theorem dX11_readEnum_40 : decode cX11_readEnum 40 = .ok (.getfield 183, 3) := by decide +kernel
theorem dX11_readEnum_43 : decode cX11_readEnum 43 = .ok (.iaload, 1) := by decide +kernel
theorem dX11_readEnum_44 : decode cX11_readEnum 44 = .ok (.iadd, 1) := by decide +kernel
theorem dX11_readEnum_45 : decode cX11_readEnum 45 = .ok (.putfield 265, 3) := by decide +kernel
theorem dX11_readEnum_48 : decode cX11_readEnum 48 = .ok (.aload_n 0, 1) := by decide +kernel
theorem dX11_readEnum_49 : decode cX11_readEnum 49 = .ok (.getfield 19, 3) := by decide +kernel
theorem dX11_readEnum_52 : decode cX11_readEnum 52 = .ok (.aload_n 0, 1) := by decide +kernel
theorem dX11_readEnum_53 : decode cX11_readEnum 53 = .ok (.getfield 265, 3) := by decide +kernel
theorem dX11_readEnum_56 : decode cX11_readEnum 56 = .ok (.aload_n 0, 1) := by decide +kernel
theorem dX11_readEnum_57 : decode cX11_readEnum 57 = .ok (.getfield 193, 3) := by decide +kernel
theorem dX11_readEnum_60 : decode cX11_readEnum 60 = .ok (.iastore, 1) := by decide +kernel
theorem dX11_readEnum_61 : decode cX11_readEnum 61 = .ok (.aload_n 0, 1) := by decide +kernel
theorem dX11_readEnum_62 : decode cX11_readEnum 62 = .ok (.getfield 22, 3) := by decide +kernel
theorem dX11_readEnum_65 : decode cX11_readEnum 65 = .ok (.aload_n 0, 1) := by decide +kernel
theorem dX11_readEnum_66 : decode cX11_readEnum 66 = .ok (.getfield 265, 3) := by decide +kernel
theorem dX11_readEnum_69 : decode cX11_readEnum 69 = .ok (.aload_n 0, 1) := by decide +kernel
theorem dX11_readEnum_70 : decode cX11_readEnum 70 = .ok (.getfield 206, 3) := by decide +kernel
theorem dX11_readEnum_73 : decode cX11_readEnum 73 = .ok (.iastore, 1) := by decide +kernel
theorem dX11_readEnum_74 : decode cX11_readEnum 74 = .ok (.aload_n 0, 1) := by decide +kernel
theorem dX11_readEnum_75 : decode cX11_readEnum 75 = .ok (.getfield 25, 3) := by decide +kernel
theorem dX11_readEnum_78 : decode cX11_readEnum 78 = .ok (.aload_n 0, 1) := by decide +kernel
theorem dX11_readEnum_79 : decode cX11_readEnum 79 = .ok (.getfield 265, 3) := by decide +kernel
theorem dX11_readEnum_82 : decode cX11_readEnum 82 = .ok (.iconst 0, 1) := by decide +kernel
theorem dX11_readEnum_83 : decode cX11_readEnum 83 = .ok (.iastore, 1) := by decide +kernel
theorem dX11_readEnum_84 : decode cX11_readEnum 84 = .ok (.aload_n 0, 1) := by decide +kernel
theorem dX11_readEnum_85 : decode cX11_readEnum 85 = .ok (.getfield 28, 3) := by decide +kernel
theorem dX11_readEnum_88 : decode cX11_readEnum 88 = .ok (.aload_n 0, 1) := by decide +kernel
theorem dX11_readEnum_89 : decode cX11_readEnum 89 = .ok (.getfield 265, 3) := by decide +kernel
theorem dX11_readEnum_92 : decode cX11_readEnum 92 = .ok (.iconst 0, 1) := by decide +kernel
theorem dX11_readEnum_93 : decode cX11_readEnum 93 = .ok (.iastore, 1) := by decide +kernel
theorem dX11_readEnum_94 : decode cX11_readEnum 94 = .ok (.aload_n 0, 1) := by decide +kernel
theorem dX11_readEnum_95 : decode cX11_readEnum 95 = .ok (.getfield 31, 3) := by decide +kernel
theorem dX11_readEnum_98 : decode cX11_readEnum 98 = .ok (.aload_n 0, 1) := by decide +kernel
theorem dX11_readEnum_99 : decode cX11_readEnum 99 = .ok (.getfield 265, 3) := by decide +kernel
theorem dX11_readEnum_102 : decode cX11_readEnum 102 = .ok (.iconst 0, 1) := by decide +kernel
theorem dX11_readEnum_103 : decode cX11_readEnum 103 = .ok (.iastore, 1) := by decide +kernel
theorem dX11_readEnum_104 : decode cX11_readEnum 104 = .ok (.aload_n 0, 1) := by decide +kernel
theorem dX11_readEnum_105 : decode cX11_readEnum 105 = .ok (.getfield 34, 3) := by decide +kernel
theorem dX11_readEnum_108 : decode cX11_readEnum 108 = .ok (.aload_n 0, 1) := by decide +kernel
theorem dX11_readEnum_109 : decode cX11_readEnum 109 = .ok (.getfield 265, 3) := by decide +kernel
theorem dX11_readEnum_112 : decode cX11_readEnum 112 = .ok (.iconst (-1), 1) := by decide +kernel
theorem dX11_readEnum_113 : decode cX11_readEnum 113 = .ok (.iastore, 1) := by decide +kernel
theorem dX11_readEnum_114 : decode cX11_readEnum 114 = .ok (.aload_n 0, 1) := by decide +kernel
theorem dX11_readEnum_115 : decode cX11_readEnum 115 = .ok (.getfield 121, 3) := by decide +kernel
theorem dX11_readEnum_118 : decode cX11_readEnum 118 = .ok (.aload_n 0, 1) := by decide +kernel
theorem dX11_readEnum_119 : decode cX11_readEnum 119 = .ok (.getfield 265, 3) := by decide +kernel
theorem dX11_readEnum_122 : decode cX11_readEnum 122 = .ok (.iconst (-1), 1) := by decide +kernel
theorem dX11_readEnum_123 : decode cX11_readEnum 123 = .ok (.iastore, 1) := by decide +kernel
theorem dX11_readEnum_124 : decode cX11_readEnum 124 = .ok (.aload_n 0, 1) := by decide +kernel
theorem dX11_readEnum_125 : decode cX11_readEnum 125 = .ok (.getfield 16, 3) := by decide +kernel
theorem dX11_readEnum_128 : decode cX11_readEnum 128 = .ok (.aload_n 0, 1) := by decide +kernel
theorem dX11_readEnum_129 : decode cX11_readEnum 129 = .ok (.getfield 183, 3) := by decide +kernel
theorem dX11_readEnum_132 : decode cX11_readEnum 132 = .ok (.dup2, 1) := by decide +kernel
theorem dX11_readEnum_133 : decode cX11_readEnum 133 = .ok (.iaload, 1) := by decide +kernel
theorem dX11_readEnum_134 : decode cX11_readEnum 134 = .ok (.iconst 1, 1) := by decide +kernel
theorem dX11_readEnum_135 : decode cX11_readEnum 135 = .ok (.iadd, 1) := by decide +kernel
theorem dX11_readEnum_136 : decode cX11_readEnum 136 = .ok (.iastore, 1) := by decide +kernel
theorem dX11_readEnum_137 : decode cX11_readEnum 137 = .ok (.aload_n 0, 1) := by decide +kernel
theorem dX11_readEnum_138 : decode cX11_readEnum 138 = .ok (.invokevirtual 256, 3) := by decide +kernel
theorem dX11_readEnum_141 : decode cX11_readEnum 141 = .ok (.aload_n 0, 1) := by decide +kernel
theorem dX11_readEnum_142 : decode cX11_readEnum 142 = .ok (.bipush 123, 2) := by decide +kernel
theorem dX11_readEnum_144 : decode cX11_readEnum 144 = .ok (.invokevirtual 268, 3) := by decide +kernel
theorem dX11_readEnum_147 : decode cX11_readEnum 147 = .ok (.aload_n 0, 1) := by decide +kernel
theorem dX11_readEnum_148 : decode cX11_readEnum 148 = .ok (.invokevirtual 249, 3) := by decide +kernel
theorem dX11_readEnum_151 : decode cX11_readEnum 151 = .ok (.ifCond .eq 42, 3) := by decide +kernel
theorem dX11_readEnum_154 : decode cX11_readEnum 154 = .ok (.aload_n 0, 1) := by decide +kernel
theorem dX11_readEnum_155 : decode cX11_readEnum 155 = .ok (.getfield 196, 3) := by decide +kernel
theorem dX11_readEnum_158 : decode cX11_readEnum 158 = .ok (.iconst 1, 1) := by decide +kernel
theorem dX11_readEnum_159 : decode cX11_readEnum 159 = .ok (.if_icmp .ne 34, 3) := by decide +kernel
theorem dX11_readEnum_162 : decode cX11_readEnum 162 = .ok (.aload_n 0, 1) := by decide +kernel
theorem dX11_readEnum_163 : decode cX11_readEnum 163 = .ok (.invokevirtual 272, 3) := by decide +kernel
theorem dX11_readEnum_166 : decode cX11_readEnum 166 = .ok (.aload_n 0, 1) := by decide +kernel
theorem dX11_readEnum_167 : decode cX11_readEnum 167 = .ok (.invokevirtual 249, 3) := by decide +kernel
theorem dX11_readEnum_170 : decode cX11_readEnum 170 = .ok (.ifCond .eq 23, 3) := by decide +kernel
theorem dX11_readEnum_173 : decode cX11_readEnum 173 = .ok (.aload_n 0, 1) := by decide +kernel
theorem dX11_readEnum_174 : decode cX11_readEnum 174 = .ok (.bipush 44, 2) := by decide +kernel
theorem dX11_readEnum_176 : decode cX11_readEnum 176 = .ok (.invokevirtual 253, 3) := by decide +kernel
theorem dX11_readEnum_179 : decode cX11_readEnum 179 = .ok (.ifCond .eq 14, 3) := by decide +kernel
theorem dX11_readEnum_182 : decode cX11_readEnum 182 = .ok (.aload_n 0, 1) := by decide +kernel
theorem dX11_readEnum_183 : decode cX11_readEnum 183 = .ok (.invokevirtual 256, 3) := by decide +kernel
theorem dX11_readEnum_186 : decode cX11_readEnum 186 = .ok (.aload_n 0, 1) := by decide +kernel
theorem dX11_readEnum_187 : decode cX11_readEnum 187 = .ok (.invokevirtual 272, 3) := by decide +kernel
theorem dX11_readEnum_190 : decode cX11_readEnum 190 = .ok (.goto (-24), 3) := by decide +kernel
theorem dX11_readEnum_193 : decode cX11_readEnum 193 = .ok (.aload_n 0, 1) := by decide +kernel
theorem dX11_readEnum_194 : decode cX11_readEnum 194 = .ok (.invokevirtual 249, 3) := by decide +kernel
theorem dX11_readEnum_197 : decode cX11_readEnum 197 = .ok (.ifCond .eq 44, 3) := by decide +kernel
theorem dX11_readEnum_200 : decode cX11_readEnum 200 = .ok (.aload_n 0, 1) := by decide +kernel
theorem dX11_readEnum_201 : decode cX11_readEnum 201 = .ok (.bipush 59, 2) := by decide +kernel
theorem dX11_readEnum_203 : decode cX11_readEnum 203 = .ok (.invokevirtual 253, 3) := by decide +kernel
theorem dX11_readEnum_206 : decode cX11_readEnum 206 = .ok (.ifCond .eq 35, 3) := by decide +kernel
theorem dX11_readEnum_209 : decode cX11_readEnum 209 = .ok (.aload_n 0, 1) := by decide +kernel
theorem dX11_readEnum_210 : decode cX11_readEnum 210 = .ok (.invokevirtual 256, 3) := by decide +kernel
theorem dX11_readEnum_213 : decode cX11_readEnum 213 = .ok (.aload_n 0, 1) := by decide +kernel
theorem dX11_readEnum_214 : decode cX11_readEnum 214 = .ok (.invokevirtual 249, 3) := by decide +kernel
theorem dX11_readEnum_217 : decode cX11_readEnum 217 = .ok (.ifCond .eq 24, 3) := by decide +kernel
theorem dX11_readEnum_220 : decode cX11_readEnum 220 = .ok (.aload_n 0, 1) := by decide +kernel
theorem dX11_readEnum_221 : decode cX11_readEnum 221 = .ok (.getfield 196, 3) := by decide +kernel
theorem dX11_readEnum_224 : decode cX11_readEnum 224 = .ok (.bipush 21, 2) := by decide +kernel
theorem dX11_readEnum_226 : decode cX11_readEnum 226 = .ok (.bipush 25, 2) := by decide +kernel
theorem dX11_readEnum_228 : decode cX11_readEnum 228 = .ok (.invokestatic 175, 3) := by decide +kernel
theorem dX11_readEnum_231 : decode cX11_readEnum 231 = .ok (.ifCond .eq 10, 3) := by decide +kernel
theorem dX11_readEnum_234 : decode cX11_readEnum 234 = .ok (.aload_n 0, 1) := by decide +kernel
theorem dX11_readEnum_235 : decode cX11_readEnum 235 = .ok (.invokevirtual 275, 3) := by decide +kernel
theorem dX11_readEnum_238 : decode cX11_readEnum 238 = .ok (.goto (-25), 3) := by decide +kernel
theorem dX11_readEnum_241 : decode cX11_readEnum 241 = .ok (.aload_n 0, 1) := by decide +kernel
theorem dX11_readEnum_242 : decode cX11_readEnum 242 = .ok (.bipush 125, 2) := by decide +kernel
theorem dX11_readEnum_244 : decode cX11_readEnum 244 = .ok (.invokevirtual 268, 3) := by decide +kernel
theorem dX11_readEnum_247 : decode cX11_readEnum 247 = .ok (.return_, 1) := by decide +kernel
theorem dX11_readConst_0 : decode cX11_readConst 0 = .ok (.aload_n 0, 1) := by decide +kernel
theorem dX11_readConst_1 : decode cX11_readConst 1 = .ok (.getfield 196, 3) := by decide +kernel
theorem dX11_readConst_4 : decode cX11_readConst 4 = .ok (.iconst 1, 1) := by decide +kernel
theorem dX11_readConst_5 : decode cX11_readConst 5 = .ok (.if_icmp .ne 17, 3) := by decide +kernel
theorem dX11_readConst_8 : decode cX11_readConst 8 = .ok (.aload_n 0, 1) := by decide +kernel
theorem dX11_readConst_9 : decode cX11_readConst 9 = .ok (.getfield 25, 3) := by decide +kernel
theorem dX11_readConst_12 : decode cX11_readConst 12 = .ok (.aload_n 0, 1) := by decide +kernel
theorem dX11_readConst_13 : decode cX11_readConst 13 = .ok (.getfield 265, 3) := by decide +kernel
theorem dX11_readConst_16 : decode cX11_readConst 16 = .ok (.iaload, 1) := by decide +kernel
theorem dX11_readConst_17 : decode cX11_readConst 17 = .ok (.bipush 12, 2) := by decide +kernel
theorem dX11_readConst_19 : decode cX11_readConst 19 = .ok (.if_icmp .ne 8, 3) := by decide +kernel
theorem dX11_readConst_22 : decode cX11_readConst 22 = .ok (.aload_n 0, 1) := by decide +kernel
theorem dX11_readConst_23 : decode cX11_readConst 23 = .ok (.invokevirtual 259, 3) := by decide +kernel
theorem dX11_readConst_26 : decode cX11_readConst 26 = .ok (.return_, 1) := by decide +kernel
theorem dX11_readConst_27 : decode cX11_readConst 27 = .ok (.bipush 12, 2) := by decide +kernel
theorem dX11_readConst_29 : decode cX11_readConst 29 = .ok (.aload_n 0, 1) := by decide +kernel
theorem dX11_readConst_30 : decode cX11_readConst 30 = .ok (.getfield 265, 3) := by decide +kernel
theorem dX11_readConst_33 : decode cX11_readConst 33 = .ok (.imul, 1) := by decide +kernel
theorem dX11_readConst_34 : decode cX11_readConst 34 = .ok (.aload_n 0, 1) := by decide +kernel
theorem dX11_readConst_35 : decode cX11_readConst 35 = .ok (.getfield 25, 3) := by decide +kernel
theorem dX11_readConst_38 : decode cX11_readConst 38 = .ok (.aload_n 0, 1) := by decide +kernel
theorem dX11_readConst_39 : decode cX11_readConst 39 = .ok (.getfield 265, 3) := by decide +kernel
theorem dX11_readConst_42 : decode cX11_readConst 42 = .ok (.iaload, 1) := by decide +kernel
theorem dX11_readConst_43 : decode cX11_readConst 43 = .ok (.iadd, 1) := by decide +kernel
theorem dX11_readConst_44 : decode cX11_readConst 44 = .ok (.istore_n 1, 1) := by decide +kernel
theorem dX11_readConst_45 : decode cX11_readConst 45 = .ok (.aload_n 0, 1) := by decide +kernel
theorem dX11_readConst_46 : decode cX11_readConst 46 = .ok (.getfield 40, 3) := by decide +kernel
theorem dX11_readConst_49 : decode cX11_readConst 49 = .ok (.iload_n 1, 1) := by decide +kernel
theorem dX11_readConst_50 : decode cX11_readConst 50 = .ok (.aload_n 0, 1) := by decide +kernel
theorem dX11_readConst_51 : decode cX11_readConst 51 = .ok (.getfield 193, 3) := by decide +kernel
theorem dX11_readConst_54 : decode cX11_readConst 54 = .ok (.iastore, 1) := by decide +kernel
theorem dX11_readConst_55 : decode cX11_readConst 55 = .ok (.aload_n 0, 1) := by decide +kernel
theorem dX11_readConst_56 : decode cX11_readConst 56 = .ok (.getfield 43, 3) := by decide +kernel
theorem dX11_readConst_59 : decode cX11_readConst 59 = .ok (.iload_n 1, 1) := by decide +kernel
theorem dX11_readConst_60 : decode cX11_readConst 60 = .ok (.aload_n 0, 1) := by decide +kernel
theorem dX11_readConst_61 : decode cX11_readConst 61 = .ok (.getfield 206, 3) := by decide +kernel
theorem dX11_readConst_64 : decode cX11_readConst 64 = .ok (.iastore, 1) := by decide +kernel
theorem dX11_readConst_65 : decode cX11_readConst 65 = .ok (.aload_n 0, 1) := by decide +kernel
theorem dX11_readConst_66 : decode cX11_readConst 66 = .ok (.getfield 46, 3) := by decide +kernel
theorem dX11_readConst_69 : decode cX11_readConst 69 = .ok (.iload_n 1, 1) := by decide +kernel
theorem dX11_readConst_70 : decode cX11_readConst 70 = .ok (.iconst 0, 1) := by decide +kernel
theorem dX11_readConst_71 : decode cX11_readConst 71 = .ok (.iastore, 1) := by decide +kernel
theorem dX11_readConst_72 : decode cX11_readConst 72 = .ok (.aload_n 0, 1) := by decide +kernel
theorem dX11_readConst_73 : decode cX11_readConst 73 = .ok (.getfield 49, 3) := by decide +kernel
theorem dX11_readConst_76 : decode cX11_readConst 76 = .ok (.iload_n 1, 1) := by decide +kernel
theorem dX11_readConst_77 : decode cX11_readConst 77 = .ok (.iconst 0, 1) := by decide +kernel
theorem dX11_readConst_78 : decode cX11_readConst 78 = .ok (.iastore, 1) := by decide +kernel
theorem dX11_readConst_79 : decode cX11_readConst 79 = .ok (.aload_n 0, 1) := by decide +kernel
theorem dX11_readConst_80 : decode cX11_readConst 80 = .ok (.getfield 25, 3) := by decide +kernel
theorem dX11_readConst_83 : decode cX11_readConst 83 = .ok (.aload_n 0, 1) := by decide +kernel
theorem dX11_readConst_84 : decode cX11_readConst 84 = .ok (.getfield 265, 3) := by decide +kernel
theorem dX11_readConst_87 : decode cX11_readConst 87 = .ok (.dup2, 1) := by decide +kernel
theorem dX11_readConst_88 : decode cX11_readConst 88 = .ok (.iaload, 1) := by decide +kernel
theorem dX11_readConst_89 : decode cX11_readConst 89 = .ok (.iconst 1, 1) := by decide +kernel
theorem dX11_readConst_90 : decode cX11_readConst 90 = .ok (.iadd, 1) := by decide +kernel
theorem dX11_readConst_91 : decode cX11_readConst 91 = .ok (.iastore, 1) := by decide +kernel
theorem dX11_readConst_92 : decode cX11_readConst 92 = .ok (.aload_n 0, 1) := by decide +kernel
theorem dX11_readConst_93 : decode cX11_readConst 93 = .ok (.invokevirtual 256, 3) := by decide +kernel
theorem dX11_readConst_96 : decode cX11_readConst 96 = .ok (.aload_n 0, 1) := by decide +kernel
theorem dX11_readConst_97 : decode cX11_readConst 97 = .ok (.bipush 40, 2) := by decide +kernel
theorem dX11_readConst_99 : decode cX11_readConst 99 = .ok (.invokevirtual 253, 3) := by decide +kernel
theorem dX11_readConst_102 : decode cX11_readConst 102 = .ok (.ifCond .eq 40, 3) := by decide +kernel
theorem dX11_readConst_105 : decode cX11_readConst 105 = .ok (.aload_n 0, 1) := by decide +kernel
theorem dX11_readConst_106 : decode cX11_readConst 106 = .ok (.invokevirtual 256, 3) := by decide +kernel
theorem dX11_readConst_109 : decode cX11_readConst 109 = .ok (.aload_n 0, 1) := by decide +kernel
theorem dX11_readConst_110 : decode cX11_readConst 110 = .ok (.getfield 196, 3) := by decide +kernel
theorem dX11_readConst_113 : decode cX11_readConst 113 = .ok (.iconst 2, 1) := by decide +kernel
theorem dX11_readConst_114 : decode cX11_readConst 114 = .ok (.if_icmp .eq 8, 3) := by decide +kernel
theorem dX11_readConst_117 : decode cX11_readConst 117 = .ok (.aload_n 0, 1) := by decide +kernel
theorem dX11_readConst_118 : decode cX11_readConst 118 = .ok (.invokevirtual 259, 3) := by decide +kernel
theorem dX11_readConst_121 : decode cX11_readConst 121 = .ok (.return_, 1) := by decide +kernel
theorem dX11_readConst_122 : decode cX11_readConst 122 = .ok (.aload_n 0, 1) := by decide +kernel
theorem dX11_readConst_123 : decode cX11_readConst 123 = .ok (.getfield 46, 3) := by decide +kernel
theorem dX11_readConst_126 : decode cX11_readConst 126 = .ok (.iload_n 1, 1) := by decide +kernel
theorem dX11_readConst_127 : decode cX11_readConst 127 = .ok (.aload_n 0, 1) := by decide +kernel
theorem dX11_readConst_128 : decode cX11_readConst 128 = .ok (.getfield 213, 3) := by decide +kernel
theorem dX11_readConst_131 : decode cX11_readConst 131 = .ok (.iastore, 1) := by decide +kernel
theorem dX11_readConst_132 : decode cX11_readConst 132 = .ok (.aload_n 0, 1) := by decide +kernel
theorem dX11_readConst_133 : decode cX11_readConst 133 = .ok (.invokevirtual 256, 3) := by decide +kernel
theorem dX11_readConst_136 : decode cX11_readConst 136 = .ok (.aload_n 0, 1) := by decide +kernel
theorem dX11_readConst_137 : decode cX11_readConst 137 = .ok (.bipush 41, 2) := by decide +kernel
theorem dX11_readConst_139 : decode cX11_readConst 139 = .ok (.invokevirtual 268, 3) := by decide +kernel
theorem dX11_readConst_142 : decode cX11_readConst 142 = .ok (.aload_n 0, 1) := by decide +kernel
theorem dX11_readConst_143 : decode cX11_readConst 143 = .ok (.invokevirtual 249, 3) := by decide +kernel
theorem dX11_readConst_146 : decode cX11_readConst 146 = .ok (.ifCond .eq 156, 3) := by decide +kernel
theorem dX11_readConst_149 : decode cX11_readConst 149 = .ok (.aload_n 0, 1) := by decide +kernel
theorem dX11_readConst_150 : decode cX11_readConst 150 = .ok (.bipush 123, 2) := by decide +kernel
theorem dX11_readConst_152 : decode cX11_readConst 152 = .ok (.invokevirtual 253, 3) := by decide +kernel
theorem dX11_readConst_155 : decode cX11_readConst 155 = .ok (.ifCond .eq 147, 3) := by decide +kernel
theorem dX11_readConst_158 : decode cX11_readConst 158 = .ok (.aload_n 0, 1) := by decide +kernel
theorem dX11_readConst_159 : decode cX11_readConst 159 = .ok (.getfield 49, 3) := by decide +kernel
theorem dX11_readConst_162 : decode cX11_readConst 162 = .ok (.iload_n 1, 1) := by decide +kernel
theorem dX11_readConst_163 : decode cX11_readConst 163 = .ok (.iconst 1, 1) := by decide +kernel
theorem dX11_readConst_164 : decode cX11_readConst 164 = .ok (.iastore, 1) := by decide +kernel
theorem dX11_readConst_165 : decode cX11_readConst 165 = .ok (.aload_n 0, 1) := by decide +kernel
theorem dX11_readConst_166 : decode cX11_readConst 166 = .ok (.invokevirtual 256, 3) := by decide +kernel
theorem dX11_readConst_169 : decode cX11_readConst 169 = .ok (.aload_n 0, 1) := by decide +kernel
theorem dX11_readConst_170 : decode cX11_readConst 170 = .ok (.invokevirtual 249, 3) := by decide +kernel
theorem dX11_readConst_173 : decode cX11_readConst 173 = .ok (.ifCond .eq 123, 3) := by decide +kernel
theorem dX11_readConst_176 : decode cX11_readConst 176 = .ok (.aload_n 0, 1) := by decide +kernel
theorem dX11_readConst_177 : decode cX11_readConst 177 = .ok (.getfield 196, 3) := by decide +kernel
theorem dX11_readConst_180 : decode cX11_readConst 180 = .ok (.iconst 1, 1) := by decide +kernel
theorem dX11_readConst_181 : decode cX11_readConst 181 = .ok (.if_icmp .ne 115, 3) := by decide +kernel
theorem dX11_readConst_184 : decode cX11_readConst 184 = .ok (.sipush 520, 3) := by decide +kernel
theorem dX11_readConst_187 : decode cX11_readConst 187 = .ok (.aload_n 0, 1) := by decide +kernel
theorem dX11_readConst_188 : decode cX11_readConst 188 = .ok (.getfield 183, 3) := by decide +kernel
theorem dX11_readConst_191 : decode cX11_readConst 191 = .ok (.imul, 1) := by decide +kernel
theorem dX11_readConst_192 : decode cX11_readConst 192 = .ok (.aload_n 0, 1) := by decide +kernel
theorem dX11_readConst_193 : decode cX11_readConst 193 = .ok (.getfield 79, 3) := by decide +kernel
theorem dX11_readConst_196 : decode cX11_readConst 196 = .ok (.aload_n 0, 1) := by decide +kernel
theorem dX11_readConst_197 : decode cX11_readConst 197 = .ok (.getfield 183, 3) := by decide +kernel
theorem dX11_readConst_200 : decode cX11_readConst 200 = .ok (.iaload, 1) := by decide +kernel
theorem dX11_readConst_201 : decode cX11_readConst 201 = .ok (.iadd, 1) := by decide +kernel
theorem dX11_readConst_202 : decode cX11_readConst 202 = .ok (.istore_n 2, 1) := by decide +kernel
theorem dX11_readConst_203 : decode cX11_readConst 203 = .ok (.aload_n 0, 1) := by decide +kernel
theorem dX11_readConst_204 : decode cX11_readConst 204 = .ok (.getfield 82, 3) := by decide +kernel
theorem dX11_readConst_207 : decode cX11_readConst 207 = .ok (.iload_n 2, 1) := by decide +kernel
theorem dX11_readConst_208 : decode cX11_readConst 208 = .ok (.iload_n 1, 1) := by decide +kernel
theorem dX11_readConst_209 : decode cX11_readConst 209 = .ok (.iastore, 1) := by decide +kernel
theorem dX11_readConst_210 : decode cX11_readConst 210 = .ok (.aload_n 0, 1) := by decide +kernel
theorem dX11_readConst_211 : decode cX11_readConst 211 = .ok (.getfield 85, 3) := by decide +kernel
theorem dX11_readConst_214 : decode cX11_readConst 214 = .ok (.iload_n 2, 1) := by decide +kernel
theorem dX11_readConst_215 : decode cX11_readConst 215 = .ok (.aload_n 0, 1) := by decide +kernel
theorem dX11_readConst_216 : decode cX11_readConst 216 = .ok (.getfield 193, 3) := by decide +kernel
theorem dX11_readConst_219 : decode cX11_readConst 219 = .ok (.iastore, 1) := by decide +kernel
theorem dX11_readConst_220 : decode cX11_readConst 220 = .ok (.aload_n 0, 1) := by decide +kernel
theorem dX11_readConst_221 : decode cX11_readConst 221 = .ok (.getfield 88, 3) := by decide +kernel
theorem dX11_readConst_224 : decode cX11_readConst 224 = .ok (.iload_n 2, 1) := by decide +kernel
theorem dX11_readConst_225 : decode cX11_readConst 225 = .ok (.aload_n 0, 1) := by decide +kernel
theorem dX11_readConst_226 : decode cX11_readConst 226 = .ok (.getfield 206, 3) := by decide +kernel
theorem dX11_readConst_229 : decode cX11_readConst 229 = .ok (.iastore, 1) := by decide +kernel
theorem dX11_readConst_230 : decode cX11_readConst 230 = .ok (.aload_n 0, 1) := by decide +kernel
theorem dX11_readConst_231 : decode cX11_readConst 231 = .ok (.invokevirtual 256, 3) := by decide +kernel
theorem dX11_readConst_234 : decode cX11_readConst 234 = .ok (.aload_n 0, 1) := by decide +kernel
theorem dX11_readConst_235 : decode cX11_readConst 235 = .ok (.bipush 61, 2) := by decide +kernel
theorem dX11_readConst_237 : decode cX11_readConst 237 = .ok (.invokevirtual 268, 3) := by decide +kernel
theorem dX11_readConst_240 : decode cX11_readConst 240 = .ok (.aload_n 0, 1) := by decide +kernel
theorem dX11_readConst_241 : decode cX11_readConst 241 = .ok (.getfield 91, 3) := by decide +kernel
theorem dX11_readConst_244 : decode cX11_readConst 244 = .ok (.iload_n 2, 1) := by decide +kernel
theorem dX11_readConst_245 : decode cX11_readConst 245 = .ok (.aload_n 0, 1) := by decide +kernel
theorem dX11_readConst_246 : decode cX11_readConst 246 = .ok (.getfield 97, 3) := by decide +kernel
theorem dX11_readConst_249 : decode cX11_readConst 249 = .ok (.aload_n 0, 1) := by decide +kernel
theorem dX11_readConst_250 : decode cX11_readConst 250 = .ok (.getfield 183, 3) := by decide +kernel
theorem dX11_readConst_253 : decode cX11_readConst 253 = .ok (.iaload, 1) := by decide +kernel
theorem dX11_readConst_254 : decode cX11_readConst 254 = .ok (.iastore, 1) := by decide +kernel
theorem dX11_readConst_255 : decode cX11_readConst 255 = .ok (.aload_n 0, 1) := by decide +kernel
theorem dX11_readConst_256 : decode cX11_readConst 256 = .ok (.invokevirtual 278, 3) := by decide +kernel
theorem dX11_readConst_259 : decode cX11_readConst 259 = .ok (.aload_n 0, 1) := by decide +kernel
theorem dX11_readConst_260 : decode cX11_readConst 260 = .ok (.getfield 94, 3) := by decide +kernel
theorem dX11_readConst_263 : decode cX11_readConst 263 = .ok (.iload_n 2, 1) := by decide +kernel
theorem dX11_readConst_264 : decode cX11_readConst 264 = .ok (.aload_n 0, 1) := by decide +kernel
theorem dX11_readConst_265 : decode cX11_readConst 265 = .ok (.getfield 97, 3) := by decide +kernel
theorem dX11_readConst_268 : decode cX11_readConst 268 = .ok (.aload_n 0, 1) := by decide +kernel
theorem dX11_readConst_269 : decode cX11_readConst 269 = .ok (.getfield 183, 3) := by decide +kernel
theorem dX11_readConst_272 : decode cX11_readConst 272 = .ok (.iaload, 1) := by decide +kernel
theorem dX11_readConst_273 : decode cX11_readConst 273 = .ok (.iastore, 1) := by decide +kernel
theorem dX11_readConst_274 : decode cX11_readConst 274 = .ok (.aload_n 0, 1) := by decide +kernel
theorem dX11_readConst_275 : decode cX11_readConst 275 = .ok (.bipush 59, 2) := by decide +kernel
theorem dX11_readConst_277 : decode cX11_readConst 277 = .ok (.invokevirtual 268, 3) := by decide +kernel
theorem dX11_readConst_280 : decode cX11_readConst 280 = .ok (.aload_n 0, 1) := by decide +kernel
theorem dX11_readConst_281 : decode cX11_readConst 281 = .ok (.getfield 79, 3) := by decide +kernel
theorem dX11_readConst_284 : decode cX11_readConst 284 = .ok (.aload_n 0, 1) := by decide +kernel
theorem dX11_readConst_285 : decode cX11_readConst 285 = .ok (.getfield 183, 3) := by decide +kernel
theorem dX11_readConst_288 : decode cX11_readConst 288 = .ok (.dup2, 1) := by decide +kernel
theorem dX11_readConst_289 : decode cX11_readConst 289 = .ok (.iaload, 1) := by decide +kernel
theorem dX11_readConst_290 : decode cX11_readConst 290 = .ok (.iconst 1, 1) := by decide +kernel
theorem dX11_readConst_291 : decode cX11_readConst 291 = .ok (.iadd, 1) := by decide +kernel
theorem dX11_readConst_292 : decode cX11_readConst 292 = .ok (.iastore, 1) := by decide +kernel
theorem dX11_readConst_293 : decode cX11_readConst 293 = .ok (.goto (-124), 3) := by decide +kernel
theorem dX11_readConst_296 : decode cX11_readConst 296 = .ok (.aload_n 0, 1) := by decide +kernel
theorem dX11_readConst_297 : decode cX11_readConst 297 = .ok (.bipush 125, 2) := by decide +kernel
theorem dX11_readConst_299 : decode cX11_readConst 299 = .ok (.invokevirtual 268, 3) := by decide +kernel
theorem dX11_readConst_302 : decode cX11_readConst 302 = .ok (.return_, 1) := by decide +kernel
theorem dX11_readMember_0 : decode cX11_readMember 0 = .ok (.aload_n 0, 1) := by decide +kernel
theorem dX11_readMember_1 : decode cX11_readMember 1 = .ok (.getfield 196, 3) := by decide +kernel
theorem dX11_readMember_4 : decode cX11_readMember 4 = .ok (.istore_n 1, 1) := by decide +kernel
theorem dX11_readMember_5 : decode cX11_readMember 5 = .ok (.aload_n 0, 1) := by decide +kernel
theorem dX11_readMember_6 : decode cX11_readMember 6 = .ok (.getfield 193, 3) := by decide +kernel
theorem dX11_readMember_9 : decode cX11_readMember 9 = .ok (.istore_n 2, 1) := by decide +kernel
theorem dX11_readMember_10 : decode cX11_readMember 10 = .ok (.aload_n 0, 1) := by decide +kernel
theorem dX11_readMember_11 : decode cX11_readMember 11 = .ok (.invokevirtual 256, 3) := by decide +kernel
theorem dX11_readMember_14 : decode cX11_readMember 14 = .ok (.iload_n 1, 1) := by decide +kernel
theorem dX11_readMember_15 : decode cX11_readMember 15 = .ok (.bipush 25, 2) := by decide +kernel
theorem dX11_readMember_17 : decode cX11_readMember 17 = .ok (.if_icmp .ne 155, 3) := by decide +kernel
theorem dX11_readMember_20 : decode cX11_readMember 20 = .ok (.aload_n 0, 1) := by decide +kernel
theorem dX11_readMember_21 : decode cX11_readMember 21 = .ok (.bipush 61, 2) := by decide +kernel
theorem dX11_readMember_23 : decode cX11_readMember 23 = .ok (.invokevirtual 268, 3) := by decide +kernel
theorem dX11_readMember_26 : decode cX11_readMember 26 = .ok (.aload_n 0, 1) := by decide +kernel
theorem dX11_readMember_27 : decode cX11_readMember 27 = .ok (.getfield 97, 3) := by decide +kernel
theorem dX11_readMember_30 : decode cX11_readMember 30 = .ok (.aload_n 0, 1) := by decide +kernel
theorem dX11_readMember_31 : decode cX11_readMember 31 = .ok (.getfield 183, 3) := by decide +kernel
theorem dX11_readMember_34 : decode cX11_readMember 34 = .ok (.iaload, 1) := by decide +kernel
theorem dX11_readMember_35 : decode cX11_readMember 35 = .ok (.istore_n 3, 1) := by decide +kernel
theorem dX11_readMember_36 : decode cX11_readMember 36 = .ok (.aload_n 0, 1) := by decide +kernel
theorem dX11_readMember_37 : decode cX11_readMember 37 = .ok (.invokevirtual 278, 3) := by decide +kernel
theorem dX11_readMember_40 : decode cX11_readMember 40 = .ok (.aload_n 0, 1) := by decide +kernel
theorem dX11_readMember_41 : decode cX11_readMember 41 = .ok (.getfield 34, 3) := by decide +kernel
theorem dX11_readMember_44 : decode cX11_readMember 44 = .ok (.aload_n 0, 1) := by decide +kernel
theorem dX11_readMember_45 : decode cX11_readMember 45 = .ok (.getfield 265, 3) := by decide +kernel
theorem dX11_readMember_48 : decode cX11_readMember 48 = .ok (.iaload, 1) := by decide +kernel
theorem dX11_readMember_49 : decode cX11_readMember 49 = .ok (.ifCond .ge 34, 3) := by decide +kernel
theorem dX11_readMember_52 : decode cX11_readMember 52 = .ok (.aload_n 0, 1) := by decide +kernel
theorem dX11_readMember_53 : decode cX11_readMember 53 = .ok (.getfield 34, 3) := by decide +kernel
theorem dX11_readMember_56 : decode cX11_readMember 56 = .ok (.aload_n 0, 1) := by decide +kernel
theorem dX11_readMember_57 : decode cX11_readMember 57 = .ok (.getfield 265, 3) := by decide +kernel
theorem dX11_readMember_60 : decode cX11_readMember 60 = .ok (.iload_n 3, 1) := by decide +kernel
theorem dX11_readMember_61 : decode cX11_readMember 61 = .ok (.iastore, 1) := by decide +kernel
theorem dX11_readMember_62 : decode cX11_readMember 62 = .ok (.aload_n 0, 1) := by decide +kernel
theorem dX11_readMember_63 : decode cX11_readMember 63 = .ok (.getfield 37, 3) := by decide +kernel
theorem dX11_readMember_66 : decode cX11_readMember 66 = .ok (.aload_n 0, 1) := by decide +kernel
theorem dX11_readMember_67 : decode cX11_readMember 67 = .ok (.getfield 265, 3) := by decide +kernel
theorem dX11_readMember_70 : decode cX11_readMember 70 = .ok (.aload_n 0, 1) := by decide +kernel
theorem dX11_readMember_71 : decode cX11_readMember 71 = .ok (.getfield 97, 3) := by decide +kernel
theorem dX11_readMember_74 : decode cX11_readMember 74 = .ok (.aload_n 0, 1) := by decide +kernel
theorem dX11_readMember_75 : decode cX11_readMember 75 = .ok (.getfield 183, 3) := by decide +kernel
theorem dX11_readMember_78 : decode cX11_readMember 78 = .ok (.iaload, 1) := by decide +kernel
theorem dX11_readMember_79 : decode cX11_readMember 79 = .ok (.iastore, 1) := by decide +kernel
theorem dX11_readMember_80 : decode cX11_readMember 80 = .ok (.goto 25, 3) := by decide +kernel
theorem dX11_readMember_83 : decode cX11_readMember 83 = .ok (.aload_n 0, 1) := by decide +kernel
theorem dX11_readMember_84 : decode cX11_readMember 84 = .ok (.getfield 121, 3) := by decide +kernel
theorem dX11_readMember_87 : decode cX11_readMember 87 = .ok (.aload_n 0, 1) := by decide +kernel
theorem dX11_readMember_88 : decode cX11_readMember 88 = .ok (.getfield 265, 3) := by decide +kernel
theorem dX11_readMember_91 : decode cX11_readMember 91 = .ok (.iaload, 1) := by decide +kernel
theorem dX11_readMember_92 : decode cX11_readMember 92 = .ok (.ifCond .ge 13, 3) := by decide +kernel
theorem dX11_readMember_95 : decode cX11_readMember 95 = .ok (.aload_n 0, 1) := by decide +kernel
theorem dX11_readMember_96 : decode cX11_readMember 96 = .ok (.getfield 121, 3) := by decide +kernel
theorem dX11_readMember_99 : decode cX11_readMember 99 = .ok (.aload_n 0, 1) := by decide +kernel
theorem dX11_readMember_100 : decode cX11_readMember 100 = .ok (.getfield 265, 3) := by decide +kernel
theorem dX11_readMember_103 : decode cX11_readMember 103 = .ok (.iload_n 2, 1) := by decide +kernel
theorem dX11_readMember_104 : decode cX11_readMember 104 = .ok (.iastore, 1) := by decide +kernel
theorem dX11_readMember_105 : decode cX11_readMember 105 = .ok (.iload_n 3, 1) := by decide +kernel
theorem dX11_readMember_106 : decode cX11_readMember 106 = .ok (.istore 4, 2) := by decide +kernel
theorem dX11_readMember_108 : decode cX11_readMember 108 = .ok (.iload 4, 2) := by decide +kernel
theorem dX11_readMember_110 : decode cX11_readMember 110 = .ok (.aload_n 0, 1) := by decide +kernel
theorem dX11_readMember_111 : decode cX11_readMember 111 = .ok (.getfield 97, 3) := by decide +kernel
theorem dX11_readMember_114 : decode cX11_readMember 114 = .ok (.aload_n 0, 1) := by decide +kernel
theorem dX11_readMember_115 : decode cX11_readMember 115 = .ok (.getfield 183, 3) := by decide +kernel
theorem dX11_readMember_118 : decode cX11_readMember 118 = .ok (.iaload, 1) := by decide +kernel
theorem dX11_readMember_119 : decode cX11_readMember 119 = .ok (.if_icmp .ge 46, 3) := by decide +kernel
theorem dX11_readMember_122 : decode cX11_readMember 122 = .ok (.aload_n 0, 1) := by decide +kernel
theorem dX11_readMember_123 : decode cX11_readMember 123 = .ok (.getfield 124, 3) := by decide +kernel
theorem dX11_readMember_126 : decode cX11_readMember 126 = .ok (.sipush 2100, 3) := by decide +kernel
theorem dX11_readMember_129 : decode cX11_readMember 129 = .ok (.aload_n 0, 1) := by decide +kernel
theorem dX11_readMember_130 : decode cX11_readMember 130 = .ok (.getfield 183, 3) := by decide +kernel
theorem dX11_readMember_133 : decode cX11_readMember 133 = .ok (.imul, 1) := by decide +kernel
theorem dX11_readMember_134 : decode cX11_readMember 134 = .ok (.iload 4, 2) := by decide +kernel
theorem dX11_readMember_136 : decode cX11_readMember 136 = .ok (.iadd, 1) := by decide +kernel
theorem dX11_readMember_137 : decode cX11_readMember 137 = .ok (.iconst 1, 1) := by decide +kernel
theorem dX11_readMember_138 : decode cX11_readMember 138 = .ok (.iastore, 1) := by decide +kernel
theorem dX11_readMember_139 : decode cX11_readMember 139 = .ok (.aload_n 0, 1) := by decide +kernel
theorem dX11_readMember_140 : decode cX11_readMember 140 = .ok (.getfield 127, 3) := by decide +kernel
theorem dX11_readMember_143 : decode cX11_readMember 143 = .ok (.sipush 2100, 3) := by decide +kernel
theorem dX11_readMember_146 : decode cX11_readMember 146 = .ok (.aload_n 0, 1) := by decide +kernel
theorem dX11_readMember_147 : decode cX11_readMember 147 = .ok (.getfield 183, 3) := by decide +kernel
theorem dX11_readMember_150 : decode cX11_readMember 150 = .ok (.imul, 1) := by decide +kernel
theorem dX11_readMember_151 : decode cX11_readMember 151 = .ok (.iload 4, 2) := by decide +kernel
theorem dX11_readMember_153 : decode cX11_readMember 153 = .ok (.iadd, 1) := by decide +kernel
theorem dX11_readMember_154 : decode cX11_readMember 154 = .ok (.aload_n 0, 1) := by decide +kernel
theorem dX11_readMember_155 : decode cX11_readMember 155 = .ok (.getfield 265, 3) := by decide +kernel
theorem dX11_readMember_158 : decode cX11_readMember 158 = .ok (.iastore, 1) := by decide +kernel
theorem dX11_readMember_159 : decode cX11_readMember 159 = .ok (.iinc 4 1, 3) := by decide +kernel
theorem dX11_readMember_162 : decode cX11_readMember 162 = .ok (.goto (-54), 3) := by decide +kernel
theorem dX11_readMember_165 : decode cX11_readMember 165 = .ok (.aload_n 0, 1) := by decide +kernel
theorem dX11_readMember_166 : decode cX11_readMember 166 = .ok (.bipush 59, 2) := by decide +kernel
theorem dX11_readMember_168 : decode cX11_readMember 168 = .ok (.invokevirtual 268, 3) := by decide +kernel
theorem dX11_readMember_171 : decode cX11_readMember 171 = .ok (.return_, 1) := by decide +kernel
theorem dX11_readMember_172 : decode cX11_readMember 172 = .ok (.iload_n 1, 1) := by decide +kernel
theorem dX11_readMember_173 : decode cX11_readMember 173 = .ok (.bipush 23, 2) := by decide +kernel
theorem dX11_readMember_175 : decode cX11_readMember 175 = .ok (.if_icmp .eq 9, 3) := by decide +kernel
theorem dX11_readMember_178 : decode cX11_readMember 178 = .ok (.iload_n 1, 1) := by decide +kernel
theorem dX11_readMember_179 : decode cX11_readMember 179 = .ok (.bipush 24, 2) := by decide +kernel
theorem dX11_readMember_181 : decode cX11_readMember 181 = .ok (.if_icmp .ne 7, 3) := by decide +kernel
theorem dX11_readMember_184 : decode cX11_readMember 184 = .ok (.iconst 1, 1) := by decide +kernel
theorem dX11_readMember_185 : decode cX11_readMember 185 = .ok (.goto 4, 3) := by decide +kernel
theorem dX11_readMember_188 : decode cX11_readMember 188 = .ok (.iconst 0, 1) := by decide +kernel
theorem dX11_readMember_189 : decode cX11_readMember 189 = .ok (.istore_n 3, 1) := by decide +kernel
theorem dX11_readMember_190 : decode cX11_readMember 190 = .ok (.aload_n 0, 1) := by decide +kernel
theorem dX11_readMember_191 : decode cX11_readMember 191 = .ok (.getfield 196, 3) := by decide +kernel
theorem dX11_readMember_194 : decode cX11_readMember 194 = .ok (.iconst 1, 1) := by decide +kernel
theorem dX11_readMember_195 : decode cX11_readMember 195 = .ok (.if_icmp .ne 38, 3) := by decide +kernel
theorem dX11_readMember_198 : decode cX11_readMember 198 = .ok (.iload_n 3, 1) := by decide +kernel
theorem dX11_readMember_199 : decode cX11_readMember 199 = .ok (.ifCond .eq 20, 3) := by decide +kernel
theorem dX11_readMember_202 : decode cX11_readMember 202 = .ok (.aload_n 0, 1) := by decide +kernel
theorem dX11_readMember_203 : decode cX11_readMember 203 = .ok (.getfield 31, 3) := by decide +kernel
theorem dX11_readMember_206 : decode cX11_readMember 206 = .ok (.aload_n 0, 1) := by decide +kernel
theorem dX11_readMember_207 : decode cX11_readMember 207 = .ok (.getfield 265, 3) := by decide +kernel
theorem dX11_readMember_210 : decode cX11_readMember 210 = .ok (.iaload, 1) := by decide +kernel
theorem dX11_readMember_211 : decode cX11_readMember 211 = .ok (.bipush 6, 2) := by decide +kernel
theorem dX11_readMember_213 : decode cX11_readMember 213 = .ok (.if_icmp .ne 25, 3) := by decide +kernel
theorem dX11_readMember_216 : decode cX11_readMember 216 = .ok (.goto 17, 3) := by decide +kernel
theorem dX11_readMember_219 : decode cX11_readMember 219 = .ok (.aload_n 0, 1) := by decide +kernel
theorem dX11_readMember_220 : decode cX11_readMember 220 = .ok (.getfield 28, 3) := by decide +kernel
theorem dX11_readMember_223 : decode cX11_readMember 223 = .ok (.aload_n 0, 1) := by decide +kernel
theorem dX11_readMember_224 : decode cX11_readMember 224 = .ok (.getfield 265, 3) := by decide +kernel
theorem dX11_readMember_227 : decode cX11_readMember 227 = .ok (.iaload, 1) := by decide +kernel
theorem dX11_readMember_228 : decode cX11_readMember 228 = .ok (.bipush 8, 2) := by decide +kernel
theorem dX11_readMember_230 : decode cX11_readMember 230 = .ok (.if_icmp .ne 8, 3) := by decide +kernel
theorem dX11_readMember_233 : decode cX11_readMember 233 = .ok (.aload_n 0, 1) := by decide +kernel
theorem dX11_readMember_234 : decode cX11_readMember 234 = .ok (.invokevirtual 259, 3) := by decide +kernel
theorem dX11_readMember_237 : decode cX11_readMember 237 = .ok (.return_, 1) := by decide +kernel
theorem dX11_readMember_238 : decode cX11_readMember 238 = .ok (.bipush 8, 2) := by decide +kernel
theorem dX11_readMember_240 : decode cX11_readMember 240 = .ok (.aload_n 0, 1) := by decide +kernel
theorem dX11_readMember_241 : decode cX11_readMember 241 = .ok (.getfield 265, 3) := by decide +kernel
theorem dX11_readMember_244 : decode cX11_readMember 244 = .ok (.imul, 1) := by decide +kernel
theorem dX11_readMember_245 : decode cX11_readMember 245 = .ok (.aload_n 0, 1) := by decide +kernel
theorem dX11_readMember_246 : decode cX11_readMember 246 = .ok (.getfield 28, 3) := by decide +kernel
theorem dX11_readMember_249 : decode cX11_readMember 249 = .ok (.aload_n 0, 1) := by decide +kernel
theorem dX11_readMember_250 : decode cX11_readMember 250 = .ok (.getfield 265, 3) := by decide +kernel
theorem dX11_readMember_253 : decode cX11_readMember 253 = .ok (.iaload, 1) := by decide +kernel
theorem dX11_readMember_254 : decode cX11_readMember 254 = .ok (.iadd, 1) := by decide +kernel
theorem dX11_readMember_255 : decode cX11_readMember 255 = .ok (.istore 4, 2) := by decide +kernel
theorem dX11_readMember_257 : decode cX11_readMember 257 = .ok (.bipush 6, 2) := by decide +kernel
theorem dX11_readMember_259 : decode cX11_readMember 259 = .ok (.aload_n 0, 1) := by decide +kernel
theorem dX11_readMember_260 : decode cX11_readMember 260 = .ok (.getfield 265, 3) := by decide +kernel
theorem dX11_readMember_263 : decode cX11_readMember 263 = .ok (.imul, 1) := by decide +kernel
theorem dX11_readMember_264 : decode cX11_readMember 264 = .ok (.aload_n 0, 1) := by decide +kernel
theorem dX11_readMember_265 : decode cX11_readMember 265 = .ok (.getfield 31, 3) := by decide +kernel
theorem dX11_readMember_268 : decode cX11_readMember 268 = .ok (.aload_n 0, 1) := by decide +kernel
theorem dX11_readMember_269 : decode cX11_readMember 269 = .ok (.getfield 265, 3) := by decide +kernel
theorem dX11_readMember_272 : decode cX11_readMember 272 = .ok (.iaload, 1) := by decide +kernel
theorem dX11_readMember_273 : decode cX11_readMember 273 = .ok (.iadd, 1) := by decide +kernel
theorem dX11_readMember_274 : decode cX11_readMember 274 = .ok (.istore 5, 2) := by decide +kernel
theorem dX11_readMember_276 : decode cX11_readMember 276 = .ok (.iload_n 3, 1) := by decide +kernel
theorem dX11_readMember_277 : decode cX11_readMember 277 = .ok (.ifCond .eq 41, 3) := by decide +kernel
theorem dX11_readMember_280 : decode cX11_readMember 280 = .ok (.aload_n 0, 1) := by decide +kernel
theorem dX11_readMember_281 : decode cX11_readMember 281 = .ok (.getfield 64, 3) := by decide +kernel
theorem dX11_readMember_284 : decode cX11_readMember 284 = .ok (.iload 5, 2) := by decide +kernel
theorem dX11_readMember_286 : decode cX11_readMember 286 = .ok (.aload_n 0, 1) := by decide +kernel
theorem dX11_readMember_287 : decode cX11_readMember 287 = .ok (.getfield 193, 3) := by decide +kernel
theorem dX11_readMember_290 : decode cX11_readMember 290 = .ok (.iastore, 1) := by decide +kernel
theorem dX11_readMember_291 : decode cX11_readMember 291 = .ok (.aload_n 0, 1) := by decide +kernel
theorem dX11_readMember_292 : decode cX11_readMember 292 = .ok (.getfield 67, 3) := by decide +kernel
theorem dX11_readMember_295 : decode cX11_readMember 295 = .ok (.iload 5, 2) := by decide +kernel
theorem dX11_readMember_297 : decode cX11_readMember 297 = .ok (.aload_n 0, 1) := by decide +kernel
theorem dX11_readMember_298 : decode cX11_readMember 298 = .ok (.getfield 206, 3) := by decide +kernel
theorem dX11_readMember_301 : decode cX11_readMember 301 = .ok (.iastore, 1) := by decide +kernel
theorem dX11_readMember_302 : decode cX11_readMember 302 = .ok (.aload_n 0, 1) := by decide +kernel
theorem dX11_readMember_303 : decode cX11_readMember 303 = .ok (.getfield 31, 3) := by decide +kernel
theorem dX11_readMember_306 : decode cX11_readMember 306 = .ok (.aload_n 0, 1) := by decide +kernel
theorem dX11_readMember_307 : decode cX11_readMember 307 = .ok (.getfield 265, 3) := by decide +kernel
theorem dX11_readMember_310 : decode cX11_readMember 310 = .ok (.dup2, 1) := by decide +kernel
theorem dX11_readMember_311 : decode cX11_readMember 311 = .ok (.iaload, 1) := by decide +kernel
theorem dX11_readMember_312 : decode cX11_readMember 312 = .ok (.iconst 1, 1) := by decide +kernel
theorem dX11_readMember_313 : decode cX11_readMember 313 = .ok (.iadd, 1) := by decide +kernel
theorem dX11_readMember_314 : decode cX11_readMember 314 = .ok (.iastore, 1) := by decide +kernel
theorem dX11_readMember_315 : decode cX11_readMember 315 = .ok (.goto 46, 3) := by decide +kernel
theorem dX11_readMember_318 : decode cX11_readMember 318 = .ok (.aload_n 0, 1) := by decide +kernel
theorem dX11_readMember_319 : decode cX11_readMember 319 = .ok (.getfield 52, 3) := by decide +kernel
theorem dX11_readMember_322 : decode cX11_readMember 322 = .ok (.iload 4, 2) := by decide +kernel
theorem dX11_readMember_324 : decode cX11_readMember 324 = .ok (.aload_n 0, 1) := by decide +kernel
theorem dX11_readMember_325 : decode cX11_readMember 325 = .ok (.getfield 193, 3) := by decide +kernel
theorem dX11_readMember_328 : decode cX11_readMember 328 = .ok (.iastore, 1) := by decide +kernel
theorem dX11_readMember_329 : decode cX11_readMember 329 = .ok (.aload_n 0, 1) := by decide +kernel
theorem dX11_readMember_330 : decode cX11_readMember 330 = .ok (.getfield 55, 3) := by decide +kernel
theorem dX11_readMember_333 : decode cX11_readMember 333 = .ok (.iload 4, 2) := by decide +kernel
theorem dX11_readMember_335 : decode cX11_readMember 335 = .ok (.aload_n 0, 1) := by decide +kernel
theorem dX11_readMember_336 : decode cX11_readMember 336 = .ok (.getfield 206, 3) := by decide +kernel
theorem dX11_readMember_339 : decode cX11_readMember 339 = .ok (.iastore, 1) := by decide +kernel
theorem dX11_readMember_340 : decode cX11_readMember 340 = .ok (.aload_n 0, 1) := by decide +kernel
theorem dX11_readMember_341 : decode cX11_readMember 341 = .ok (.getfield 58, 3) := by decide +kernel
theorem dX11_readMember_344 : decode cX11_readMember 344 = .ok (.iload 4, 2) := by decide +kernel
theorem dX11_readMember_346 : decode cX11_readMember 346 = .ok (.iconst (-1), 1) := by decide +kernel
theorem dX11_readMember_347 : decode cX11_readMember 347 = .ok (.iastore, 1) := by decide +kernel
theorem dX11_readMember_348 : decode cX11_readMember 348 = .ok (.aload_n 0, 1) := by decide +kernel
theorem dX11_readMember_349 : decode cX11_readMember 349 = .ok (.getfield 28, 3) := by decide +kernel
theorem dX11_readMember_352 : decode cX11_readMember 352 = .ok (.aload_n 0, 1) := by decide +kernel
theorem dX11_readMember_353 : decode cX11_readMember 353 = .ok (.getfield 265, 3) := by decide +kernel
theorem dX11_readMember_356 : decode cX11_readMember 356 = .ok (.dup2, 1) := by decide +kernel
theorem dX11_readMember_357 : decode cX11_readMember 357 = .ok (.iaload, 1) := by decide +kernel
theorem dX11_readMember_358 : decode cX11_readMember 358 = .ok (.iconst 1, 1) := by decide +kernel
theorem dX11_readMember_359 : decode cX11_readMember 359 = .ok (.iadd, 1) := by decide +kernel
theorem dX11_readMember_360 : decode cX11_readMember 360 = .ok (.iastore, 1) := by decide +kernel
theorem dX11_readMember_361 : decode cX11_readMember 361 = .ok (.aload_n 0, 1) := by decide +kernel
theorem dX11_readMember_362 : decode cX11_readMember 362 = .ok (.invokevirtual 256, 3) := by decide +kernel
theorem dX11_readMember_365 : decode cX11_readMember 365 = .ok (.iload_n 1, 1) := by decide +kernel
theorem dX11_readMember_366 : decode cX11_readMember 366 = .ok (.bipush 21, 2) := by decide +kernel
theorem dX11_readMember_368 : decode cX11_readMember 368 = .ok (.if_icmp .ne 10, 3) := by decide +kernel
theorem dX11_readMember_371 : decode cX11_readMember 371 = .ok (.aload_n 0, 1) := by decide +kernel
theorem dX11_readMember_372 : decode cX11_readMember 372 = .ok (.bipush 59, 2) := by decide +kernel
theorem dX11_readMember_374 : decode cX11_readMember 374 = .ok (.invokevirtual 268, 3) := by decide +kernel
theorem dX11_readMember_377 : decode cX11_readMember 377 = .ok (.return_, 1) := by decide +kernel
theorem dX11_readMember_378 : decode cX11_readMember 378 = .ok (.aload_n 0, 1) := by decide +kernel
theorem dX11_readMember_379 : decode cX11_readMember 379 = .ok (.bipush 61, 2) := by decide +kernel
theorem dX11_readMember_381 : decode cX11_readMember 381 = .ok (.invokevirtual 268, 3) := by decide +kernel
theorem dX11_readMember_384 : decode cX11_readMember 384 = .ok (.aload_n 0, 1) := by decide +kernel
theorem dX11_readMember_385 : decode cX11_readMember 385 = .ok (.getfield 97, 3) := by decide +kernel
theorem dX11_readMember_388 : decode cX11_readMember 388 = .ok (.aload_n 0, 1) := by decide +kernel
theorem dX11_readMember_389 : decode cX11_readMember 389 = .ok (.getfield 183, 3) := by decide +kernel
theorem dX11_readMember_392 : decode cX11_readMember 392 = .ok (.iaload, 1) := by decide +kernel
theorem dX11_readMember_393 : decode cX11_readMember 393 = .ok (.istore 6, 2) := by decide +kernel
theorem dX11_readMember_395 : decode cX11_readMember 395 = .ok (.iload_n 1, 1) := by decide +kernel
theorem dX11_readMember_396 : decode cX11_readMember 396 = .ok (.bipush 24, 2) := by decide +kernel
theorem dX11_readMember_398 : decode cX11_readMember 398 = .ok (.if_icmp .ne 49, 3) := by decide +kernel
theorem dX11_readMember_401 : decode cX11_readMember 401 = .ok (.aload_n 0, 1) := by decide +kernel
theorem dX11_readMember_402 : decode cX11_readMember 402 = .ok (.invokevirtual 249, 3) := by decide +kernel
theorem dX11_readMember_405 : decode cX11_readMember 405 = .ok (.ifCond .eq 11, 3) := by decide +kernel
theorem dX11_readMember_408 : decode cX11_readMember 408 = .ok (.aload_n 0, 1) := by decide +kernel
theorem dX11_readMember_409 : decode cX11_readMember 409 = .ok (.getfield 196, 3) := by decide +kernel
theorem dX11_readMember_412 : decode cX11_readMember 412 = .ok (.iconst 2, 1) := by decide +kernel
theorem dX11_readMember_413 : decode cX11_readMember 413 = .ok (.if_icmp .eq 8, 3) := by decide +kernel
theorem dX11_readMember_416 : decode cX11_readMember 416 = .ok (.aload_n 0, 1) := by decide +kernel
theorem dX11_readMember_417 : decode cX11_readMember 417 = .ok (.invokevirtual 259, 3) := by decide +kernel
theorem dX11_readMember_420 : decode cX11_readMember 420 = .ok (.return_, 1) := by decide +kernel
theorem dX11_readMember_421 : decode cX11_readMember 421 = .ok (.aload_n 0, 1) := by decide +kernel
theorem dX11_readMember_422 : decode cX11_readMember 422 = .ok (.getfield 73, 3) := by decide +kernel
theorem dX11_readMember_425 : decode cX11_readMember 425 = .ok (.iload 5, 2) := by decide +kernel
theorem dX11_readMember_427 : decode cX11_readMember 427 = .ok (.iconst (-1), 1) := by decide +kernel
theorem dX11_readMember_428 : decode cX11_readMember 428 = .ok (.iastore, 1) := by decide +kernel
theorem dX11_readMember_429 : decode cX11_readMember 429 = .ok (.aload_n 0, 1) := by decide +kernel
theorem dX11_readMember_430 : decode cX11_readMember 430 = .ok (.getfield 70, 3) := by decide +kernel
theorem dX11_readMember_433 : decode cX11_readMember 433 = .ok (.iload 5, 2) := by decide +kernel
theorem dX11_readMember_435 : decode cX11_readMember 435 = .ok (.aload_n 0, 1) := by decide +kernel
theorem dX11_readMember_436 : decode cX11_readMember 436 = .ok (.getfield 213, 3) := by decide +kernel
theorem dX11_readMember_439 : decode cX11_readMember 439 = .ok (.iastore, 1) := by decide +kernel
theorem dX11_readMember_440 : decode cX11_readMember 440 = .ok (.aload_n 0, 1) := by decide +kernel
theorem dX11_readMember_441 : decode cX11_readMember 441 = .ok (.invokevirtual 256, 3) := by decide +kernel
theorem dX11_readMember_444 : decode cX11_readMember 444 = .ok (.goto 105, 3) := by decide +kernel
theorem dX11_readMember_447 : decode cX11_readMember 447 = .ok (.aload_n 0, 1) := by decide +kernel
theorem dX11_readMember_448 : decode cX11_readMember 448 = .ok (.invokevirtual 278, 3) := by decide +kernel
theorem dX11_readMember_451 : decode cX11_readMember 451 = .ok (.iload_n 3, 1) := by decide +kernel
theorem dX11_readMember_452 : decode cX11_readMember 452 = .ok (.ifCond .eq 72, 3) := by decide +kernel
theorem dX11_readMember_455 : decode cX11_readMember 455 = .ok (.aload_n 0, 1) := by decide +kernel
theorem dX11_readMember_456 : decode cX11_readMember 456 = .ok (.getfield 73, 3) := by decide +kernel
theorem dX11_readMember_459 : decode cX11_readMember 459 = .ok (.iload 5, 2) := by decide +kernel
theorem dX11_readMember_461 : decode cX11_readMember 461 = .ok (.iload 6, 2) := by decide +kernel
theorem dX11_readMember_463 : decode cX11_readMember 463 = .ok (.iastore, 1) := by decide +kernel
theorem dX11_readMember_464 : decode cX11_readMember 464 = .ok (.aload_n 0, 1) := by decide +kernel
theorem dX11_readMember_465 : decode cX11_readMember 465 = .ok (.getfield 76, 3) := by decide +kernel
theorem dX11_readMember_468 : decode cX11_readMember 468 = .ok (.iload 5, 2) := by decide +kernel
theorem dX11_readMember_470 : decode cX11_readMember 470 = .ok (.aload_n 0, 1) := by decide +kernel
theorem dX11_readMember_471 : decode cX11_readMember 471 = .ok (.getfield 97, 3) := by decide +kernel
theorem dX11_readMember_474 : decode cX11_readMember 474 = .ok (.aload_n 0, 1) := by decide +kernel
theorem dX11_readMember_475 : decode cX11_readMember 475 = .ok (.getfield 183, 3) := by decide +kernel
theorem dX11_readMember_478 : decode cX11_readMember 478 = .ok (.iaload, 1) := by decide +kernel
theorem dX11_readMember_479 : decode cX11_readMember 479 = .ok (.iastore, 1) := by decide +kernel
theorem dX11_readMember_480 : decode cX11_readMember 480 = .ok (.iload 6, 2) := by decide +kernel
theorem dX11_readMember_482 : decode cX11_readMember 482 = .ok (.istore 7, 2) := by decide +kernel
theorem dX11_readMember_484 : decode cX11_readMember 484 = .ok (.iload 7, 2) := by decide +kernel
theorem dX11_readMember_486 : decode cX11_readMember 486 = .ok (.aload_n 0, 1) := by decide +kernel
theorem dX11_readMember_487 : decode cX11_readMember 487 = .ok (.getfield 97, 3) := by decide +kernel
theorem dX11_readMember_490 : decode cX11_readMember 490 = .ok (.aload_n 0, 1) := by decide +kernel
theorem dX11_readMember_491 : decode cX11_readMember 491 = .ok (.getfield 183, 3) := by decide +kernel
theorem dX11_readMember_494 : decode cX11_readMember 494 = .ok (.iaload, 1) := by decide +kernel
theorem dX11_readMember_495 : decode cX11_readMember 495 = .ok (.if_icmp .ge 26, 3) := by decide +kernel
theorem dX11_readMember_498 : decode cX11_readMember 498 = .ok (.aload_n 0, 1) := by decide +kernel
theorem dX11_readMember_499 : decode cX11_readMember 499 = .ok (.getfield 124, 3) := by decide +kernel
theorem dX11_readMember_502 : decode cX11_readMember 502 = .ok (.sipush 2100, 3) := by decide +kernel
theorem dX11_readMember_505 : decode cX11_readMember 505 = .ok (.aload_n 0, 1) := by decide +kernel
theorem dX11_readMember_506 : decode cX11_readMember 506 = .ok (.getfield 183, 3) := by decide +kernel
theorem dX11_readMember_509 : decode cX11_readMember 509 = .ok (.imul, 1) := by decide +kernel
theorem dX11_readMember_510 : decode cX11_readMember 510 = .ok (.iload 7, 2) := by decide +kernel
theorem dX11_readMember_512 : decode cX11_readMember 512 = .ok (.iadd, 1) := by decide +kernel
theorem dX11_readMember_513 : decode cX11_readMember 513 = .ok (.iconst 2, 1) := by decide +kernel
theorem dX11_readMember_514 : decode cX11_readMember 514 = .ok (.iastore, 1) := by decide +kernel
theorem dX11_readMember_515 : decode cX11_readMember 515 = .ok (.iinc 7 1, 3) := by decide +kernel
theorem dX11_readMember_518 : decode cX11_readMember 518 = .ok (.goto (-34), 3) := by decide +kernel
theorem dX11_readMember_521 : decode cX11_readMember 521 = .ok (.goto 28, 3) := by decide +kernel
theorem dX11_readMember_524 : decode cX11_readMember 524 = .ok (.aload_n 0, 1) := by decide +kernel
theorem dX11_readMember_525 : decode cX11_readMember 525 = .ok (.getfield 58, 3) := by decide +kernel
theorem dX11_readMember_528 : decode cX11_readMember 528 = .ok (.iload 4, 2) := by decide +kernel
theorem dX11_readMember_530 : decode cX11_readMember 530 = .ok (.iload 6, 2) := by decide +kernel
theorem dX11_readMember_532 : decode cX11_readMember 532 = .ok (.iastore, 1) := by decide +kernel
theorem dX11_readMember_533 : decode cX11_readMember 533 = .ok (.aload_n 0, 1) := by decide +kernel
theorem dX11_readMember_534 : decode cX11_readMember 534 = .ok (.getfield 61, 3) := by decide +kernel
theorem dX11_readMember_537 : decode cX11_readMember 537 = .ok (.iload 4, 2) := by decide +kernel
theorem dX11_readMember_539 : decode cX11_readMember 539 = .ok (.aload_n 0, 1) := by decide +kernel
theorem dX11_readMember_540 : decode cX11_readMember 540 = .ok (.getfield 97, 3) := by decide +kernel
theorem dX11_readMember_543 : decode cX11_readMember 543 = .ok (.aload_n 0, 1) := by decide +kernel
theorem dX11_readMember_544 : decode cX11_readMember 544 = .ok (.getfield 183, 3) := by decide +kernel
theorem dX11_readMember_547 : decode cX11_readMember 547 = .ok (.iaload, 1) := by decide +kernel
theorem dX11_readMember_548 : decode cX11_readMember 548 = .ok (.iastore, 1) := by decide +kernel
theorem dX11_readMember_549 : decode cX11_readMember 549 = .ok (.aload_n 0, 1) := by decide +kernel
theorem dX11_readMember_550 : decode cX11_readMember 550 = .ok (.bipush 59, 2) := by decide +kernel
theorem dX11_readMember_552 : decode cX11_readMember 552 = .ok (.invokevirtual 268, 3) := by decide +kernel
theorem dX11_readMember_555 : decode cX11_readMember 555 = .ok (.return_, 1) := by decide +kernel
theorem dX11_emit_0 : decode cX11_emit 0 = .ok (.sipush 2100, 3) := by decide +kernel
theorem dX11_emit_3 : decode cX11_emit 3 = .ok (.aload_n 0, 1) := by decide +kernel
theorem dX11_emit_4 : decode cX11_emit 4 = .ok (.getfield 183, 3) := by decide +kernel
theorem dX11_emit_7 : decode cX11_emit 7 = .ok (.imul, 1) := by decide +kernel
theorem dX11_emit_8 : decode cX11_emit 8 = .ok (.aload_n 0, 1) := by decide +kernel
theorem dX11_emit_9 : decode cX11_emit 9 = .ok (.getfield 97, 3) := by decide +kernel
theorem dX11_emit_12 : decode cX11_emit 12 = .ok (.aload_n 0, 1) := by decide +kernel
theorem dX11_emit_13 : decode cX11_emit 13 = .ok (.getfield 183, 3) := by decide +kernel
theorem dX11_emit_16 : decode cX11_emit 16 = .ok (.iaload, 1) := by decide +kernel
theorem dX11_emit_17 : decode cX11_emit 17 = .ok (.iadd, 1) := by decide +kernel
theorem dX11_emit_18 : decode cX11_emit 18 = .ok (.istore_n 3, 1) := by decide +kernel
theorem dX11_emit_19 : decode cX11_emit 19 = .ok (.aload_n 0, 1) := by decide +kernel
theorem dX11_emit_20 : decode cX11_emit 20 = .ok (.getfield 100, 3) := by decide +kernel
theorem dX11_emit_23 : decode cX11_emit 23 = .ok (.iload_n 3, 1) := by decide +kernel
theorem dX11_emit_24 : decode cX11_emit 24 = .ok (.iload_n 1, 1) := by decide +kernel
theorem dX11_emit_25 : decode cX11_emit 25 = .ok (.iastore, 1) := by decide +kernel
