section
variable {g : EG}
theorem dX12_init_0 : decode cX12_init 0 = .ok (.aload_n 0, 1) := by decide +kernel
theorem dX12_init_1 : decode cX12_init 1 = .ok (.invokespecial 1, 3) := by decide +kernel
theorem dX12_init_4 : decode cX12_init 4 = .ok (.aload_n 0, 1) := by decide +kernel
theorem dX12_init_5 : decode cX12_init 5 = .ok (.bipush 40, 2) := by decide +kernel
theorem dX12_init_7 : decode cX12_init 7 = .ok (.newarray .int, 2) := by decide +kernel
theorem dX12_init_9 : decode cX12_init 9 = .ok (.putfield 9, 3) := by decide +kernel
theorem dX12_init_12 : decode cX12_init 12 = .ok (.aload_n 0, 1) := by decide +kernel
theorem dX12_init_13 : decode cX12_init 13 = .ok (.bipush 40, 2) := by decide +kernel
theorem dX12_init_15 : decode cX12_init 15 = .ok (.newarray .int, 2) := by decide +kernel
theorem dX12_init_17 : decode cX12_init 17 = .ok (.putfield 13, 3) := by decide +kernel
theorem dX12_init_20 : decode cX12_init 20 = .ok (.aload_n 0, 1) := by decide +kernel
theorem dX12_init_21 : decode cX12_init 21 = .ok (.bipush 40, 2) := by decide +kernel
theorem dX12_init_23 : decode cX12_init 23 = .ok (.newarray .int, 2) := by decide +kernel
theorem dX12_init_25 : decode cX12_init 25 = .ok (.putfield 16, 3) := by decide +kernel
theorem dX12_init_28 : decode cX12_init 28 = .ok (.aload_n 0, 1) := by decide +kernel
theorem dX12_init_29 : decode cX12_init 29 = .ok (.sipush 400, 3) := by decide +kernel
theorem dX12_init_32 : decode cX12_init 32 = .ok (.newarray .byte, 2) := by decide +kernel
theorem dX12_init_34 : decode cX12_init 34 = .ok (.putfield 19, 3) := by decide +kernel
theorem dX12_init_37 : decode cX12_init 37 = .ok (.aload_n 0, 1) := by decide +kernel
theorem dX12_init_38 : decode cX12_init 38 = .ok (.bipush 10, 2) := by decide +kernel
theorem dX12_init_40 : decode cX12_init 40 = .ok (.newarray .int, 2) := by decide +kernel
theorem dX12_init_42 : decode cX12_init 42 = .ok (.putfield 23, 3) := by decide +kernel
theorem dX12_init_45 : decode cX12_init 45 = .ok (.aload_n 0, 1) := by decide +kernel
theorem dX12_init_46 : decode cX12_init 46 = .ok (.bipush 120, 2) := by decide +kernel
theorem dX12_init_48 : decode cX12_init 48 = .ok (.newarray .int, 2) := by decide +kernel
theorem dX12_init_50 : decode cX12_init 50 = .ok (.putfield 26, 3) := by decide +kernel
theorem dX12_init_53 : decode cX12_init 53 = .ok (.aload_n 0, 1) := by decide +kernel
theorem dX12_init_54 : decode cX12_init 54 = .ok (.bipush 12, 2) := by decide +kernel
theorem dX12_init_56 : decode cX12_init 56 = .ok (.newarray .int, 2) := by decide +kernel
theorem dX12_init_58 : decode cX12_init 58 = .ok (.putfield 29, 3) := by decide +kernel
theorem dX12_init_61 : decode cX12_init 61 = .ok (.aload_n 0, 1) := by decide +kernel
theorem dX12_init_62 : decode cX12_init 62 = .ok (.bipush 12, 2) := by decide +kernel
theorem dX12_init_64 : decode cX12_init 64 = .ok (.newarray .int, 2) := by decide +kernel
theorem dX12_init_66 : decode cX12_init 66 = .ok (.putfield 32, 3) := by decide +kernel
theorem dX12_init_69 : decode cX12_init 69 = .ok (.aload_n 0, 1) := by decide +kernel
theorem dX12_init_70 : decode cX12_init 70 = .ok (.bipush 12, 2) := by decide +kernel
theorem dX12_init_72 : decode cX12_init 72 = .ok (.newarray .int, 2) := by decide +kernel
theorem dX12_init_74 : decode cX12_init 74 = .ok (.putfield 35, 3) := by decide +kernel
theorem dX12_init_77 : decode cX12_init 77 = .ok (.aload_n 0, 1) := by decide +kernel
theorem dX12_init_78 : decode cX12_init 78 = .ok (.bipush 6, 2) := by decide +kernel
theorem dX12_init_80 : decode cX12_init 80 = .ok (.newarray .int, 2) := by decide +kernel
theorem dX12_init_82 : decode cX12_init 82 = .ok (.putfield 38, 3) := by decide +kernel
theorem dX12_init_85 : decode cX12_init 85 = .ok (.aload_n 0, 1) := by decide +kernel
theorem dX12_init_86 : decode cX12_init 86 = .ok (.bipush 6, 2) := by decide +kernel
theorem dX12_init_88 : decode cX12_init 88 = .ok (.newarray .int, 2) := by decide +kernel
theorem dX12_init_90 : decode cX12_init 90 = .ok (.putfield 41, 3) := by decide +kernel
theorem dX12_init_93 : decode cX12_init 93 = .ok (.aload_n 0, 1) := by decide +kernel
theorem dX12_init_94 : decode cX12_init 94 = .ok (.iconst (-1), 1) := by decide +kernel
theorem dX12_init_95 : decode cX12_init 95 = .ok (.putfield 44, 3) := by decide +kernel
theorem dX12_init_98 : decode cX12_init 98 = .ok (.aload_n 0, 1) := by decide +kernel
theorem dX12_init_99 : decode cX12_init 99 = .ok (.bipush 10, 2) := by decide +kernel
theorem dX12_init_101 : decode cX12_init 101 = .ok (.newarray .int, 2) := by decide +kernel
theorem dX12_init_103 : decode cX12_init 103 = .ok (.putfield 48, 3) := by decide +kernel
theorem dX12_init_106 : decode cX12_init 106 = .ok (.aload_n 0, 1) := by decide +kernel
theorem dX12_init_107 : decode cX12_init 107 = .ok (.bipush 10, 2) := by decide +kernel
theorem dX12_init_109 : decode cX12_init 109 = .ok (.newarray .int, 2) := by decide +kernel
theorem dX12_init_111 : decode cX12_init 111 = .ok (.putfield 51, 3) := by decide +kernel
theorem dX12_init_114 : decode cX12_init 114 = .ok (.aload_n 0, 1) := by decide +kernel
theorem dX12_init_115 : decode cX12_init 115 = .ok (.bipush 120, 2) := by decide +kernel
theorem dX12_init_117 : decode cX12_init 117 = .ok (.newarray .int, 2) := by decide +kernel
theorem dX12_init_119 : decode cX12_init 119 = .ok (.putfield 54, 3) := by decide +kernel
theorem dX12_init_122 : decode cX12_init 122 = .ok (.aload_n 0, 1) := by decide +kernel
theorem dX12_init_123 : decode cX12_init 123 = .ok (.bipush 120, 2) := by decide +kernel
theorem dX12_init_125 : decode cX12_init 125 = .ok (.newarray .int, 2) := by decide +kernel
theorem dX12_init_127 : decode cX12_init 127 = .ok (.putfield 57, 3) := by decide +kernel
theorem dX12_init_130 : decode cX12_init 130 = .ok (.aload_n 0, 1) := by decide +kernel
theorem dX12_init_131 : decode cX12_init 131 = .ok (.bipush 120, 2) := by decide +kernel
theorem dX12_init_133 : decode cX12_init 133 = .ok (.newarray .int, 2) := by decide +kernel
theorem dX12_init_135 : decode cX12_init 135 = .ok (.putfield 60, 3) := by decide +kernel
theorem dX12_init_138 : decode cX12_init 138 = .ok (.aload_n 0, 1) := by decide +kernel
theorem dX12_init_139 : decode cX12_init 139 = .ok (.bipush 120, 2) := by decide +kernel
theorem dX12_init_141 : decode cX12_init 141 = .ok (.newarray .int, 2) := by decide +kernel
theorem dX12_init_143 : decode cX12_init 143 = .ok (.putfield 63, 3) := by decide +kernel
theorem dX12_init_146 : decode cX12_init 146 = .ok (.aload_n 0, 1) := by decide +kernel
theorem dX12_init_147 : decode cX12_init 147 = .ok (.bipush 120, 2) := by decide +kernel
theorem dX12_init_149 : decode cX12_init 149 = .ok (.newarray .int, 2) := by decide +kernel
theorem dX12_init_151 : decode cX12_init 151 = .ok (.putfield 66, 3) := by decide +kernel
theorem dX12_init_154 : decode cX12_init 154 = .ok (.aload_n 0, 1) := by decide +kernel
theorem dX12_init_155 : decode cX12_init 155 = .ok (.sipush 4500, 3) := by decide +kernel
theorem dX12_init_158 : decode cX12_init 158 = .ok (.newarray .int, 2) := by decide +kernel
theorem dX12_init_160 : decode cX12_init 160 = .ok (.putfield 69, 3) := by decide +kernel
theorem dX12_init_163 : decode cX12_init 163 = .ok (.aload_n 0, 1) := by decide +kernel
theorem dX12_init_164 : decode cX12_init 164 = .ok (.sipush 4500, 3) := by decide +kernel
theorem dX12_init_167 : decode cX12_init 167 = .ok (.newarray .int, 2) := by decide +kernel
theorem dX12_init_169 : decode cX12_init 169 = .ok (.putfield 72, 3) := by decide +kernel
theorem dX12_init_172 : decode cX12_init 172 = .ok (.aload_n 0, 1) := by decide +kernel
theorem dX12_init_173 : decode cX12_init 173 = .ok (.bipush 10, 2) := by decide +kernel
theorem dX12_init_175 : decode cX12_init 175 = .ok (.newarray .boolean, 2) := by decide +kernel
theorem dX12_init_177 : decode cX12_init 177 = .ok (.putfield 75, 3) := by decide +kernel
theorem dX12_init_180 : decode cX12_init 180 = .ok (.aload_n 0, 1) := by decide +kernel
theorem dX12_init_181 : decode cX12_init 181 = .ok (.bipush 40, 2) := by decide +kernel
theorem dX12_init_183 : decode cX12_init 183 = .ok (.newarray .int, 2) := by decide +kernel
theorem dX12_init_185 : decode cX12_init 185 = .ok (.putfield 79, 3) := by decide +kernel
theorem dX12_init_188 : decode cX12_init 188 = .ok (.aload_n 0, 1) := by decide +kernel
theorem dX12_init_189 : decode cX12_init 189 = .ok (.bipush 40, 2) := by decide +kernel
theorem dX12_init_191 : decode cX12_init 191 = .ok (.newarray .int, 2) := by decide +kernel
theorem dX12_init_193 : decode cX12_init 193 = .ok (.putfield 82, 3) := by decide +kernel
theorem dX12_init_196 : decode cX12_init 196 = .ok (.aload_n 0, 1) := by decide +kernel
theorem dX12_init_197 : decode cX12_init 197 = .ok (.bipush 40, 2) := by decide +kernel
theorem dX12_init_199 : decode cX12_init 199 = .ok (.newarray .int, 2) := by decide +kernel
theorem dX12_init_201 : decode cX12_init 201 = .ok (.putfield 85, 3) := by decide +kernel
theorem dX12_init_204 : decode cX12_init 204 = .ok (.aload_n 0, 1) := by decide +kernel
theorem dX12_init_205 : decode cX12_init 205 = .ok (.bipush 40, 2) := by decide +kernel
theorem dX12_init_207 : decode cX12_init 207 = .ok (.newarray .int, 2) := by decide +kernel
theorem dX12_init_209 : decode cX12_init 209 = .ok (.putfield 88, 3) := by decide +kernel
theorem dX12_init_212 : decode cX12_init 212 = .ok (.aload_n 0, 1) := by decide +kernel
theorem dX12_init_213 : decode cX12_init 213 = .ok (.bipush 6, 2) := by decide +kernel
theorem dX12_init_215 : decode cX12_init 215 = .ok (.newarray .int, 2) := by decide +kernel
theorem dX12_init_217 : decode cX12_init 217 = .ok (.putfield 91, 3) := by decide +kernel
theorem dX12_init_220 : decode cX12_init 220 = .ok (.aload_n 0, 1) := by decide +kernel
theorem dX12_init_221 : decode cX12_init 221 = .ok (.bipush 6, 2) := by decide +kernel
theorem dX12_init_223 : decode cX12_init 223 = .ok (.newarray .int, 2) := by decide +kernel
theorem dX12_init_225 : decode cX12_init 225 = .ok (.putfield 94, 3) := by decide +kernel
theorem dX12_init_228 : decode cX12_init 228 = .ok (.aload_n 0, 1) := by decide +kernel
theorem dX12_init_229 : decode cX12_init 229 = .ok (.bipush 6, 2) := by decide +kernel
theorem dX12_init_231 : decode cX12_init 231 = .ok (.newarray .int, 2) := by decide +kernel
theorem dX12_init_233 : decode cX12_init 233 = .ok (.putfield 97, 3) := by decide +kernel
theorem dX12_init_236 : decode cX12_init 236 = .ok (.aload_n 0, 1) := by decide +kernel
theorem dX12_init_237 : decode cX12_init 237 = .ok (.bipush 60, 2) := by decide +kernel
theorem dX12_init_239 : decode cX12_init 239 = .ok (.newarray .int, 2) := by decide +kernel
theorem dX12_init_241 : decode cX12_init 241 = .ok (.putfield 100, 3) := by decide +kernel
theorem dX12_init_244 : decode cX12_init 244 = .ok (.aload_n 0, 1) := by decide +kernel
theorem dX12_init_245 : decode cX12_init 245 = .ok (.bipush 60, 2) := by decide +kernel
theorem dX12_init_247 : decode cX12_init 247 = .ok (.newarray .int, 2) := by decide +kernel
theorem dX12_init_249 : decode cX12_init 249 = .ok (.putfield 103, 3) := by decide +kernel
theorem dX12_init_252 : decode cX12_init 252 = .ok (.aload_n 0, 1) := by decide +kernel
theorem dX12_init_253 : decode cX12_init 253 = .ok (.bipush 60, 2) := by decide +kernel
theorem dX12_init_255 : decode cX12_init 255 = .ok (.newarray .int, 2) := by decide +kernel
theorem dX12_init_257 : decode cX12_init 257 = .ok (.putfield 106, 3) := by decide +kernel
theorem dX12_init_260 : decode cX12_init 260 = .ok (.aload_n 0, 1) := by decide +kernel
theorem dX12_init_261 : decode cX12_init 261 = .ok (.bipush 60, 2) := by decide +kernel
theorem dX12_init_263 : decode cX12_init 263 = .ok (.newarray .int, 2) := by decide +kernel
theorem dX12_init_265 : decode cX12_init 265 = .ok (.putfield 109, 3) := by decide +kernel
theorem dX12_init_268 : decode cX12_init 268 = .ok (.aload_n 0, 1) := by decide +kernel
theorem dX12_init_269 : decode cX12_init 269 = .ok (.bipush 60, 2) := by decide +kernel
theorem dX12_init_271 : decode cX12_init 271 = .ok (.newarray .int, 2) := by decide +kernel
theorem dX12_init_273 : decode cX12_init 273 = .ok (.putfield 112, 3) := by decide +kernel
theorem dX12_init_276 : decode cX12_init 276 = .ok (.aload_n 0, 1) := by decide +kernel
theorem dX12_init_277 : decode cX12_init 277 = .ok (.bipush 60, 2) := by decide +kernel
theorem dX12_init_279 : decode cX12_init 279 = .ok (.newarray .int, 2) := by decide +kernel
theorem dX12_init_281 : decode cX12_init 281 = .ok (.putfield 115, 3) := by decide +kernel
theorem dX12_init_284 : decode cX12_init 284 = .ok (.aload_n 0, 1) := by decide +kernel
theorem dX12_init_285 : decode cX12_init 285 = .ok (.sipush 450, 3) := by decide +kernel
theorem dX12_init_288 : decode cX12_init 288 = .ok (.newarray .int, 2) := by decide +kernel
theorem dX12_init_290 : decode cX12_init 290 = .ok (.putfield 118, 3) := by decide +kernel
theorem dX12_init_293 : decode cX12_init 293 = .ok (.aload_n 0, 1) := by decide +kernel
theorem dX12_init_294 : decode cX12_init 294 = .ok (.bipush 40, 2) := by decide +kernel
theorem dX12_init_296 : decode cX12_init 296 = .ok (.newarray .int, 2) := by decide +kernel
theorem dX12_init_298 : decode cX12_init 298 = .ok (.putfield 121, 3) := by decide +kernel
theorem dX12_init_301 : decode cX12_init 301 = .ok (.aload_n 0, 1) := by decide +kernel
theorem dX12_init_302 : decode cX12_init 302 = .ok (.bipush 40, 2) := by decide +kernel
theorem dX12_init_304 : decode cX12_init 304 = .ok (.newarray .int, 2) := by decide +kernel
theorem dX12_init_306 : decode cX12_init 306 = .ok (.putfield 124, 3) := by decide +kernel
theorem dX12_init_309 : decode cX12_init 309 = .ok (.aload_n 0, 1) := by decide +kernel
theorem dX12_init_310 : decode cX12_init 310 = .ok (.bipush 80, 2) := by decide +kernel
theorem dX12_init_312 : decode cX12_init 312 = .ok (.newarray .int, 2) := by decide +kernel
theorem dX12_init_314 : decode cX12_init 314 = .ok (.putfield 127, 3) := by decide +kernel
theorem dX12_init_317 : decode cX12_init 317 = .ok (.aload_n 0, 1) := by decide +kernel
theorem dX12_init_318 : decode cX12_init 318 = .ok (.bipush 40, 2) := by decide +kernel
theorem dX12_init_320 : decode cX12_init 320 = .ok (.newarray .int, 2) := by decide +kernel
theorem dX12_init_322 : decode cX12_init 322 = .ok (.putfield 130, 3) := by decide +kernel
theorem dX12_init_325 : decode cX12_init 325 = .ok (.aload_n 0, 1) := by decide +kernel
theorem dX12_init_326 : decode cX12_init 326 = .ok (.bipush 40, 2) := by decide +kernel
theorem dX12_init_328 : decode cX12_init 328 = .ok (.newarray .int, 2) := by decide +kernel
theorem dX12_init_330 : decode cX12_init 330 = .ok (.putfield 133, 3) := by decide +kernel
theorem dX12_init_333 : decode cX12_init 333 = .ok (.aload_n 0, 1) := by decide +kernel
theorem dX12_init_334 : decode cX12_init 334 = .ok (.bipush 40, 2) := by decide +kernel
theorem dX12_init_336 : decode cX12_init 336 = .ok (.newarray .int, 2) := by decide +kernel
theorem dX12_init_338 : decode cX12_init 338 = .ok (.putfield 136, 3) := by decide +kernel
theorem dX12_init_341 : decode cX12_init 341 = .ok (.aload_n 0, 1) := by decide +kernel
theorem dX12_init_342 : decode cX12_init 342 = .ok (.bipush 40, 2) := by decide +kernel
theorem dX12_init_344 : decode cX12_init 344 = .ok (.newarray .int, 2) := by decide +kernel
theorem dX12_init_346 : decode cX12_init 346 = .ok (.putfield 139, 3) := by decide +kernel
theorem dX12_init_349 : decode cX12_init 349 = .ok (.aload_n 0, 1) := by decide +kernel
theorem dX12_init_350 : decode cX12_init 350 = .ok (.bipush 40, 2) := by decide +kernel
theorem dX12_init_352 : decode cX12_init 352 = .ok (.newarray .int, 2) := by decide +kernel
theorem dX12_init_354 : decode cX12_init 354 = .ok (.putfield 142, 3) := by decide +kernel
theorem dX12_init_357 : decode cX12_init 357 = .ok (.aload_n 0, 1) := by decide +kernel
theorem dX12_init_358 : decode cX12_init 358 = .ok (.bipush 120, 2) := by decide +kernel
theorem dX12_init_360 : decode cX12_init 360 = .ok (.newarray .int, 2) := by decide +kernel
theorem dX12_init_362 : decode cX12_init 362 = .ok (.putfield 145, 3) := by decide +kernel
theorem dX12_init_365 : decode cX12_init 365 = .ok (.aload_n 0, 1) := by decide +kernel
theorem dX12_init_366 : decode cX12_init 366 = .ok (.bipush 40, 2) := by decide +kernel
theorem dX12_init_368 : decode cX12_init 368 = .ok (.newarray .int, 2) := by decide +kernel
theorem dX12_init_370 : decode cX12_init 370 = .ok (.putfield 148, 3) := by decide +kernel
theorem dX12_init_373 : decode cX12_init 373 = .ok (.aload_n 0, 1) := by decide +kernel
theorem dX12_init_374 : decode cX12_init 374 = .ok (.bipush 20, 2) := by decide +kernel
theorem dX12_init_376 : decode cX12_init 376 = .ok (.newarray .int, 2) := by decide +kernel
theorem dX12_init_378 : decode cX12_init 378 = .ok (.putfield 151, 3) := by decide +kernel
theorem dX12_init_381 : decode cX12_init 381 = .ok (.aload_n 0, 1) := by decide +kernel
theorem dX12_init_382 : decode cX12_init 382 = .ok (.bipush 20, 2) := by decide +kernel
theorem dX12_init_384 : decode cX12_init 384 = .ok (.newarray .int, 2) := by decide +kernel
theorem dX12_init_386 : decode cX12_init 386 = .ok (.putfield 154, 3) := by decide +kernel
theorem dX12_init_389 : decode cX12_init 389 = .ok (.aload_n 0, 1) := by decide +kernel
theorem dX12_init_390 : decode cX12_init 390 = .ok (.bipush 20, 2) := by decide +kernel
theorem dX12_init_392 : decode cX12_init 392 = .ok (.newarray .int, 2) := by decide +kernel
theorem dX12_init_394 : decode cX12_init 394 = .ok (.putfield 157, 3) := by decide +kernel
theorem dX12_init_397 : decode cX12_init 397 = .ok (.aload_n 0, 1) := by decide +kernel
theorem dX12_init_398 : decode cX12_init 398 = .ok (.bipush 20, 2) := by decide +kernel
theorem dX12_init_400 : decode cX12_init 400 = .ok (.newarray .int, 2) := by decide +kernel
theorem dX12_init_402 : decode cX12_init 402 = .ok (.putfield 160, 3) := by decide +kernel
theorem dX12_init_405 : decode cX12_init 405 = .ok (.aload_n 0, 1) := by decide +kernel
theorem dX12_init_406 : decode cX12_init 406 = .ok (.bipush 20, 2) := by decide +kernel
theorem dX12_init_408 : decode cX12_init 408 = .ok (.newarray .int, 2) := by decide +kernel
theorem dX12_init_410 : decode cX12_init 410 = .ok (.putfield 163, 3) := by decide +kernel
theorem dX12_init_413 : decode cX12_init 413 = .ok (.aload_n 0, 1) := by decide +kernel
theorem dX12_init_414 : decode cX12_init 414 = .ok (.sipush 1200, 3) := by decide +kernel
theorem dX12_init_417 : decode cX12_init 417 = .ok (.newarray .int, 2) := by decide +kernel
theorem dX12_init_419 : decode cX12_init 419 = .ok (.putfield 166, 3) := by decide +kernel
theorem dX12_init_422 : decode cX12_init 422 = .ok (.aload_n 0, 1) := by decide +kernel
theorem dX12_init_423 : decode cX12_init 423 = .ok (.sipush 1200, 3) := by decide +kernel
theorem dX12_init_426 : decode cX12_init 426 = .ok (.newarray .int, 2) := by decide +kernel
theorem dX12_init_428 : decode cX12_init 428 = .ok (.putfield 169, 3) := by decide +kernel
theorem dX12_init_431 : decode cX12_init 431 = .ok (.aload_n 0, 1) := by decide +kernel
theorem dX12_init_432 : decode cX12_init 432 = .ok (.iconst 4, 1) := by decide +kernel
theorem dX12_init_433 : decode cX12_init 433 = .ok (.newarray .int, 2) := by decide +kernel
theorem dX12_init_435 : decode cX12_init 435 = .ok (.putfield 172, 3) := by decide +kernel
theorem dX12_init_438 : decode cX12_init 438 = .ok (.aload_n 0, 1) := by decide +kernel
theorem dX12_init_439 : decode cX12_init 439 = .ok (.bipush 32, 2) := by decide +kernel
theorem dX12_init_441 : decode cX12_init 441 = .ok (.newarray .int, 2) := by decide +kernel
theorem dX12_init_443 : decode cX12_init 443 = .ok (.putfield 175, 3) := by decide +kernel
theorem dX12_init_446 : decode cX12_init 446 = .ok (.aload_n 0, 1) := by decide +kernel
theorem dX12_init_447 : decode cX12_init 447 = .ok (.bipush 32, 2) := by decide +kernel
theorem dX12_init_449 : decode cX12_init 449 = .ok (.newarray .int, 2) := by decide +kernel
theorem dX12_init_451 : decode cX12_init 451 = .ok (.putfield 178, 3) := by decide +kernel
theorem dX12_init_454 : decode cX12_init 454 = .ok (.aload_n 0, 1) := by decide +kernel
theorem dX12_init_455 : decode cX12_init 455 = .ok (.bipush 8, 2) := by decide +kernel
theorem dX12_init_457 : decode cX12_init 457 = .ok (.newarray .int, 2) := by decide +kernel
theorem dX12_init_459 : decode cX12_init 459 = .ok (.putfield 181, 3) := by decide +kernel
theorem dX12_init_462 : decode cX12_init 462 = .ok (.aload_n 0, 1) := by decide +kernel
theorem dX12_init_463 : decode cX12_init 463 = .ok (.bipush 64, 2) := by decide +kernel
theorem dX12_init_465 : decode cX12_init 465 = .ok (.newarray .int, 2) := by decide +kernel
theorem dX12_init_467 : decode cX12_init 467 = .ok (.putfield 184, 3) := by decide +kernel
theorem dX12_init_470 : decode cX12_init 470 = .ok (.aload_n 0, 1) := by decide +kernel
theorem dX12_init_471 : decode cX12_init 471 = .ok (.bipush 8, 2) := by decide +kernel
theorem dX12_init_473 : decode cX12_init 473 = .ok (.newarray .int, 2) := by decide +kernel
theorem dX12_init_475 : decode cX12_init 475 = .ok (.putfield 187, 3) := by decide +kernel
theorem dX12_init_478 : decode cX12_init 478 = .ok (.aload_n 0, 1) := by decide +kernel
theorem dX12_init_479 : decode cX12_init 479 = .ok (.bipush 8, 2) := by decide +kernel
theorem dX12_init_481 : decode cX12_init 481 = .ok (.newarray .int, 2) := by decide +kernel
theorem dX12_init_483 : decode cX12_init 483 = .ok (.putfield 190, 3) := by decide +kernel
theorem dX12_init_486 : decode cX12_init 486 = .ok (.aload_n 0, 1) := by decide +kernel
theorem dX12_init_487 : decode cX12_init 487 = .ok (.bipush 6, 2) := by decide +kernel
theorem dX12_init_489 : decode cX12_init 489 = .ok (.newarray .boolean, 2) := by decide +kernel
theorem dX12_init_491 : decode cX12_init 491 = .ok (.putfield 193, 3) := by decide +kernel
theorem dX12_init_494 : decode cX12_init 494 = .ok (.aload_n 0, 1) := by decide +kernel
theorem dX12_init_495 : decode cX12_init 495 = .ok (.bipush 6, 2) := by decide +kernel
theorem dX12_init_497 : decode cX12_init 497 = .ok (.newarray .int, 2) := by decide +kernel
theorem dX12_init_499 : decode cX12_init 499 = .ok (.putfield 196, 3) := by decide +kernel
theorem dX12_init_502 : decode cX12_init 502 = .ok (.aload_n 0, 1) := by decide +kernel
theorem dX12_init_503 : decode cX12_init 503 = .ok (.bipush 6, 2) := by decide +kernel
theorem dX12_init_505 : decode cX12_init 505 = .ok (.newarray .int, 2) := by decide +kernel
theorem dX12_init_507 : decode cX12_init 507 = .ok (.putfield 199, 3) := by decide +kernel
theorem dX12_init_510 : decode cX12_init 510 = .ok (.aload_n 0, 1) := by decide +kernel
theorem dX12_init_511 : decode cX12_init 511 = .ok (.bipush 6, 2) := by decide +kernel
theorem dX12_init_513 : decode cX12_init 513 = .ok (.newarray .int, 2) := by decide +kernel
theorem dX12_init_515 : decode cX12_init 515 = .ok (.putfield 202, 3) := by decide +kernel
theorem dX12_init_518 : decode cX12_init 518 = .ok (.aload_n 0, 1) := by decide +kernel
theorem dX12_init_519 : decode cX12_init 519 = .ok (.bipush 8, 2) := by decide +kernel
theorem dX12_init_521 : decode cX12_init 521 = .ok (.newarray .int, 2) := by decide +kernel
theorem dX12_init_523 : decode cX12_init 523 = .ok (.putfield 205, 3) := by decide +kernel
theorem dX12_init_526 : decode cX12_init 526 = .ok (.aload_n 0, 1) := by decide +kernel
theorem dX12_init_527 : decode cX12_init 527 = .ok (.bipush 8, 2) := by decide +kernel
theorem dX12_init_529 : decode cX12_init 529 = .ok (.newarray .int, 2) := by decide +kernel
theorem dX12_init_531 : decode cX12_init 531 = .ok (.putfield 208, 3) := by decide +kernel
theorem dX12_init_534 : decode cX12_init 534 = .ok (.aload_n 0, 1) := by decide +kernel
theorem dX12_init_535 : decode cX12_init 535 = .ok (.bipush 8, 2) := by decide +kernel
theorem dX12_init_537 : decode cX12_init 537 = .ok (.newarray .int, 2) := by decide +kernel
theorem dX12_init_539 : decode cX12_init 539 = .ok (.putfield 211, 3) := by decide +kernel
theorem dX12_init_542 : decode cX12_init 542 = .ok (.aload_n 0, 1) := by decide +kernel
theorem dX12_init_543 : decode cX12_init 543 = .ok (.sipush 2048, 3) := by decide +kernel
theorem dX12_init_546 : decode cX12_init 546 = .ok (.newarray .int, 2) := by decide +kernel
theorem dX12_init_548 : decode cX12_init 548 = .ok (.putfield 214, 3) := by decide +kernel
theorem dX12_init_551 : decode cX12_init 551 = .ok (.aload_n 0, 1) := by decide +kernel
theorem dX12_init_552 : decode cX12_init 552 = .ok (.sipush 512, 3) := by decide +kernel
theorem dX12_init_555 : decode cX12_init 555 = .ok (.newarray .boolean, 2) := by decide +kernel
theorem dX12_init_557 : decode cX12_init 557 = .ok (.putfield 217, 3) := by decide +kernel
theorem dX12_init_560 : decode cX12_init 560 = .ok (.aload_n 0, 1) := by decide +kernel
theorem dX12_init_561 : decode cX12_init 561 = .ok (.iconst 2, 1) := by decide +kernel
theorem dX12_init_562 : decode cX12_init 562 = .ok (.newarray .int, 2) := by decide +kernel
theorem dX12_init_564 : decode cX12_init 564 = .ok (.putfield 220, 3) := by decide +kernel
theorem dX12_init_567 : decode cX12_init 567 = .ok (.aload_n 0, 1) := by decide +kernel
theorem dX12_init_568 : decode cX12_init 568 = .ok (.bipush 8, 2) := by decide +kernel
theorem dX12_init_570 : decode cX12_init 570 = .ok (.newarray .int, 2) := by decide +kernel
theorem dX12_init_572 : decode cX12_init 572 = .ok (.putfield 223, 3) := by decide +kernel
theorem dX12_init_575 : decode cX12_init 575 = .ok (.aload_n 0, 1) := by decide +kernel
theorem dX12_init_576 : decode cX12_init 576 = .ok (.bipush 8, 2) := by decide +kernel
theorem dX12_init_578 : decode cX12_init 578 = .ok (.newarray .int, 2) := by decide +kernel
theorem dX12_init_580 : decode cX12_init 580 = .ok (.putfield 226, 3) := by decide +kernel
theorem dX12_init_583 : decode cX12_init 583 = .ok (.aload_n 0, 1) := by decide +kernel
theorem dX12_init_584 : decode cX12_init 584 = .ok (.bipush 6, 2) := by decide +kernel
theorem dX12_init_586 : decode cX12_init 586 = .ok (.newarray .int, 2) := by decide +kernel
theorem dX12_init_588 : decode cX12_init 588 = .ok (.putfield 229, 3) := by decide +kernel
theorem dX12_init_591 : decode cX12_init 591 = .ok (.aload_n 0, 1) := by decide +kernel
theorem dX12_init_592 : decode cX12_init 592 = .ok (.bipush 6, 2) := by decide +kernel
theorem dX12_init_594 : decode cX12_init 594 = .ok (.newarray .int, 2) := by decide +kernel
theorem dX12_init_596 : decode cX12_init 596 = .ok (.putfield 232, 3) := by decide +kernel
theorem dX12_init_599 : decode cX12_init 599 = .ok (.aload_n 0, 1) := by decide +kernel
theorem dX12_init_600 : decode cX12_init 600 = .ok (.bipush 6, 2) := by decide +kernel
theorem dX12_init_602 : decode cX12_init 602 = .ok (.newarray .int, 2) := by decide +kernel
theorem dX12_init_604 : decode cX12_init 604 = .ok (.putfield 235, 3) := by decide +kernel
theorem dX12_init_607 : decode cX12_init 607 = .ok (.aload_n 0, 1) := by decide +kernel
theorem dX12_init_608 : decode cX12_init 608 = .ok (.bipush 100, 2) := by decide +kernel
theorem dX12_init_610 : decode cX12_init 610 = .ok (.newarray .int, 2) := by decide +kernel
theorem dX12_init_612 : decode cX12_init 612 = .ok (.putfield 238, 3) := by decide +kernel
theorem dX12_init_615 : decode cX12_init 615 = .ok (.aload_n 0, 1) := by decide +kernel
theorem dX12_init_616 : decode cX12_init 616 = .ok (.bipush 100, 2) := by decide +kernel
theorem dX12_init_618 : decode cX12_init 618 = .ok (.newarray .int, 2) := by decide +kernel
theorem dX12_init_620 : decode cX12_init 620 = .ok (.putfield 241, 3) := by decide +kernel
theorem dX12_init_623 : decode cX12_init 623 = .ok (.aload_n 0, 1) := by decide +kernel
theorem dX12_init_624 : decode cX12_init 624 = .ok (.bipush 100, 2) := by decide +kernel
theorem dX12_init_626 : decode cX12_init 626 = .ok (.newarray .int, 2) := by decide +kernel
theorem dX12_init_628 : decode cX12_init 628 = .ok (.putfield 244, 3) := by decide +kernel
theorem dX12_init_631 : decode cX12_init 631 = .ok (.aload_n 0, 1) := by decide +kernel
theorem dX12_init_632 : decode cX12_init 632 = .ok (.bipush 100, 2) := by decide +kernel
theorem dX12_init_634 : decode cX12_init 634 = .ok (.newarray .int, 2) := by decide +kernel
theorem dX12_init_636 : decode cX12_init 636 = .ok (.putfield 247, 3) := by decide +kernel
theorem dX12_init_639 : decode cX12_init 639 = .ok (.aload_n 0, 1) := by decide +kernel
theorem dX12_init_640 : decode cX12_init 640 = .ok (.bipush 100, 2) := by decide +kernel
theorem dX12_init_642 : decode cX12_init 642 = .ok (.newarray .int, 2) := by decide +kernel
theorem dX12_init_644 : decode cX12_init 644 = .ok (.putfield 250, 3) := by decide +kernel
theorem dX12_init_647 : decode cX12_init 647 = .ok (.return_, 1) := by decide +kernel
theorem c_M_init {l : Launch} {ws : va_W} {k b : Nat} (he : ws[k]? = some (b, .inr (12, [.int 0, .int 0, .int 0, .null, .null, .null, .null, .int 0, .null, .int 0, .int 0, .int 0, .null, .null, .null, .null, .null, .null, .int 0, .int 0, .int 0, .int 0, .int 0, .int 0, .int 0, .int 0, .int 0, .int 0, .null, .null, .null, .null, .null, .null, .null, .null, .null, .null, .int 0, .int 0, .null, .null, .null, .null, .int 0, .null, .null, .null, .int 0, .null, .null, .null, .null, .null, .null, .null, .int 0, .int 0, .int 0, .int 0, .int 0, .null, .null, .null, .null, .null, .null, .null, .null, .null, .null, .int 0, .null, .null, .null, .null, .null, .null, .null, .null, .null, .null, .null, .null, .null, .null, .int 0, .int 0, .null, .null, .null, .null, .int 0, .null, .null, .null, .null, .null, .null, .null, .null, .int 0, .int 0, .int 0, .null, .null, .null, .null, .null, .null, .null, .null]))) :
    Ct l g yX12_init (.code yX12_init cX12_init 1 none) 1 40 79 17636 ws [.ref b] (fun v ws' => v = none ∧ ∃ q0 q1 q2 q3 q4 q5 q6 q7 q8 q9 q10 q11 q12 q13 q14 q15 q16 q17 q18 q19 q20 q21 q22 q23 q24 q25 q26 q27 q28 q29 q30 q31 q32 q33 q34 q35 q36 q37 q38 q39 q40 q41 q42 q43 q44 q45 q46 q47 q48 q49 q50 q51 q52 q53 q54 q55 q56 q57 q58 q59 q60 q61 q62 q63 q64 q65 q66 q67 q68 q69 q70 q71 q72 q73 q74 q75 q76 q77 q78 : Nat, ws' = mkW ws k (b, .inr (12, [.int 0, .int 0, .int 0, .ref q0, .ref q1, .ref q2, .ref q3, .int 0, .ref q4, .int 0, .int 0, .int 0, .ref q5, .ref q6, .ref q7, .ref q8, .ref q9, .ref q10, .int 0, .int 0, .int 0, .int 0, .int 0, .int 0, .int 0, .int (-1), .int 0, .int 0, .ref q11, .ref q12, .ref q13, .ref q14, .ref q15, .ref q16, .ref q17, .ref q18, .ref q19, .ref q20, .int 0, .int 0, .ref q21, .ref q22, .ref q23, .ref q24, .int 0, .ref q25, .ref q26, .ref q27, .int 0, .ref q28, .ref q29, .ref q30, .ref q31, .ref q32, .ref q33, .ref q34, .int 0, .int 0, .int 0, .int 0, .int 0, .ref q35, .ref q36, .ref q37, .ref q38, .ref q39, .ref q40, .ref q41, .ref q42, .ref q43, .ref q44, .int 0, .ref q45, .ref q46, .ref q47, .ref q48, .ref q49, .ref q50, .ref q51, .ref q52, .ref q53, .ref q54, .ref q55, .ref q56, .ref q57, .ref q58, .int 0, .int 0, .ref q59, .ref q60, .ref q61, .ref q62, .int 0, .ref q63, .ref q64, .ref q65, .ref q66, .ref q67, .ref q68, .ref q69, .ref q70, .int 0, .int 0, .int 0, .ref q71, .ref q72, .ref q73, .ref q74, .ref q75, .ref q76, .ref q77, .ref q78])) [(q0, .inl (gI g, 40, .inl (fun _ => 0))), (q1, .inl (gI g, 40, .inl (fun _ => 0))), (q2, .inl (gI g, 40, .inl (fun _ => 0))), (q3, .inl (gB g, 400, .inl (fun _ => 0))), (q4, .inl (gI g, 10, .inl (fun _ => 0))), (q5, .inl (gI g, 120, .inl (fun _ => 0))), (q6, .inl (gI g, 12, .inl (fun _ => 0))), (q7, .inl (gI g, 12, .inl (fun _ => 0))), (q8, .inl (gI g, 12, .inl (fun _ => 0))), (q9, .inl (gI g, 6, .inl (fun _ => 0))), (q10, .inl (gI g, 6, .inl (fun _ => 0))), (q11, .inl (gI g, 10, .inl (fun _ => 0))), (q12, .inl (gI g, 10, .inl (fun _ => 0))), (q13, .inl (gI g, 120, .inl (fun _ => 0))), (q14, .inl (gI g, 120, .inl (fun _ => 0))), (q15, .inl (gI g, 120, .inl (fun _ => 0))), (q16, .inl (gI g, 120, .inl (fun _ => 0))), (q17, .inl (gI g, 120, .inl (fun _ => 0))), (q18, .inl (gI g, 4500, .inl (fun _ => 0))), (q19, .inl (gI g, 4500, .inl (fun _ => 0))), (q20, .inl (gZ g, 10, .inl (fun _ => 0))), (q21, .inl (gI g, 40, .inl (fun _ => 0))), (q22, .inl (gI g, 40, .inl (fun _ => 0))), (q23, .inl (gI g, 40, .inl (fun _ => 0))), (q24, .inl (gI g, 40, .inl (fun _ => 0))), (q25, .inl (gI g, 6, .inl (fun _ => 0))), (q26, .inl (gI g, 6, .inl (fun _ => 0))), (q27, .inl (gI g, 6, .inl (fun _ => 0))), (q28, .inl (gI g, 60, .inl (fun _ => 0))), (q29, .inl (gI g, 60, .inl (fun _ => 0))), (q30, .inl (gI g, 60, .inl (fun _ => 0))), (q31, .inl (gI g, 60, .inl (fun _ => 0))), (q32, .inl (gI g, 60, .inl (fun _ => 0))), (q33, .inl (gI g, 60, .inl (fun _ => 0))), (q34, .inl (gI g, 450, .inl (fun _ => 0))), (q35, .inl (gI g, 40, .inl (fun _ => 0))), (q36, .inl (gI g, 40, .inl (fun _ => 0))), (q37, .inl (gI g, 80, .inl (fun _ => 0))), (q38, .inl (gI g, 40, .inl (fun _ => 0))), (q39, .inl (gI g, 40, .inl (fun _ => 0))), (q40, .inl (gI g, 40, .inl (fun _ => 0))), (q41, .inl (gI g, 40, .inl (fun _ => 0))), (q42, .inl (gI g, 40, .inl (fun _ => 0))), (q43, .inl (gI g, 120, .inl (fun _ => 0))), (q44, .inl (gI g, 40, .inl (fun _ => 0))), (q45, .inl (gI g, 20, .inl (fun _ => 0))), (q46, .inl (gI g, 20, .inl (fun _ => 0))), (q47, .inl (gI g, 20, .inl (fun _ => 0))), (q48, .inl (gI g, 20, .inl (fun _ => 0))), (q49, .inl (gI g, 20, .inl (fun _ => 0))), (q50, .inl (gI g, 1200, .inl (fun _ => 0))), (q51, .inl (gI g, 1200, .inl (fun _ => 0))), (q52, .inl (gI g, 4, .inl (fun _ => 0))), (q53, .inl (gI g, 32, .inl (fun _ => 0))), (q54, .inl (gI g, 32, .inl (fun _ => 0))), (q55, .inl (gI g, 8, .inl (fun _ => 0))), (q56, .inl (gI g, 64, .inl (fun _ => 0))), (q57, .inl (gI g, 8, .inl (fun _ => 0))), (q58, .inl (gI g, 8, .inl (fun _ => 0))), (q59, .inl (gZ g, 6, .inl (fun _ => 0))), (q60, .inl (gI g, 6, .inl (fun _ => 0))), (q61, .inl (gI g, 6, .inl (fun _ => 0))), (q62, .inl (gI g, 6, .inl (fun _ => 0))), (q63, .inl (gI g, 8, .inl (fun _ => 0))), (q64, .inl (gI g, 8, .inl (fun _ => 0))), (q65, .inl (gI g, 8, .inl (fun _ => 0))), (q66, .inl (gI g, 2048, .inl (fun _ => 0))), (q67, .inl (gZ g, 512, .inl (fun _ => 0))), (q68, .inl (gI g, 2, .inl (fun _ => 0))), (q69, .inl (gI g, 8, .inl (fun _ => 0))), (q70, .inl (gI g, 8, .inl (fun _ => 0))), (q71, .inl (gI g, 6, .inl (fun _ => 0))), (q72, .inl (gI g, 6, .inl (fun _ => 0))), (q73, .inl (gI g, 6, .inl (fun _ => 0))), (q74, .inl (gI g, 100, .inl (fun _ => 0))), (q75, .inl (gI g, 100, .inl (fun _ => 0))), (q76, .inl (gI g, 100, .inl (fun _ => 0))), (q77, .inl (gI g, 100, .inl (fun _ => 0))), (q78, .inl (gI g, 100, .inl (fun _ => 0)))]) 79 17636 := by
  refine Ct.ofI rfl (by decide) (Nat.le_of_ble_eq_true rfl) ?_
  intro p e s m args below meth c A C hr hnm
  have hk := mk_lt he
  refine nw_ws (mk_0 he) ?_
  refine nw_aload_n C dX12_init_0 rfl 0 rfl ?_
  refine nw_obj C tw_1572 tw_156 tm_obj dX12_init_1 (Nat.le_of_ble_eq_true rfl) (Nat.le_of_ble_eq_true rfl) (Nat.le_of_ble_eq_true rfl) ?_
  refine nw_aload_n C dX12_init_4 rfl 0 rfl ?_
  refine nw_bipush (v := 40) C dX12_init_5 (by decide) ?_
  refine nw_newI (N' := 40) C tw_180 (by decide) (by decide) (Nat.le_of_ble_eq_true rfl) (Nat.le_of_ble_eq_true rfl) (Nat.le_of_ble_eq_true rfl) dX12_init_7 (fun q0 => nw_ws mk_app ?_)
  refine nw_putF C in_X12 _ (mk_this hk) rfl 3 (by decide) tyX12 tyX12_ok nmX12 tw_1576 rfl rfl hnm rfl rfl rfl (Nat.le_of_ble_eq_true rfl) dX12_init_9 (mk_setT hk) ?_
  refine nw_aload_n C dX12_init_12 rfl 0 rfl ?_
  refine nw_bipush (v := 40) C dX12_init_13 (by decide) ?_
  refine nw_newI (N' := 40) C tw_180 (by decide) (by decide) (Nat.le_of_ble_eq_true rfl) (Nat.le_of_ble_eq_true rfl) (Nat.le_of_ble_eq_true rfl) dX12_init_15 (fun q1 => nw_ws mk_app ?_)
  refine nw_putF C in_X12 _ (mk_this hk) rfl 4 (by decide) tyX12 tyX12_ok nmX12 tw_1577 rfl rfl hnm rfl rfl rfl (Nat.le_of_ble_eq_true rfl) dX12_init_17 (mk_setT hk) ?_
  refine nw_aload_n C dX12_init_20 rfl 0 rfl ?_
  refine nw_bipush (v := 40) C dX12_init_21 (by decide) ?_
  refine nw_newI (N' := 40) C tw_180 (by decide) (by decide) (Nat.le_of_ble_eq_true rfl) (Nat.le_of_ble_eq_true rfl) (Nat.le_of_ble_eq_true rfl) dX12_init_23 (fun q2 => nw_ws mk_app ?_)
  refine nw_putF C in_X12 _ (mk_this hk) rfl 5 (by decide) tyX12 tyX12_ok nmX12 tw_1578 rfl rfl hnm rfl rfl rfl (Nat.le_of_ble_eq_true rfl) dX12_init_25 (mk_setT hk) ?_
  refine nw_aload_n C dX12_init_28 rfl 0 rfl ?_
  refine nw_sipush (v := 400) C dX12_init_29 (by decide) ?_
  refine nw_newB (N' := 400) C tw_748 (by decide) (by decide) (Nat.le_of_ble_eq_true rfl) (Nat.le_of_ble_eq_true rfl) (Nat.le_of_ble_eq_true rfl) dX12_init_32 (fun q3 => nw_ws mk_app ?_)
  refine nw_putF C in_X12 _ (mk_this hk) rfl 6 (by decide) tyX12 tyX12_ok nmX12 tw_1579 rfl rfl hnm rfl rfl rfl (Nat.le_of_ble_eq_true rfl) dX12_init_34 (mk_setT hk) ?_
  refine nw_aload_n C dX12_init_37 rfl 0 rfl ?_
  refine nw_bipush (v := 10) C dX12_init_38 (by decide) ?_
  refine nw_newI (N' := 10) C tw_180 (by decide) (by decide) (Nat.le_of_ble_eq_true rfl) (Nat.le_of_ble_eq_true rfl) (Nat.le_of_ble_eq_true rfl) dX12_init_40 (fun q4 => nw_ws mk_app ?_)
  refine nw_putF C in_X12 _ (mk_this hk) rfl 8 (by decide) tyX12 tyX12_ok nmX12 tw_1581 rfl rfl hnm rfl rfl rfl (Nat.le_of_ble_eq_true rfl) dX12_init_42 (mk_setT hk) ?_
  refine nw_aload_n C dX12_init_45 rfl 0 rfl ?_
  refine nw_bipush (v := 120) C dX12_init_46 (by decide) ?_
  refine nw_newI (N' := 120) C tw_180 (by decide) (by decide) (Nat.le_of_ble_eq_true rfl) (Nat.le_of_ble_eq_true rfl) (Nat.le_of_ble_eq_true rfl) dX12_init_48 (fun q5 => nw_ws mk_app ?_)
  refine nw_putF C in_X12 _ (mk_this hk) rfl 12 (by decide) tyX12 tyX12_ok nmX12 tw_1585 rfl rfl hnm rfl rfl rfl (Nat.le_of_ble_eq_true rfl) dX12_init_50 (mk_setT hk) ?_
  refine nw_ws (ws' := mkW ws k (b, .inr (12, [.int 0, .int 0, .int 0, .ref q0, .ref q1, .ref q2, .ref q3, .int 0, .ref q4, .int 0, .int 0, .int 0, .ref q5, .null, .null, .null, .null, .null, .int 0, .int 0, .int 0, .int 0, .int 0, .int 0, .int 0, .int 0, .int 0, .int 0, .null, .null, .null, .null, .null, .null, .null, .null, .null, .null, .int 0, .int 0, .null, .null, .null, .null, .int 0, .null, .null, .null, .int 0, .null, .null, .null, .null, .null, .null, .null, .int 0, .int 0, .int 0, .int 0, .int 0, .null, .null, .null, .null, .null, .null, .null, .null, .null, .null, .int 0, .null, .null, .null, .null, .null, .null, .null, .null, .null, .null, .null, .null, .null, .null, .int 0, .int 0, .null, .null, .null, .null, .int 0, .null, .null, .null, .null, .null, .null, .null, .null, .int 0, .int 0, .int 0, .null, .null, .null, .null, .null, .null, .null, .null])) [(q0, .inl (gI g, 40, .inl (fun _ => 0))), (q1, .inl (gI g, 40, .inl (fun _ => 0))), (q2, .inl (gI g, 40, .inl (fun _ => 0))), (q3, .inl (gB g, 400, .inl (fun _ => 0))), (q4, .inl (gI g, 10, .inl (fun _ => 0))), (q5, .inl (gI g, 120, .inl (fun _ => 0)))]) rfl ?_
  refine nw_aload_n C dX12_init_53 rfl 0 rfl ?_
  refine nw_bipush (v := 12) C dX12_init_54 (by decide) ?_
  refine nw_newI (N' := 12) C tw_180 (by decide) (by decide) (Nat.le_of_ble_eq_true rfl) (Nat.le_of_ble_eq_true rfl) (Nat.le_of_ble_eq_true rfl) dX12_init_56 (fun q6 => nw_ws mk_app ?_)
  refine nw_putF C in_X12 _ (mk_this hk) rfl 13 (by decide) tyX12 tyX12_ok nmX12 tw_1586 rfl rfl hnm rfl rfl rfl (Nat.le_of_ble_eq_true rfl) dX12_init_58 (mk_setT hk) ?_
  refine nw_aload_n C dX12_init_61 rfl 0 rfl ?_
  refine nw_bipush (v := 12) C dX12_init_62 (by decide) ?_
  refine nw_newI (N' := 12) C tw_180 (by decide) (by decide) (Nat.le_of_ble_eq_true rfl) (Nat.le_of_ble_eq_true rfl) (Nat.le_of_ble_eq_true rfl) dX12_init_64 (fun q7 => nw_ws mk_app ?_)
  refine nw_putF C in_X12 _ (mk_this hk) rfl 14 (by decide) tyX12 tyX12_ok nmX12 tw_1587 rfl rfl hnm rfl rfl rfl (Nat.le_of_ble_eq_true rfl) dX12_init_66 (mk_setT hk) ?_
  refine nw_aload_n C dX12_init_69 rfl 0 rfl ?_
  refine nw_bipush (v := 12) C dX12_init_70 (by decide) ?_
  refine nw_newI (N' := 12) C tw_180 (by decide) (by decide) (Nat.le_of_ble_eq_true rfl) (Nat.le_of_ble_eq_true rfl) (Nat.le_of_ble_eq_true rfl) dX12_init_72 (fun q8 => nw_ws mk_app ?_)
  refine nw_putF C in_X12 _ (mk_this hk) rfl 15 (by decide) tyX12 tyX12_ok nmX12 tw_1588 rfl rfl hnm rfl rfl rfl (Nat.le_of_ble_eq_true rfl) dX12_init_74 (mk_setT hk) ?_
  refine nw_aload_n C dX12_init_77 rfl 0 rfl ?_
  refine nw_bipush (v := 6) C dX12_init_78 (by decide) ?_
  refine nw_newI (N' := 6) C tw_180 (by decide) (by decide) (Nat.le_of_ble_eq_true rfl) (Nat.le_of_ble_eq_true rfl) (Nat.le_of_ble_eq_true rfl) dX12_init_80 (fun q9 => nw_ws mk_app ?_)
  refine nw_putF C in_X12 _ (mk_this hk) rfl 16 (by decide) tyX12 tyX12_ok nmX12 tw_1589 rfl rfl hnm rfl rfl rfl (Nat.le_of_ble_eq_true rfl) dX12_init_82 (mk_setT hk) ?_
  refine nw_aload_n C dX12_init_85 rfl 0 rfl ?_
  refine nw_bipush (v := 6) C dX12_init_86 (by decide) ?_
  refine nw_newI (N' := 6) C tw_180 (by decide) (by decide) (Nat.le_of_ble_eq_true rfl) (Nat.le_of_ble_eq_true rfl) (Nat.le_of_ble_eq_true rfl) dX12_init_88 (fun q10 => nw_ws mk_app ?_)
  refine nw_putF C in_X12 _ (mk_this hk) rfl 17 (by decide) tyX12 tyX12_ok nmX12 tw_1590 rfl rfl hnm rfl rfl rfl (Nat.le_of_ble_eq_true rfl) dX12_init_90 (mk_setT hk) ?_
  refine nw_aload_n C dX12_init_93 rfl 0 rfl ?_
  refine nw_iconst (v := -1) C dX12_init_94 (by decide) ?_
  refine nw_put C in_X12 _ (mk_this hk) rfl 25 (by decide) tyX12 tyX12_ok nmX12 tw_1598 rfl rfl (tyX12_ok 25 (by decide)) rfl rfl (Nat.le_of_ble_eq_true rfl) dX12_init_95 (mk_setT hk) ?_
  refine nw_ws (ws' := mkW ws k (b, .inr (12, [.int 0, .int 0, .int 0, .ref q0, .ref q1, .ref q2, .ref q3, .int 0, .ref q4, .int 0, .int 0, .int 0, .ref q5, .ref q6, .ref q7, .ref q8, .ref q9, .ref q10, .int 0, .int 0, .int 0, .int 0, .int 0, .int 0, .int 0, .int (-1), .int 0, .int 0, .null, .null, .null, .null, .null, .null, .null, .null, .null, .null, .int 0, .int 0, .null, .null, .null, .null, .int 0, .null, .null, .null, .int 0, .null, .null, .null, .null, .null, .null, .null, .int 0, .int 0, .int 0, .int 0, .int 0, .null, .null, .null, .null, .null, .null, .null, .null, .null, .null, .int 0, .null, .null, .null, .null, .null, .null, .null, .null, .null, .null, .null, .null, .null, .null, .int 0, .int 0, .null, .null, .null, .null, .int 0, .null, .null, .null, .null, .null, .null, .null, .null, .int 0, .int 0, .int 0, .null, .null, .null, .null, .null, .null, .null, .null])) [(q0, .inl (gI g, 40, .inl (fun _ => 0))), (q1, .inl (gI g, 40, .inl (fun _ => 0))), (q2, .inl (gI g, 40, .inl (fun _ => 0))), (q3, .inl (gB g, 400, .inl (fun _ => 0))), (q4, .inl (gI g, 10, .inl (fun _ => 0))), (q5, .inl (gI g, 120, .inl (fun _ => 0))), (q6, .inl (gI g, 12, .inl (fun _ => 0))), (q7, .inl (gI g, 12, .inl (fun _ => 0))), (q8, .inl (gI g, 12, .inl (fun _ => 0))), (q9, .inl (gI g, 6, .inl (fun _ => 0))), (q10, .inl (gI g, 6, .inl (fun _ => 0)))]) rfl ?_
  refine nw_aload_n C dX12_init_98 rfl 0 rfl ?_
  refine nw_bipush (v := 10) C dX12_init_99 (by decide) ?_
  refine nw_newI (N' := 10) C tw_180 (by decide) (by decide) (Nat.le_of_ble_eq_true rfl) (Nat.le_of_ble_eq_true rfl) (Nat.le_of_ble_eq_true rfl) dX12_init_101 (fun q11 => nw_ws mk_app ?_)
  refine nw_putF C in_X12 _ (mk_this hk) rfl 28 (by decide) tyX12 tyX12_ok nmX12 tw_1601 rfl rfl hnm rfl rfl rfl (Nat.le_of_ble_eq_true rfl) dX12_init_103 (mk_setT hk) ?_
  refine nw_aload_n C dX12_init_106 rfl 0 rfl ?_
  refine nw_bipush (v := 10) C dX12_init_107 (by decide) ?_
  refine nw_newI (N' := 10) C tw_180 (by decide) (by decide) (Nat.le_of_ble_eq_true rfl) (Nat.le_of_ble_eq_true rfl) (Nat.le_of_ble_eq_true rfl) dX12_init_109 (fun q12 => nw_ws mk_app ?_)
  refine nw_putF C in_X12 _ (mk_this hk) rfl 29 (by decide) tyX12 tyX12_ok nmX12 tw_1602 rfl rfl hnm rfl rfl rfl (Nat.le_of_ble_eq_true rfl) dX12_init_111 (mk_setT hk) ?_
  refine nw_aload_n C dX12_init_114 rfl 0 rfl ?_
  refine nw_bipush (v := 120) C dX12_init_115 (by decide) ?_
  refine nw_newI (N' := 120) C tw_180 (by decide) (by decide) (Nat.le_of_ble_eq_true rfl) (Nat.le_of_ble_eq_true rfl) (Nat.le_of_ble_eq_true rfl) dX12_init_117 (fun q13 => nw_ws mk_app ?_)
  refine nw_putF C in_X12 _ (mk_this hk) rfl 30 (by decide) tyX12 tyX12_ok nmX12 tw_1603 rfl rfl hnm rfl rfl rfl (Nat.le_of_ble_eq_true rfl) dX12_init_119 (mk_setT hk) ?_
  refine nw_aload_n C dX12_init_122 rfl 0 rfl ?_
  refine nw_bipush (v := 120) C dX12_init_123 (by decide) ?_
  refine nw_newI (N' := 120) C tw_180 (by decide) (by decide) (Nat.le_of_ble_eq_true rfl) (Nat.le_of_ble_eq_true rfl) (Nat.le_of_ble_eq_true rfl) dX12_init_125 (fun q14 => nw_ws mk_app ?_)
  refine nw_putF C in_X12 _ (mk_this hk) rfl 31 (by decide) tyX12 tyX12_ok nmX12 tw_1604 rfl rfl hnm rfl rfl rfl (Nat.le_of_ble_eq_true rfl) dX12_init_127 (mk_setT hk) ?_
  refine nw_aload_n C dX12_init_130 rfl 0 rfl ?_
  refine nw_bipush (v := 120) C dX12_init_131 (by decide) ?_
  refine nw_newI (N' := 120) C tw_180 (by decide) (by decide) (Nat.le_of_ble_eq_true rfl) (Nat.le_of_ble_eq_true rfl) (Nat.le_of_ble_eq_true rfl) dX12_init_133 (fun q15 => nw_ws mk_app ?_)
  refine nw_putF C in_X12 _ (mk_this hk) rfl 32 (by decide) tyX12 tyX12_ok nmX12 tw_1605 rfl rfl hnm rfl rfl rfl (Nat.le_of_ble_eq_true rfl) dX12_init_135 (mk_setT hk) ?_
  refine nw_aload_n C dX12_init_138 rfl 0 rfl ?_
  refine nw_bipush (v := 120) C dX12_init_139 (by decide) ?_
  refine nw_newI (N' := 120) C tw_180 (by decide) (by decide) (Nat.le_of_ble_eq_true rfl) (Nat.le_of_ble_eq_true rfl) (Nat.le_of_ble_eq_true rfl) dX12_init_141 (fun q16 => nw_ws mk_app ?_)
  refine nw_putF C in_X12 _ (mk_this hk) rfl 33 (by decide) tyX12 tyX12_ok nmX12 tw_1606 rfl rfl hnm rfl rfl rfl (Nat.le_of_ble_eq_true rfl) dX12_init_143 (mk_setT hk) ?_
  refine nw_ws (ws' := mkW ws k (b, .inr (12, [.int 0, .int 0, .int 0, .ref q0, .ref q1, .ref q2, .ref q3, .int 0, .ref q4, .int 0, .int 0, .int 0, .ref q5, .ref q6, .ref q7, .ref q8, .ref q9, .ref q10, .int 0, .int 0, .int 0, .int 0, .int 0, .int 0, .int 0, .int (-1), .int 0, .int 0, .ref q11, .ref q12, .ref q13, .ref q14, .ref q15, .ref q16, .null, .null, .null, .null, .int 0, .int 0, .null, .null, .null, .null, .int 0, .null, .null, .null, .int 0, .null, .null, .null, .null, .null, .null, .null, .int 0, .int 0, .int 0, .int 0, .int 0, .null, .null, .null, .null, .null, .null, .null, .null, .null, .null, .int 0, .null, .null, .null, .null, .null, .null, .null, .null, .null, .null, .null, .null, .null, .null, .int 0, .int 0, .null, .null, .null, .null, .int 0, .null, .null, .null, .null, .null, .null, .null, .null, .int 0, .int 0, .int 0, .null, .null, .null, .null, .null, .null, .null, .null])) [(q0, .inl (gI g, 40, .inl (fun _ => 0))), (q1, .inl (gI g, 40, .inl (fun _ => 0))), (q2, .inl (gI g, 40, .inl (fun _ => 0))), (q3, .inl (gB g, 400, .inl (fun _ => 0))), (q4, .inl (gI g, 10, .inl (fun _ => 0))), (q5, .inl (gI g, 120, .inl (fun _ => 0))), (q6, .inl (gI g, 12, .inl (fun _ => 0))), (q7, .inl (gI g, 12, .inl (fun _ => 0))), (q8, .inl (gI g, 12, .inl (fun _ => 0))), (q9, .inl (gI g, 6, .inl (fun _ => 0))), (q10, .inl (gI g, 6, .inl (fun _ => 0))), (q11, .inl (gI g, 10, .inl (fun _ => 0))), (q12, .inl (gI g, 10, .inl (fun _ => 0))), (q13, .inl (gI g, 120, .inl (fun _ => 0))), (q14, .inl (gI g, 120, .inl (fun _ => 0))), (q15, .inl (gI g, 120, .inl (fun _ => 0))), (q16, .inl (gI g, 120, .inl (fun _ => 0)))]) rfl ?_
  refine nw_aload_n C dX12_init_146 rfl 0 rfl ?_
  refine nw_bipush (v := 120) C dX12_init_147 (by decide) ?_
  refine nw_newI (N' := 120) C tw_180 (by decide) (by decide) (Nat.le_of_ble_eq_true rfl) (Nat.le_of_ble_eq_true rfl) (Nat.le_of_ble_eq_true rfl) dX12_init_149 (fun q17 => nw_ws mk_app ?_)
  refine nw_putF C in_X12 _ (mk_this hk) rfl 34 (by decide) tyX12 tyX12_ok nmX12 tw_1607 rfl rfl hnm rfl rfl rfl (Nat.le_of_ble_eq_true rfl) dX12_init_151 (mk_setT hk) ?_
  refine nw_aload_n C dX12_init_154 rfl 0 rfl ?_
  refine nw_sipush (v := 4500) C dX12_init_155 (by decide) ?_
  refine nw_newI (N' := 4500) C tw_180 (by decide) (by decide) (Nat.le_of_ble_eq_true rfl) (Nat.le_of_ble_eq_true rfl) (Nat.le_of_ble_eq_true rfl) dX12_init_158 (fun q18 => nw_ws mk_app ?_)
  refine nw_putF C in_X12 _ (mk_this hk) rfl 35 (by decide) tyX12 tyX12_ok nmX12 tw_1608 rfl rfl hnm rfl rfl rfl (Nat.le_of_ble_eq_true rfl) dX12_init_160 (mk_setT hk) ?_
  refine nw_aload_n C dX12_init_163 rfl 0 rfl ?_
  refine nw_sipush (v := 4500) C dX12_init_164 (by decide) ?_
  refine nw_newI (N' := 4500) C tw_180 (by decide) (by decide) (Nat.le_of_ble_eq_true rfl) (Nat.le_of_ble_eq_true rfl) (Nat.le_of_ble_eq_true rfl) dX12_init_167 (fun q19 => nw_ws mk_app ?_)
  refine nw_putF C in_X12 _ (mk_this hk) rfl 36 (by decide) tyX12 tyX12_ok nmX12 tw_1609 rfl rfl hnm rfl rfl rfl (Nat.le_of_ble_eq_true rfl) dX12_init_169 (mk_setT hk) ?_
  refine nw_aload_n C dX12_init_172 rfl 0 rfl ?_
  refine nw_bipush (v := 10) C dX12_init_173 (by decide) ?_
  refine nw_newZ (N' := 10) C tw_492 (by decide) (by decide) (Nat.le_of_ble_eq_true rfl) (Nat.le_of_ble_eq_true rfl) (Nat.le_of_ble_eq_true rfl) dX12_init_175 (fun q20 => nw_ws mk_app ?_)
  refine nw_putF C in_X12 _ (mk_this hk) rfl 37 (by decide) tyX12 tyX12_ok nmX12 tw_1610 rfl rfl hnm rfl rfl rfl (Nat.le_of_ble_eq_true rfl) dX12_init_177 (mk_setT hk) ?_
  refine nw_aload_n C dX12_init_180 rfl 0 rfl ?_
  refine nw_bipush (v := 40) C dX12_init_181 (by decide) ?_
  refine nw_newI (N' := 40) C tw_180 (by decide) (by decide) (Nat.le_of_ble_eq_true rfl) (Nat.le_of_ble_eq_true rfl) (Nat.le_of_ble_eq_true rfl) dX12_init_183 (fun q21 => nw_ws mk_app ?_)
  refine nw_putF C in_X12 _ (mk_this hk) rfl 40 (by decide) tyX12 tyX12_ok nmX12 tw_1613 rfl rfl hnm rfl rfl rfl (Nat.le_of_ble_eq_true rfl) dX12_init_185 (mk_setT hk) ?_
  refine nw_aload_n C dX12_init_188 rfl 0 rfl ?_
  refine nw_bipush (v := 40) C dX12_init_189 (by decide) ?_
  refine nw_newI (N' := 40) C tw_180 (by decide) (by decide) (Nat.le_of_ble_eq_true rfl) (Nat.le_of_ble_eq_true rfl) (Nat.le_of_ble_eq_true rfl) dX12_init_191 (fun q22 => nw_ws mk_app ?_)
  refine nw_putF C in_X12 _ (mk_this hk) rfl 41 (by decide) tyX12 tyX12_ok nmX12 tw_1614 rfl rfl hnm rfl rfl rfl (Nat.le_of_ble_eq_true rfl) dX12_init_193 (mk_setT hk) ?_
  refine nw_ws (ws' := mkW ws k (b, .inr (12, [.int 0, .int 0, .int 0, .ref q0, .ref q1, .ref q2, .ref q3, .int 0, .ref q4, .int 0, .int 0, .int 0, .ref q5, .ref q6, .ref q7, .ref q8, .ref q9, .ref q10, .int 0, .int 0, .int 0, .int 0, .int 0, .int 0, .int 0, .int (-1), .int 0, .int 0, .ref q11, .ref q12, .ref q13, .ref q14, .ref q15, .ref q16, .ref q17, .ref q18, .ref q19, .ref q20, .int 0, .int 0, .ref q21, .ref q22, .null, .null, .int 0, .null, .null, .null, .int 0, .null, .null, .null, .null, .null, .null, .null, .int 0, .int 0, .int 0, .int 0, .int 0, .null, .null, .null, .null, .null, .null, .null, .null, .null, .null, .int 0, .null, .null, .null, .null, .null, .null, .null, .null, .null, .null, .null, .null, .null, .null, .int 0, .int 0, .null, .null, .null, .null, .int 0, .null, .null, .null, .null, .null, .null, .null, .null, .int 0, .int 0, .int 0, .null, .null, .null, .null, .null, .null, .null, .null])) [(q0, .inl (gI g, 40, .inl (fun _ => 0))), (q1, .inl (gI g, 40, .inl (fun _ => 0))), (q2, .inl (gI g, 40, .inl (fun _ => 0))), (q3, .inl (gB g, 400, .inl (fun _ => 0))), (q4, .inl (gI g, 10, .inl (fun _ => 0))), (q5, .inl (gI g, 120, .inl (fun _ => 0))), (q6, .inl (gI g, 12, .inl (fun _ => 0))), (q7, .inl (gI g, 12, .inl (fun _ => 0))), (q8, .inl (gI g, 12, .inl (fun _ => 0))), (q9, .inl (gI g, 6, .inl (fun _ => 0))), (q10, .inl (gI g, 6, .inl (fun _ => 0))), (q11, .inl (gI g, 10, .inl (fun _ => 0))), (q12, .inl (gI g, 10, .inl (fun _ => 0))), (q13, .inl (gI g, 120, .inl (fun _ => 0))), (q14, .inl (gI g, 120, .inl (fun _ => 0))), (q15, .inl (gI g, 120, .inl (fun _ => 0))), (q16, .inl (gI g, 120, .inl (fun _ => 0))), (q17, .inl (gI g, 120, .inl (fun _ => 0))), (q18, .inl (gI g, 4500, .inl (fun _ => 0))), (q19, .inl (gI g, 4500, .inl (fun _ => 0))), (q20, .inl (gZ g, 10, .inl (fun _ => 0))), (q21, .inl (gI g, 40, .inl (fun _ => 0))), (q22, .inl (gI g, 40, .inl (fun _ => 0)))]) rfl ?_
  refine nw_aload_n C dX12_init_196 rfl 0 rfl ?_
  refine nw_bipush (v := 40) C dX12_init_197 (by decide) ?_
  refine nw_newI (N' := 40) C tw_180 (by decide) (by decide) (Nat.le_of_ble_eq_true rfl) (Nat.le_of_ble_eq_true rfl) (Nat.le_of_ble_eq_true rfl) dX12_init_199 (fun q23 => nw_ws mk_app ?_)
  refine nw_putF C in_X12 _ (mk_this hk) rfl 42 (by decide) tyX12 tyX12_ok nmX12 tw_1615 rfl rfl hnm rfl rfl rfl (Nat.le_of_ble_eq_true rfl) dX12_init_201 (mk_setT hk) ?_
  refine nw_aload_n C dX12_init_204 rfl 0 rfl ?_
  refine nw_bipush (v := 40) C dX12_init_205 (by decide) ?_
  refine nw_newI (N' := 40) C tw_180 (by decide) (by decide) (Nat.le_of_ble_eq_true rfl) (Nat.le_of_ble_eq_true rfl) (Nat.le_of_ble_eq_true rfl) dX12_init_207 (fun q24 => nw_ws mk_app ?_)
  refine nw_putF C in_X12 _ (mk_this hk) rfl 43 (by decide) tyX12 tyX12_ok nmX12 tw_1616 rfl rfl hnm rfl rfl rfl (Nat.le_of_ble_eq_true rfl) dX12_init_209 (mk_setT hk) ?_
  refine nw_aload_n C dX12_init_212 rfl 0 rfl ?_
  refine nw_bipush (v := 6) C dX12_init_213 (by decide) ?_
  refine nw_newI (N' := 6) C tw_180 (by decide) (by decide) (Nat.le_of_ble_eq_true rfl) (Nat.le_of_ble_eq_true rfl) (Nat.le_of_ble_eq_true rfl) dX12_init_215 (fun q25 => nw_ws mk_app ?_)
  refine nw_putF C in_X12 _ (mk_this hk) rfl 45 (by decide) tyX12 tyX12_ok nmX12 tw_1618 rfl rfl hnm rfl rfl rfl (Nat.le_of_ble_eq_true rfl) dX12_init_217 (mk_setT hk) ?_
  refine nw_aload_n C dX12_init_220 rfl 0 rfl ?_
  refine nw_bipush (v := 6) C dX12_init_221 (by decide) ?_
  refine nw_newI (N' := 6) C tw_180 (by decide) (by decide) (Nat.le_of_ble_eq_true rfl) (Nat.le_of_ble_eq_true rfl) (Nat.le_of_ble_eq_true rfl) dX12_init_223 (fun q26 => nw_ws mk_app ?_)
  refine nw_putF C in_X12 _ (mk_this hk) rfl 46 (by decide) tyX12 tyX12_ok nmX12 tw_1619 rfl rfl hnm rfl rfl rfl (Nat.le_of_ble_eq_true rfl) dX12_init_225 (mk_setT hk) ?_
  refine nw_aload_n C dX12_init_228 rfl 0 rfl ?_
  refine nw_bipush (v := 6) C dX12_init_229 (by decide) ?_
  refine nw_newI (N' := 6) C tw_180 (by decide) (by decide) (Nat.le_of_ble_eq_true rfl) (Nat.le_of_ble_eq_true rfl) (Nat.le_of_ble_eq_true rfl) dX12_init_231 (fun q27 => nw_ws mk_app ?_)
  refine nw_putF C in_X12 _ (mk_this hk) rfl 47 (by decide) tyX12 tyX12_ok nmX12 tw_1620 rfl rfl hnm rfl rfl rfl (Nat.le_of_ble_eq_true rfl) dX12_init_233 (mk_setT hk) ?_
  refine nw_aload_n C dX12_init_236 rfl 0 rfl ?_
  refine nw_bipush (v := 60) C dX12_init_237 (by decide) ?_
  refine nw_newI (N' := 60) C tw_180 (by decide) (by decide) (Nat.le_of_ble_eq_true rfl) (Nat.le_of_ble_eq_true rfl) (Nat.le_of_ble_eq_true rfl) dX12_init_239 (fun q28 => nw_ws mk_app ?_)
  refine nw_putF C in_X12 _ (mk_this hk) rfl 49 (by decide) tyX12 tyX12_ok nmX12 tw_1622 rfl rfl hnm rfl rfl rfl (Nat.le_of_ble_eq_true rfl) dX12_init_241 (mk_setT hk) ?_
  refine nw_ws (ws' := mkW ws k (b, .inr (12, [.int 0, .int 0, .int 0, .ref q0, .ref q1, .ref q2, .ref q3, .int 0, .ref q4, .int 0, .int 0, .int 0, .ref q5, .ref q6, .ref q7, .ref q8, .ref q9, .ref q10, .int 0, .int 0, .int 0, .int 0, .int 0, .int 0, .int 0, .int (-1), .int 0, .int 0, .ref q11, .ref q12, .ref q13, .ref q14, .ref q15, .ref q16, .ref q17, .ref q18, .ref q19, .ref q20, .int 0, .int 0, .ref q21, .ref q22, .ref q23, .ref q24, .int 0, .ref q25, .ref q26, .ref q27, .int 0, .ref q28, .null, .null, .null, .null, .null, .null, .int 0, .int 0, .int 0, .int 0, .int 0, .null, .null, .null, .null, .null, .null, .null, .null, .null, .null, .int 0, .null, .null, .null, .null, .null, .null, .null, .null, .null, .null, .null, .null, .null, .null, .int 0, .int 0, .null, .null, .null, .null, .int 0, .null, .null, .null, .null, .null, .null, .null, .null, .int 0, .int 0, .int 0, .null, .null, .null, .null, .null, .null, .null, .null])) [(q0, .inl (gI g, 40, .inl (fun _ => 0))), (q1, .inl (gI g, 40, .inl (fun _ => 0))), (q2, .inl (gI g, 40, .inl (fun _ => 0))), (q3, .inl (gB g, 400, .inl (fun _ => 0))), (q4, .inl (gI g, 10, .inl (fun _ => 0))), (q5, .inl (gI g, 120, .inl (fun _ => 0))), (q6, .inl (gI g, 12, .inl (fun _ => 0))), (q7, .inl (gI g, 12, .inl (fun _ => 0))), (q8, .inl (gI g, 12, .inl (fun _ => 0))), (q9, .inl (gI g, 6, .inl (fun _ => 0))), (q10, .inl (gI g, 6, .inl (fun _ => 0))), (q11, .inl (gI g, 10, .inl (fun _ => 0))), (q12, .inl (gI g, 10, .inl (fun _ => 0))), (q13, .inl (gI g, 120, .inl (fun _ => 0))), (q14, .inl (gI g, 120, .inl (fun _ => 0))), (q15, .inl (gI g, 120, .inl (fun _ => 0))), (q16, .inl (gI g, 120, .inl (fun _ => 0))), (q17, .inl (gI g, 120, .inl (fun _ => 0))), (q18, .inl (gI g, 4500, .inl (fun _ => 0))), (q19, .inl (gI g, 4500, .inl (fun _ => 0))), (q20, .inl (gZ g, 10, .inl (fun _ => 0))), (q21, .inl (gI g, 40, .inl (fun _ => 0))), (q22, .inl (gI g, 40, .inl (fun _ => 0))), (q23, .inl (gI g, 40, .inl (fun _ => 0))), (q24, .inl (gI g, 40, .inl (fun _ => 0))), (q25, .inl (gI g, 6, .inl (fun _ => 0))), (q26, .inl (gI g, 6, .inl (fun _ => 0))), (q27, .inl (gI g, 6, .inl (fun _ => 0))), (q28, .inl (gI g, 60, .inl (fun _ => 0)))]) rfl ?_
  refine nw_aload_n C dX12_init_244 rfl 0 rfl ?_
  refine nw_bipush (v := 60) C dX12_init_245 (by decide) ?_
  refine nw_newI (N' := 60) C tw_180 (by decide) (by decide) (Nat.le_of_ble_eq_true rfl) (Nat.le_of_ble_eq_true rfl) (Nat.le_of_ble_eq_true rfl) dX12_init_247 (fun q29 => nw_ws mk_app ?_)
  refine nw_putF C in_X12 _ (mk_this hk) rfl 50 (by decide) tyX12 tyX12_ok nmX12 tw_1623 rfl rfl hnm rfl rfl rfl (Nat.le_of_ble_eq_true rfl) dX12_init_249 (mk_setT hk) ?_
  refine nw_aload_n C dX12_init_252 rfl 0 rfl ?_
  refine nw_bipush (v := 60) C dX12_init_253 (by decide) ?_
  refine nw_newI (N' := 60) C tw_180 (by decide) (by decide) (Nat.le_of_ble_eq_true rfl) (Nat.le_of_ble_eq_true rfl) (Nat.le_of_ble_eq_true rfl) dX12_init_255 (fun q30 => nw_ws mk_app ?_)
  refine nw_putF C in_X12 _ (mk_this hk) rfl 51 (by decide) tyX12 tyX12_ok nmX12 tw_1624 rfl rfl hnm rfl rfl rfl (Nat.le_of_ble_eq_true rfl) dX12_init_257 (mk_setT hk) ?_
  refine nw_aload_n C dX12_init_260 rfl 0 rfl ?_
  refine nw_bipush (v := 60) C dX12_init_261 (by decide) ?_
  refine nw_newI (N' := 60) C tw_180 (by decide) (by decide) (Nat.le_of_ble_eq_true rfl) (Nat.le_of_ble_eq_true rfl) (Nat.le_of_ble_eq_true rfl) dX12_init_263 (fun q31 => nw_ws mk_app ?_)
  refine nw_putF C in_X12 _ (mk_this hk) rfl 52 (by decide) tyX12 tyX12_ok nmX12 tw_1625 rfl rfl hnm rfl rfl rfl (Nat.le_of_ble_eq_true rfl) dX12_init_265 (mk_setT hk) ?_
  refine nw_aload_n C dX12_init_268 rfl 0 rfl ?_
  refine nw_bipush (v := 60) C dX12_init_269 (by decide) ?_
  refine nw_newI (N' := 60) C tw_180 (by decide) (by decide) (Nat.le_of_ble_eq_true rfl) (Nat.le_of_ble_eq_true rfl) (Nat.le_of_ble_eq_true rfl) dX12_init_271 (fun q32 => nw_ws mk_app ?_)
  refine nw_putF C in_X12 _ (mk_this hk) rfl 53 (by decide) tyX12 tyX12_ok nmX12 tw_1626 rfl rfl hnm rfl rfl rfl (Nat.le_of_ble_eq_true rfl) dX12_init_273 (mk_setT hk) ?_
  refine nw_aload_n C dX12_init_276 rfl 0 rfl ?_
  refine nw_bipush (v := 60) C dX12_init_277 (by decide) ?_
  refine nw_newI (N' := 60) C tw_180 (by decide) (by decide) (Nat.le_of_ble_eq_true rfl) (Nat.le_of_ble_eq_true rfl) (Nat.le_of_ble_eq_true rfl) dX12_init_279 (fun q33 => nw_ws mk_app ?_)
  refine nw_putF C in_X12 _ (mk_this hk) rfl 54 (by decide) tyX12 tyX12_ok nmX12 tw_1627 rfl rfl hnm rfl rfl rfl (Nat.le_of_ble_eq_true rfl) dX12_init_281 (mk_setT hk) ?_
  refine nw_aload_n C dX12_init_284 rfl 0 rfl ?_
  refine nw_sipush (v := 450) C dX12_init_285 (by decide) ?_
  refine nw_newI (N' := 450) C tw_180 (by decide) (by decide) (Nat.le_of_ble_eq_true rfl) (Nat.le_of_ble_eq_true rfl) (Nat.le_of_ble_eq_true rfl) dX12_init_288 (fun q34 => nw_ws mk_app ?_)
  refine nw_putF C in_X12 _ (mk_this hk) rfl 55 (by decide) tyX12 tyX12_ok nmX12 tw_1628 rfl rfl hnm rfl rfl rfl (Nat.le_of_ble_eq_true rfl) dX12_init_290 (mk_setT hk) ?_
  refine nw_ws (ws' := mkW ws k (b, .inr (12, [.int 0, .int 0, .int 0, .ref q0, .ref q1, .ref q2, .ref q3, .int 0, .ref q4, .int 0, .int 0, .int 0, .ref q5, .ref q6, .ref q7, .ref q8, .ref q9, .ref q10, .int 0, .int 0, .int 0, .int 0, .int 0, .int 0, .int 0, .int (-1), .int 0, .int 0, .ref q11, .ref q12, .ref q13, .ref q14, .ref q15, .ref q16, .ref q17, .ref q18, .ref q19, .ref q20, .int 0, .int 0, .ref q21, .ref q22, .ref q23, .ref q24, .int 0, .ref q25, .ref q26, .ref q27, .int 0, .ref q28, .ref q29, .ref q30, .ref q31, .ref q32, .ref q33, .ref q34, .int 0, .int 0, .int 0, .int 0, .int 0, .null, .null, .null, .null, .null, .null, .null, .null, .null, .null, .int 0, .null, .null, .null, .null, .null, .null, .null, .null, .null, .null, .null, .null, .null, .null, .int 0, .int 0, .null, .null, .null, .null, .int 0, .null, .null, .null, .null, .null, .null, .null, .null, .int 0, .int 0, .int 0, .null, .null, .null, .null, .null, .null, .null, .null])) [(q0, .inl (gI g, 40, .inl (fun _ => 0))), (q1, .inl (gI g, 40, .inl (fun _ => 0))), (q2, .inl (gI g, 40, .inl (fun _ => 0))), (q3, .inl (gB g, 400, .inl (fun _ => 0))), (q4, .inl (gI g, 10, .inl (fun _ => 0))), (q5, .inl (gI g, 120, .inl (fun _ => 0))), (q6, .inl (gI g, 12, .inl (fun _ => 0))), (q7, .inl (gI g, 12, .inl (fun _ => 0))), (q8, .inl (gI g, 12, .inl (fun _ => 0))), (q9, .inl (gI g, 6, .inl (fun _ => 0))), (q10, .inl (gI g, 6, .inl (fun _ => 0))), (q11, .inl (gI g, 10, .inl (fun _ => 0))), (q12, .inl (gI g, 10, .inl (fun _ => 0))), (q13, .inl (gI g, 120, .inl (fun _ => 0))), (q14, .inl (gI g, 120, .inl (fun _ => 0))), (q15, .inl (gI g, 120, .inl (fun _ => 0))), (q16, .inl (gI g, 120, .inl (fun _ => 0))), (q17, .inl (gI g, 120, .inl (fun _ => 0))), (q18, .inl (gI g, 4500, .inl (fun _ => 0))), (q19, .inl (gI g, 4500, .inl (fun _ => 0))), (q20, .inl (gZ g, 10, .inl (fun _ => 0))), (q21, .inl (gI g, 40, .inl (fun _ => 0))), (q22, .inl (gI g, 40, .inl (fun _ => 0))), (q23, .inl (gI g, 40, .inl (fun _ => 0))), (q24, .inl (gI g, 40, .inl (fun _ => 0))), (q25, .inl (gI g, 6, .inl (fun _ => 0))), (q26, .inl (gI g, 6, .inl (fun _ => 0))), (q27, .inl (gI g, 6, .inl (fun _ => 0))), (q28, .inl (gI g, 60, .inl (fun _ => 0))), (q29, .inl (gI g, 60, .inl (fun _ => 0))), (q30, .inl (gI g, 60, .inl (fun _ => 0))), (q31, .inl (gI g, 60, .inl (fun _ => 0))), (q32, .inl (gI g, 60, .inl (fun _ => 0))), (q33, .inl (gI g, 60, .inl (fun _ => 0))), (q34, .inl (gI g, 450, .inl (fun _ => 0)))]) rfl ?_
  refine nw_aload_n C dX12_init_293 rfl 0 rfl ?_
  refine nw_bipush (v := 40) C dX12_init_294 (by decide) ?_
  refine nw_newI (N' := 40) C tw_180 (by decide) (by decide) (Nat.le_of_ble_eq_true rfl) (Nat.le_of_ble_eq_true rfl) (Nat.le_of_ble_eq_true rfl) dX12_init_296 (fun q35 => nw_ws mk_app ?_)
  refine nw_putF C in_X12 _ (mk_this hk) rfl 61 (by decide) tyX12 tyX12_ok nmX12 tw_1634 rfl rfl hnm rfl rfl rfl (Nat.le_of_ble_eq_true rfl) dX12_init_298 (mk_setT hk) ?_
  refine nw_aload_n C dX12_init_301 rfl 0 rfl ?_
  refine nw_bipush (v := 40) C dX12_init_302 (by decide) ?_
  refine nw_newI (N' := 40) C tw_180 (by decide) (by decide) (Nat.le_of_ble_eq_true rfl) (Nat.le_of_ble_eq_true rfl) (Nat.le_of_ble_eq_true rfl) dX12_init_304 (fun q36 => nw_ws mk_app ?_)
  refine nw_putF C in_X12 _ (mk_this hk) rfl 62 (by decide) tyX12 tyX12_ok nmX12 tw_1635 rfl rfl hnm rfl rfl rfl (Nat.le_of_ble_eq_true rfl) dX12_init_306 (mk_setT hk) ?_
  refine nw_aload_n C dX12_init_309 rfl 0 rfl ?_
  refine nw_bipush (v := 80) C dX12_init_310 (by decide) ?_
  refine nw_newI (N' := 80) C tw_180 (by decide) (by decide) (Nat.le_of_ble_eq_true rfl) (Nat.le_of_ble_eq_true rfl) (Nat.le_of_ble_eq_true rfl) dX12_init_312 (fun q37 => nw_ws mk_app ?_)
  refine nw_putF C in_X12 _ (mk_this hk) rfl 63 (by decide) tyX12 tyX12_ok nmX12 tw_1636 rfl rfl hnm rfl rfl rfl (Nat.le_of_ble_eq_true rfl) dX12_init_314 (mk_setT hk) ?_
  refine nw_aload_n C dX12_init_317 rfl 0 rfl ?_
  refine nw_bipush (v := 40) C dX12_init_318 (by decide) ?_
  refine nw_newI (N' := 40) C tw_180 (by decide) (by decide) (Nat.le_of_ble_eq_true rfl) (Nat.le_of_ble_eq_true rfl) (Nat.le_of_ble_eq_true rfl) dX12_init_320 (fun q38 => nw_ws mk_app ?_)
  refine nw_putF C in_X12 _ (mk_this hk) rfl 64 (by decide) tyX12 tyX12_ok nmX12 tw_1637 rfl rfl hnm rfl rfl rfl (Nat.le_of_ble_eq_true rfl) dX12_init_322 (mk_setT hk) ?_
  refine nw_aload_n C dX12_init_325 rfl 0 rfl ?_
  refine nw_bipush (v := 40) C dX12_init_326 (by decide) ?_
  refine nw_newI (N' := 40) C tw_180 (by decide) (by decide) (Nat.le_of_ble_eq_true rfl) (Nat.le_of_ble_eq_true rfl) (Nat.le_of_ble_eq_true rfl) dX12_init_328 (fun q39 => nw_ws mk_app ?_)
  refine nw_putF C in_X12 _ (mk_this hk) rfl 65 (by decide) tyX12 tyX12_ok nmX12 tw_1638 rfl rfl hnm rfl rfl rfl (Nat.le_of_ble_eq_true rfl) dX12_init_330 (mk_setT hk) ?_
  refine nw_aload_n C dX12_init_333 rfl 0 rfl ?_
  refine nw_bipush (v := 40) C dX12_init_334 (by decide) ?_
  refine nw_newI (N' := 40) C tw_180 (by decide) (by decide) (Nat.le_of_ble_eq_true rfl) (Nat.le_of_ble_eq_true rfl) (Nat.le_of_ble_eq_true rfl) dX12_init_336 (fun q40 => nw_ws mk_app ?_)
  refine nw_putF C in_X12 _ (mk_this hk) rfl 66 (by decide) tyX12 tyX12_ok nmX12 tw_1639 rfl rfl hnm rfl rfl rfl (Nat.le_of_ble_eq_true rfl) dX12_init_338 (mk_setT hk) ?_
  refine nw_ws (ws' := mkW ws k (b, .inr (12, [.int 0, .int 0, .int 0, .ref q0, .ref q1, .ref q2, .ref q3, .int 0, .ref q4, .int 0, .int 0, .int 0, .ref q5, .ref q6, .ref q7, .ref q8, .ref q9, .ref q10, .int 0, .int 0, .int 0, .int 0, .int 0, .int 0, .int 0, .int (-1), .int 0, .int 0, .ref q11, .ref q12, .ref q13, .ref q14, .ref q15, .ref q16, .ref q17, .ref q18, .ref q19, .ref q20, .int 0, .int 0, .ref q21, .ref q22, .ref q23, .ref q24, .int 0, .ref q25, .ref q26, .ref q27, .int 0, .ref q28, .ref q29, .ref q30, .ref q31, .ref q32, .ref q33, .ref q34, .int 0, .int 0, .int 0, .int 0, .int 0, .ref q35, .ref q36, .ref q37, .ref q38, .ref q39, .ref q40, .null, .null, .null, .null, .int 0, .null, .null, .null, .null, .null, .null, .null, .null, .null, .null, .null, .null, .null, .null, .int 0, .int 0, .null, .null, .null, .null, .int 0, .null, .null, .null, .null, .null, .null, .null, .null, .int 0, .int 0, .int 0, .null, .null, .null, .null, .null, .null, .null, .null])) [(q0, .inl (gI g, 40, .inl (fun _ => 0))), (q1, .inl (gI g, 40, .inl (fun _ => 0))), (q2, .inl (gI g, 40, .inl (fun _ => 0))), (q3, .inl (gB g, 400, .inl (fun _ => 0))), (q4, .inl (gI g, 10, .inl (fun _ => 0))), (q5, .inl (gI g, 120, .inl (fun _ => 0))), (q6, .inl (gI g, 12, .inl (fun _ => 0))), (q7, .inl (gI g, 12, .inl (fun _ => 0))), (q8, .inl (gI g, 12, .inl (fun _ => 0))), (q9, .inl (gI g, 6, .inl (fun _ => 0))), (q10, .inl (gI g, 6, .inl (fun _ => 0))), (q11, .inl (gI g, 10, .inl (fun _ => 0))), (q12, .inl (gI g, 10, .inl (fun _ => 0))), (q13, .inl (gI g, 120, .inl (fun _ => 0))), (q14, .inl (gI g, 120, .inl (fun _ => 0))), (q15, .inl (gI g, 120, .inl (fun _ => 0))), (q16, .inl (gI g, 120, .inl (fun _ => 0))), (q17, .inl (gI g, 120, .inl (fun _ => 0))), (q18, .inl (gI g, 4500, .inl (fun _ => 0))), (q19, .inl (gI g, 4500, .inl (fun _ => 0))), (q20, .inl (gZ g, 10, .inl (fun _ => 0))), (q21, .inl (gI g, 40, .inl (fun _ => 0))), (q22, .inl (gI g, 40, .inl (fun _ => 0))), (q23, .inl (gI g, 40, .inl (fun _ => 0))), (q24, .inl (gI g, 40, .inl (fun _ => 0))), (q25, .inl (gI g, 6, .inl (fun _ => 0))), (q26, .inl (gI g, 6, .inl (fun _ => 0))), (q27, .inl (gI g, 6, .inl (fun _ => 0))), (q28, .inl (gI g, 60, .inl (fun _ => 0))), (q29, .inl (gI g, 60, .inl (fun _ => 0))), (q30, .inl (gI g, 60, .inl (fun _ => 0))), (q31, .inl (gI g, 60, .inl (fun _ => 0))), (q32, .inl (gI g, 60, .inl (fun _ => 0))), (q33, .inl (gI g, 60, .inl (fun _ => 0))), (q34, .inl (gI g, 450, .inl (fun _ => 0))), (q35, .inl (gI g, 40, .inl (fun _ => 0))), (q36, .inl (gI g, 40, .inl (fun _ => 0))), (q37, .inl (gI g, 80, .inl (fun _ => 0))), (q38, .inl (gI g, 40, .inl (fun _ => 0))), (q39, .inl (gI g, 40, .inl (fun _ => 0))), (q40, .inl (gI g, 40, .inl (fun _ => 0)))]) rfl ?_
  refine nw_aload_n C dX12_init_341 rfl 0 rfl ?_
  refine nw_bipush (v := 40) C dX12_init_342 (by decide) ?_
  refine nw_newI (N' := 40) C tw_180 (by decide) (by decide) (Nat.le_of_ble_eq_true rfl) (Nat.le_of_ble_eq_true rfl) (Nat.le_of_ble_eq_true rfl) dX12_init_344 (fun q41 => nw_ws mk_app ?_)
  refine nw_putF C in_X12 _ (mk_this hk) rfl 67 (by decide) tyX12 tyX12_ok nmX12 tw_1640 rfl rfl hnm rfl rfl rfl (Nat.le_of_ble_eq_true rfl) dX12_init_346 (mk_setT hk) ?_
  refine nw_aload_n C dX12_init_349 rfl 0 rfl ?_
  refine nw_bipush (v := 40) C dX12_init_350 (by decide) ?_
  refine nw_newI (N' := 40) C tw_180 (by decide) (by decide) (Nat.le_of_ble_eq_true rfl) (Nat.le_of_ble_eq_true rfl) (Nat.le_of_ble_eq_true rfl) dX12_init_352 (fun q42 => nw_ws mk_app ?_)
  refine nw_putF C in_X12 _ (mk_this hk) rfl 68 (by decide) tyX12 tyX12_ok nmX12 tw_1641 rfl rfl hnm rfl rfl rfl (Nat.le_of_ble_eq_true rfl) dX12_init_354 (mk_setT hk) ?_
  refine nw_aload_n C dX12_init_357 rfl 0 rfl ?_
  refine nw_bipush (v := 120) C dX12_init_358 (by decide) ?_
  refine nw_newI (N' := 120) C tw_180 (by decide) (by decide) (Nat.le_of_ble_eq_true rfl) (Nat.le_of_ble_eq_true rfl) (Nat.le_of_ble_eq_true rfl) dX12_init_360 (fun q43 => nw_ws mk_app ?_)
  refine nw_putF C in_X12 _ (mk_this hk) rfl 69 (by decide) tyX12 tyX12_ok nmX12 tw_1642 rfl rfl hnm rfl rfl rfl (Nat.le_of_ble_eq_true rfl) dX12_init_362 (mk_setT hk) ?_
  refine nw_aload_n C dX12_init_365 rfl 0 rfl ?_
  refine nw_bipush (v := 40) C dX12_init_366 (by decide) ?_
  refine nw_newI (N' := 40) C tw_180 (by decide) (by decide) (Nat.le_of_ble_eq_true rfl) (Nat.le_of_ble_eq_true rfl) (Nat.le_of_ble_eq_true rfl) dX12_init_368 (fun q44 => nw_ws mk_app ?_)
  refine nw_putF C in_X12 _ (mk_this hk) rfl 70 (by decide) tyX12 tyX12_ok nmX12 tw_1643 rfl rfl hnm rfl rfl rfl (Nat.le_of_ble_eq_true rfl) dX12_init_370 (mk_setT hk) ?_
  refine nw_aload_n C dX12_init_373 rfl 0 rfl ?_
  refine nw_bipush (v := 20) C dX12_init_374 (by decide) ?_
  refine nw_newI (N' := 20) C tw_180 (by decide) (by decide) (Nat.le_of_ble_eq_true rfl) (Nat.le_of_ble_eq_true rfl) (Nat.le_of_ble_eq_true rfl) dX12_init_376 (fun q45 => nw_ws mk_app ?_)
  refine nw_putF C in_X12 _ (mk_this hk) rfl 72 (by decide) tyX12 tyX12_ok nmX12 tw_1645 rfl rfl hnm rfl rfl rfl (Nat.le_of_ble_eq_true rfl) dX12_init_378 (mk_setT hk) ?_
  refine nw_aload_n C dX12_init_381 rfl 0 rfl ?_
  refine nw_bipush (v := 20) C dX12_init_382 (by decide) ?_
  refine nw_newI (N' := 20) C tw_180 (by decide) (by decide) (Nat.le_of_ble_eq_true rfl) (Nat.le_of_ble_eq_true rfl) (Nat.le_of_ble_eq_true rfl) dX12_init_384 (fun q46 => nw_ws mk_app ?_)
  refine nw_putF C in_X12 _ (mk_this hk) rfl 73 (by decide) tyX12 tyX12_ok nmX12 tw_1646 rfl rfl hnm rfl rfl rfl (Nat.le_of_ble_eq_true rfl) dX12_init_386 (mk_setT hk) ?_
  refine nw_ws (ws' := mkW ws k (b, .inr (12, [.int 0, .int 0, .int 0, .ref q0, .ref q1, .ref q2, .ref q3, .int 0, .ref q4, .int 0, .int 0, .int 0, .ref q5, .ref q6, .ref q7, .ref q8, .ref q9, .ref q10, .int 0, .int 0, .int 0, .int 0, .int 0, .int 0, .int 0, .int (-1), .int 0, .int 0, .ref q11, .ref q12, .ref q13, .ref q14, .ref q15, .ref q16, .ref q17, .ref q18, .ref q19, .ref q20, .int 0, .int 0, .ref q21, .ref q22, .ref q23, .ref q24, .int 0, .ref q25, .ref q26, .ref q27, .int 0, .ref q28, .ref q29, .ref q30, .ref q31, .ref q32, .ref q33, .ref q34, .int 0, .int 0, .int 0, .int 0, .int 0, .ref q35, .ref q36, .ref q37, .ref q38, .ref q39, .ref q40, .ref q41, .ref q42, .ref q43, .ref q44, .int 0, .ref q45, .ref q46, .null, .null, .null, .null, .null, .null, .null, .null, .null, .null, .null, .null, .int 0, .int 0, .null, .null, .null, .null, .int 0, .null, .null, .null, .null, .null, .null, .null, .null, .int 0, .int 0, .int 0, .null, .null, .null, .null, .null, .null, .null, .null])) [(q0, .inl (gI g, 40, .inl (fun _ => 0))), (q1, .inl (gI g, 40, .inl (fun _ => 0))), (q2, .inl (gI g, 40, .inl (fun _ => 0))), (q3, .inl (gB g, 400, .inl (fun _ => 0))), (q4, .inl (gI g, 10, .inl (fun _ => 0))), (q5, .inl (gI g, 120, .inl (fun _ => 0))), (q6, .inl (gI g, 12, .inl (fun _ => 0))), (q7, .inl (gI g, 12, .inl (fun _ => 0))), (q8, .inl (gI g, 12, .inl (fun _ => 0))), (q9, .inl (gI g, 6, .inl (fun _ => 0))), (q10, .inl (gI g, 6, .inl (fun _ => 0))), (q11, .inl (gI g, 10, .inl (fun _ => 0))), (q12, .inl (gI g, 10, .inl (fun _ => 0))), (q13, .inl (gI g, 120, .inl (fun _ => 0))), (q14, .inl (gI g, 120, .inl (fun _ => 0))), (q15, .inl (gI g, 120, .inl (fun _ => 0))), (q16, .inl (gI g, 120, .inl (fun _ => 0))), (q17, .inl (gI g, 120, .inl (fun _ => 0))), (q18, .inl (gI g, 4500, .inl (fun _ => 0))), (q19, .inl (gI g, 4500, .inl (fun _ => 0))), (q20, .inl (gZ g, 10, .inl (fun _ => 0))), (q21, .inl (gI g, 40, .inl (fun _ => 0))), (q22, .inl (gI g, 40, .inl (fun _ => 0))), (q23, .inl (gI g, 40, .inl (fun _ => 0))), (q24, .inl (gI g, 40, .inl (fun _ => 0))), (q25, .inl (gI g, 6, .inl (fun _ => 0))), (q26, .inl (gI g, 6, .inl (fun _ => 0))), (q27, .inl (gI g, 6, .inl (fun _ => 0))), (q28, .inl (gI g, 60, .inl (fun _ => 0))), (q29, .inl (gI g, 60, .inl (fun _ => 0))), (q30, .inl (gI g, 60, .inl (fun _ => 0))), (q31, .inl (gI g, 60, .inl (fun _ => 0))), (q32, .inl (gI g, 60, .inl (fun _ => 0))), (q33, .inl (gI g, 60, .inl (fun _ => 0))), (q34, .inl (gI g, 450, .inl (fun _ => 0))), (q35, .inl (gI g, 40, .inl (fun _ => 0))), (q36, .inl (gI g, 40, .inl (fun _ => 0))), (q37, .inl (gI g, 80, .inl (fun _ => 0))), (q38, .inl (gI g, 40, .inl (fun _ => 0))), (q39, .inl (gI g, 40, .inl (fun _ => 0))), (q40, .inl (gI g, 40, .inl (fun _ => 0))), (q41, .inl (gI g, 40, .inl (fun _ => 0))), (q42, .inl (gI g, 40, .inl (fun _ => 0))), (q43, .inl (gI g, 120, .inl (fun _ => 0))), (q44, .inl (gI g, 40, .inl (fun _ => 0))), (q45, .inl (gI g, 20, .inl (fun _ => 0))), (q46, .inl (gI g, 20, .inl (fun _ => 0)))]) rfl ?_
  refine nw_aload_n C dX12_init_389 rfl 0 rfl ?_
  refine nw_bipush (v := 20) C dX12_init_390 (by decide) ?_
  refine nw_newI (N' := 20) C tw_180 (by decide) (by decide) (Nat.le_of_ble_eq_true rfl) (Nat.le_of_ble_eq_true rfl) (Nat.le_of_ble_eq_true rfl) dX12_init_392 (fun q47 => nw_ws mk_app ?_)
  refine nw_putF C in_X12 _ (mk_this hk) rfl 74 (by decide) tyX12 tyX12_ok nmX12 tw_1647 rfl rfl hnm rfl rfl rfl (Nat.le_of_ble_eq_true rfl) dX12_init_394 (mk_setT hk) ?_
  refine nw_aload_n C dX12_init_397 rfl 0 rfl ?_
  refine nw_bipush (v := 20) C dX12_init_398 (by decide) ?_
  refine nw_newI (N' := 20) C tw_180 (by decide) (by decide) (Nat.le_of_ble_eq_true rfl) (Nat.le_of_ble_eq_true rfl) (Nat.le_of_ble_eq_true rfl) dX12_init_400 (fun q48 => nw_ws mk_app ?_)
  refine nw_putF C in_X12 _ (mk_this hk) rfl 75 (by decide) tyX12 tyX12_ok nmX12 tw_1648 rfl rfl hnm rfl rfl rfl (Nat.le_of_ble_eq_true rfl) dX12_init_402 (mk_setT hk) ?_
  refine nw_aload_n C dX12_init_405 rfl 0 rfl ?_
  refine nw_bipush (v := 20) C dX12_init_406 (by decide) ?_
  refine nw_newI (N' := 20) C tw_180 (by decide) (by decide) (Nat.le_of_ble_eq_true rfl) (Nat.le_of_ble_eq_true rfl) (Nat.le_of_ble_eq_true rfl) dX12_init_408 (fun q49 => nw_ws mk_app ?_)
  refine nw_putF C in_X12 _ (mk_this hk) rfl 76 (by decide) tyX12 tyX12_ok nmX12 tw_1649 rfl rfl hnm rfl rfl rfl (Nat.le_of_ble_eq_true rfl) dX12_init_410 (mk_setT hk) ?_
  refine nw_aload_n C dX12_init_413 rfl 0 rfl ?_
  refine nw_sipush (v := 1200) C dX12_init_414 (by decide) ?_
  refine nw_newI (N' := 1200) C tw_180 (by decide) (by decide) (Nat.le_of_ble_eq_true rfl) (Nat.le_of_ble_eq_true rfl) (Nat.le_of_ble_eq_true rfl) dX12_init_417 (fun q50 => nw_ws mk_app ?_)
  refine nw_putF C in_X12 _ (mk_this hk) rfl 77 (by decide) tyX12 tyX12_ok nmX12 tw_1650 rfl rfl hnm rfl rfl rfl (Nat.le_of_ble_eq_true rfl) dX12_init_419 (mk_setT hk) ?_
  refine nw_aload_n C dX12_init_422 rfl 0 rfl ?_
  refine nw_sipush (v := 1200) C dX12_init_423 (by decide) ?_
  refine nw_newI (N' := 1200) C tw_180 (by decide) (by decide) (Nat.le_of_ble_eq_true rfl) (Nat.le_of_ble_eq_true rfl) (Nat.le_of_ble_eq_true rfl) dX12_init_426 (fun q51 => nw_ws mk_app ?_)
  refine nw_putF C in_X12 _ (mk_this hk) rfl 78 (by decide) tyX12 tyX12_ok nmX12 tw_1651 rfl rfl hnm rfl rfl rfl (Nat.le_of_ble_eq_true rfl) dX12_init_428 (mk_setT hk) ?_
  refine nw_aload_n C dX12_init_431 rfl 0 rfl ?_
  refine nw_iconst (v := 4) C dX12_init_432 (by decide) ?_
  refine nw_newI (N' := 4) C tw_180 (by decide) (by decide) (Nat.le_of_ble_eq_true rfl) (Nat.le_of_ble_eq_true rfl) (Nat.le_of_ble_eq_true rfl) dX12_init_433 (fun q52 => nw_ws mk_app ?_)
  refine nw_putF C in_X12 _ (mk_this hk) rfl 79 (by decide) tyX12 tyX12_ok nmX12 tw_1652 rfl rfl hnm rfl rfl rfl (Nat.le_of_ble_eq_true rfl) dX12_init_435 (mk_setT hk) ?_
  refine nw_ws (ws' := mkW ws k (b, .inr (12, [.int 0, .int 0, .int 0, .ref q0, .ref q1, .ref q2, .ref q3, .int 0, .ref q4, .int 0, .int 0, .int 0, .ref q5, .ref q6, .ref q7, .ref q8, .ref q9, .ref q10, .int 0, .int 0, .int 0, .int 0, .int 0, .int 0, .int 0, .int (-1), .int 0, .int 0, .ref q11, .ref q12, .ref q13, .ref q14, .ref q15, .ref q16, .ref q17, .ref q18, .ref q19, .ref q20, .int 0, .int 0, .ref q21, .ref q22, .ref q23, .ref q24, .int 0, .ref q25, .ref q26, .ref q27, .int 0, .ref q28, .ref q29, .ref q30, .ref q31, .ref q32, .ref q33, .ref q34, .int 0, .int 0, .int 0, .int 0, .int 0, .ref q35, .ref q36, .ref q37, .ref q38, .ref q39, .ref q40, .ref q41, .ref q42, .ref q43, .ref q44, .int 0, .ref q45, .ref q46, .ref q47, .ref q48, .ref q49, .ref q50, .ref q51, .ref q52, .null, .null, .null, .null, .null, .null, .int 0, .int 0, .null, .null, .null, .null, .int 0, .null, .null, .null, .null, .null, .null, .null, .null, .int 0, .int 0, .int 0, .null, .null, .null, .null, .null, .null, .null, .null])) [(q0, .inl (gI g, 40, .inl (fun _ => 0))), (q1, .inl (gI g, 40, .inl (fun _ => 0))), (q2, .inl (gI g, 40, .inl (fun _ => 0))), (q3, .inl (gB g, 400, .inl (fun _ => 0))), (q4, .inl (gI g, 10, .inl (fun _ => 0))), (q5, .inl (gI g, 120, .inl (fun _ => 0))), (q6, .inl (gI g, 12, .inl (fun _ => 0))), (q7, .inl (gI g, 12, .inl (fun _ => 0))), (q8, .inl (gI g, 12, .inl (fun _ => 0))), (q9, .inl (gI g, 6, .inl (fun _ => 0))), (q10, .inl (gI g, 6, .inl (fun _ => 0))), (q11, .inl (gI g, 10, .inl (fun _ => 0))), (q12, .inl (gI g, 10, .inl (fun _ => 0))), (q13, .inl (gI g, 120, .inl (fun _ => 0))), (q14, .inl (gI g, 120, .inl (fun _ => 0))), (q15, .inl (gI g, 120, .inl (fun _ => 0))), (q16, .inl (gI g, 120, .inl (fun _ => 0))), (q17, .inl (gI g, 120, .inl (fun _ => 0))), (q18, .inl (gI g, 4500, .inl (fun _ => 0))), (q19, .inl (gI g, 4500, .inl (fun _ => 0))), (q20, .inl (gZ g, 10, .inl (fun _ => 0))), (q21, .inl (gI g, 40, .inl (fun _ => 0))), (q22, .inl (gI g, 40, .inl (fun _ => 0))), (q23, .inl (gI g, 40, .inl (fun _ => 0))), (q24, .inl (gI g, 40, .inl (fun _ => 0))), (q25, .inl (gI g, 6, .inl (fun _ => 0))), (q26, .inl (gI g, 6, .inl (fun _ => 0))), (q27, .inl (gI g, 6, .inl (fun _ => 0))), (q28, .inl (gI g, 60, .inl (fun _ => 0))), (q29, .inl (gI g, 60, .inl (fun _ => 0))), (q30, .inl (gI g, 60, .inl (fun _ => 0))), (q31, .inl (gI g, 60, .inl (fun _ => 0))), (q32, .inl (gI g, 60, .inl (fun _ => 0))), (q33, .inl (gI g, 60, .inl (fun _ => 0))), (q34, .inl (gI g, 450, .inl (fun _ => 0))), (q35, .inl (gI g, 40, .inl (fun _ => 0))), (q36, .inl (gI g, 40, .inl (fun _ => 0))), (q37, .inl (gI g, 80, .inl (fun _ => 0))), (q38, .inl (gI g, 40, .inl (fun _ => 0))), (q39, .inl (gI g, 40, .inl (fun _ => 0))), (q40, .inl (gI g, 40, .inl (fun _ => 0))), (q41, .inl (gI g, 40, .inl (fun _ => 0))), (q42, .inl (gI g, 40, .inl (fun _ => 0))), (q43, .inl (gI g, 120, .inl (fun _ => 0))), (q44, .inl (gI g, 40, .inl (fun _ => 0))), (q45, .inl (gI g, 20, .inl (fun _ => 0))), (q46, .inl (gI g, 20, .inl (fun _ => 0))), (q47, .inl (gI g, 20, .inl (fun _ => 0))), (q48, .inl (gI g, 20, .inl (fun _ => 0))), (q49, .inl (gI g, 20, .inl (fun _ => 0))), (q50, .inl (gI g, 1200, .inl (fun _ => 0))), (q51, .inl (gI g, 1200, .inl (fun _ => 0))), (q52, .inl (gI g, 4, .inl (fun _ => 0)))]) rfl ?_
  refine nw_aload_n C dX12_init_438 rfl 0 rfl ?_
  refine nw_bipush (v := 32) C dX12_init_439 (by decide) ?_
  refine nw_newI (N' := 32) C tw_180 (by decide) (by decide) (Nat.le_of_ble_eq_true rfl) (Nat.le_of_ble_eq_true rfl) (Nat.le_of_ble_eq_true rfl) dX12_init_441 (fun q53 => nw_ws mk_app ?_)
  refine nw_putF C in_X12 _ (mk_this hk) rfl 80 (by decide) tyX12 tyX12_ok nmX12 tw_1653 rfl rfl hnm rfl rfl rfl (Nat.le_of_ble_eq_true rfl) dX12_init_443 (mk_setT hk) ?_
  refine nw_aload_n C dX12_init_446 rfl 0 rfl ?_
  refine nw_bipush (v := 32) C dX12_init_447 (by decide) ?_
  refine nw_newI (N' := 32) C tw_180 (by decide) (by decide) (Nat.le_of_ble_eq_true rfl) (Nat.le_of_ble_eq_true rfl) (Nat.le_of_ble_eq_true rfl) dX12_init_449 (fun q54 => nw_ws mk_app ?_)
  refine nw_putF C in_X12 _ (mk_this hk) rfl 81 (by decide) tyX12 tyX12_ok nmX12 tw_1654 rfl rfl hnm rfl rfl rfl (Nat.le_of_ble_eq_true rfl) dX12_init_451 (mk_setT hk) ?_
  refine nw_aload_n C dX12_init_454 rfl 0 rfl ?_
  refine nw_bipush (v := 8) C dX12_init_455 (by decide) ?_
  refine nw_newI (N' := 8) C tw_180 (by decide) (by decide) (Nat.le_of_ble_eq_true rfl) (Nat.le_of_ble_eq_true rfl) (Nat.le_of_ble_eq_true rfl) dX12_init_457 (fun q55 => nw_ws mk_app ?_)
  refine nw_putF C in_X12 _ (mk_this hk) rfl 82 (by decide) tyX12 tyX12_ok nmX12 tw_1655 rfl rfl hnm rfl rfl rfl (Nat.le_of_ble_eq_true rfl) dX12_init_459 (mk_setT hk) ?_
  refine nw_aload_n C dX12_init_462 rfl 0 rfl ?_
  refine nw_bipush (v := 64) C dX12_init_463 (by decide) ?_
  refine nw_newI (N' := 64) C tw_180 (by decide) (by decide) (Nat.le_of_ble_eq_true rfl) (Nat.le_of_ble_eq_true rfl) (Nat.le_of_ble_eq_true rfl) dX12_init_465 (fun q56 => nw_ws mk_app ?_)
  refine nw_putF C in_X12 _ (mk_this hk) rfl 83 (by decide) tyX12 tyX12_ok nmX12 tw_1656 rfl rfl hnm rfl rfl rfl (Nat.le_of_ble_eq_true rfl) dX12_init_467 (mk_setT hk) ?_
  refine nw_aload_n C dX12_init_470 rfl 0 rfl ?_
  refine nw_bipush (v := 8) C dX12_init_471 (by decide) ?_
  refine nw_newI (N' := 8) C tw_180 (by decide) (by decide) (Nat.le_of_ble_eq_true rfl) (Nat.le_of_ble_eq_true rfl) (Nat.le_of_ble_eq_true rfl) dX12_init_473 (fun q57 => nw_ws mk_app ?_)
  refine nw_putF C in_X12 _ (mk_this hk) rfl 84 (by decide) tyX12 tyX12_ok nmX12 tw_1657 rfl rfl hnm rfl rfl rfl (Nat.le_of_ble_eq_true rfl) dX12_init_475 (mk_setT hk) ?_
  refine nw_aload_n C dX12_init_478 rfl 0 rfl ?_
  refine nw_bipush (v := 8) C dX12_init_479 (by decide) ?_
  refine nw_newI (N' := 8) C tw_180 (by decide) (by decide) (Nat.le_of_ble_eq_true rfl) (Nat.le_of_ble_eq_true rfl) (Nat.le_of_ble_eq_true rfl) dX12_init_481 (fun q58 => nw_ws mk_app ?_)
  refine nw_putF C in_X12 _ (mk_this hk) rfl 85 (by decide) tyX12 tyX12_ok nmX12 tw_1658 rfl rfl hnm rfl rfl rfl (Nat.le_of_ble_eq_true rfl) dX12_init_483 (mk_setT hk) ?_
  refine nw_ws (ws' := mkW ws k (b, .inr (12, [.int 0, .int 0, .int 0, .ref q0, .ref q1, .ref q2, .ref q3, .int 0, .ref q4, .int 0, .int 0, .int 0, .ref q5, .ref q6, .ref q7, .ref q8, .ref q9, .ref q10, .int 0, .int 0, .int 0, .int 0, .int 0, .int 0, .int 0, .int (-1), .int 0, .int 0, .ref q11, .ref q12, .ref q13, .ref q14, .ref q15, .ref q16, .ref q17, .ref q18, .ref q19, .ref q20, .int 0, .int 0, .ref q21, .ref q22, .ref q23, .ref q24, .int 0, .ref q25, .ref q26, .ref q27, .int 0, .ref q28, .ref q29, .ref q30, .ref q31, .ref q32, .ref q33, .ref q34, .int 0, .int 0, .int 0, .int 0, .int 0, .ref q35, .ref q36, .ref q37, .ref q38, .ref q39, .ref q40, .ref q41, .ref q42, .ref q43, .ref q44, .int 0, .ref q45, .ref q46, .ref q47, .ref q48, .ref q49, .ref q50, .ref q51, .ref q52, .ref q53, .ref q54, .ref q55, .ref q56, .ref q57, .ref q58, .int 0, .int 0, .null, .null, .null, .null, .int 0, .null, .null, .null, .null, .null, .null, .null, .null, .int 0, .int 0, .int 0, .null, .null, .null, .null, .null, .null, .null, .null])) [(q0, .inl (gI g, 40, .inl (fun _ => 0))), (q1, .inl (gI g, 40, .inl (fun _ => 0))), (q2, .inl (gI g, 40, .inl (fun _ => 0))), (q3, .inl (gB g, 400, .inl (fun _ => 0))), (q4, .inl (gI g, 10, .inl (fun _ => 0))), (q5, .inl (gI g, 120, .inl (fun _ => 0))), (q6, .inl (gI g, 12, .inl (fun _ => 0))), (q7, .inl (gI g, 12, .inl (fun _ => 0))), (q8, .inl (gI g, 12, .inl (fun _ => 0))), (q9, .inl (gI g, 6, .inl (fun _ => 0))), (q10, .inl (gI g, 6, .inl (fun _ => 0))), (q11, .inl (gI g, 10, .inl (fun _ => 0))), (q12, .inl (gI g, 10, .inl (fun _ => 0))), (q13, .inl (gI g, 120, .inl (fun _ => 0))), (q14, .inl (gI g, 120, .inl (fun _ => 0))), (q15, .inl (gI g, 120, .inl (fun _ => 0))), (q16, .inl (gI g, 120, .inl (fun _ => 0))), (q17, .inl (gI g, 120, .inl (fun _ => 0))), (q18, .inl (gI g, 4500, .inl (fun _ => 0))), (q19, .inl (gI g, 4500, .inl (fun _ => 0))), (q20, .inl (gZ g, 10, .inl (fun _ => 0))), (q21, .inl (gI g, 40, .inl (fun _ => 0))), (q22, .inl (gI g, 40, .inl (fun _ => 0))), (q23, .inl (gI g, 40, .inl (fun _ => 0))), (q24, .inl (gI g, 40, .inl (fun _ => 0))), (q25, .inl (gI g, 6, .inl (fun _ => 0))), (q26, .inl (gI g, 6, .inl (fun _ => 0))), (q27, .inl (gI g, 6, .inl (fun _ => 0))), (q28, .inl (gI g, 60, .inl (fun _ => 0))), (q29, .inl (gI g, 60, .inl (fun _ => 0))), (q30, .inl (gI g, 60, .inl (fun _ => 0))), (q31, .inl (gI g, 60, .inl (fun _ => 0))), (q32, .inl (gI g, 60, .inl (fun _ => 0))), (q33, .inl (gI g, 60, .inl (fun _ => 0))), (q34, .inl (gI g, 450, .inl (fun _ => 0))), (q35, .inl (gI g, 40, .inl (fun _ => 0))), (q36, .inl (gI g, 40, .inl (fun _ => 0))), (q37, .inl (gI g, 80, .inl (fun _ => 0))), (q38, .inl (gI g, 40, .inl (fun _ => 0))), (q39, .inl (gI g, 40, .inl (fun _ => 0))), (q40, .inl (gI g, 40, .inl (fun _ => 0))), (q41, .inl (gI g, 40, .inl (fun _ => 0))), (q42, .inl (gI g, 40, .inl (fun _ => 0))), (q43, .inl (gI g, 120, .inl (fun _ => 0))), (q44, .inl (gI g, 40, .inl (fun _ => 0))), (q45, .inl (gI g, 20, .inl (fun _ => 0))), (q46, .inl (gI g, 20, .inl (fun _ => 0))), (q47, .inl (gI g, 20, .inl (fun _ => 0))), (q48, .inl (gI g, 20, .inl (fun _ => 0))), (q49, .inl (gI g, 20, .inl (fun _ => 0))), (q50, .inl (gI g, 1200, .inl (fun _ => 0))), (q51, .inl (gI g, 1200, .inl (fun _ => 0))), (q52, .inl (gI g, 4, .inl (fun _ => 0))), (q53, .inl (gI g, 32, .inl (fun _ => 0))), (q54, .inl (gI g, 32, .inl (fun _ => 0))), (q55, .inl (gI g, 8, .inl (fun _ => 0))), (q56, .inl (gI g, 64, .inl (fun _ => 0))), (q57, .inl (gI g, 8, .inl (fun _ => 0))), (q58, .inl (gI g, 8, .inl (fun _ => 0)))]) rfl ?_
  refine nw_aload_n C dX12_init_486 rfl 0 rfl ?_
  refine nw_bipush (v := 6) C dX12_init_487 (by decide) ?_
  refine nw_newZ (N' := 6) C tw_492 (by decide) (by decide) (Nat.le_of_ble_eq_true rfl) (Nat.le_of_ble_eq_true rfl) (Nat.le_of_ble_eq_true rfl) dX12_init_489 (fun q59 => nw_ws mk_app ?_)
  refine nw_putF C in_X12 _ (mk_this hk) rfl 88 (by decide) tyX12 tyX12_ok nmX12 tw_1661 rfl rfl hnm rfl rfl rfl (Nat.le_of_ble_eq_true rfl) dX12_init_491 (mk_setT hk) ?_
  refine nw_aload_n C dX12_init_494 rfl 0 rfl ?_
  refine nw_bipush (v := 6) C dX12_init_495 (by decide) ?_
  refine nw_newI (N' := 6) C tw_180 (by decide) (by decide) (Nat.le_of_ble_eq_true rfl) (Nat.le_of_ble_eq_true rfl) (Nat.le_of_ble_eq_true rfl) dX12_init_497 (fun q60 => nw_ws mk_app ?_)
  refine nw_putF C in_X12 _ (mk_this hk) rfl 89 (by decide) tyX12 tyX12_ok nmX12 tw_1662 rfl rfl hnm rfl rfl rfl (Nat.le_of_ble_eq_true rfl) dX12_init_499 (mk_setT hk) ?_
  refine nw_aload_n C dX12_init_502 rfl 0 rfl ?_
  refine nw_bipush (v := 6) C dX12_init_503 (by decide) ?_
  refine nw_newI (N' := 6) C tw_180 (by decide) (by decide) (Nat.le_of_ble_eq_true rfl) (Nat.le_of_ble_eq_true rfl) (Nat.le_of_ble_eq_true rfl) dX12_init_505 (fun q61 => nw_ws mk_app ?_)
  refine nw_putF C in_X12 _ (mk_this hk) rfl 90 (by decide) tyX12 tyX12_ok nmX12 tw_1663 rfl rfl hnm rfl rfl rfl (Nat.le_of_ble_eq_true rfl) dX12_init_507 (mk_setT hk) ?_
  refine nw_aload_n C dX12_init_510 rfl 0 rfl ?_
  refine nw_bipush (v := 6) C dX12_init_511 (by decide) ?_
  refine nw_newI (N' := 6) C tw_180 (by decide) (by decide) (Nat.le_of_ble_eq_true rfl) (Nat.le_of_ble_eq_true rfl) (Nat.le_of_ble_eq_true rfl) dX12_init_513 (fun q62 => nw_ws mk_app ?_)
  refine nw_putF C in_X12 _ (mk_this hk) rfl 91 (by decide) tyX12 tyX12_ok nmX12 tw_1664 rfl rfl hnm rfl rfl rfl (Nat.le_of_ble_eq_true rfl) dX12_init_515 (mk_setT hk) ?_
  refine nw_aload_n C dX12_init_518 rfl 0 rfl ?_
  refine nw_bipush (v := 8) C dX12_init_519 (by decide) ?_
  refine nw_newI (N' := 8) C tw_180 (by decide) (by decide) (Nat.le_of_ble_eq_true rfl) (Nat.le_of_ble_eq_true rfl) (Nat.le_of_ble_eq_true rfl) dX12_init_521 (fun q63 => nw_ws mk_app ?_)
  refine nw_putF C in_X12 _ (mk_this hk) rfl 93 (by decide) tyX12 tyX12_ok nmX12 tw_1666 rfl rfl hnm rfl rfl rfl (Nat.le_of_ble_eq_true rfl) dX12_init_523 (mk_setT hk) ?_
  refine nw_aload_n C dX12_init_526 rfl 0 rfl ?_
  refine nw_bipush (v := 8) C dX12_init_527 (by decide) ?_
  refine nw_newI (N' := 8) C tw_180 (by decide) (by decide) (Nat.le_of_ble_eq_true rfl) (Nat.le_of_ble_eq_true rfl) (Nat.le_of_ble_eq_true rfl) dX12_init_529 (fun q64 => nw_ws mk_app ?_)
  refine nw_putF C in_X12 _ (mk_this hk) rfl 94 (by decide) tyX12 tyX12_ok nmX12 tw_1667 rfl rfl hnm rfl rfl rfl (Nat.le_of_ble_eq_true rfl) dX12_init_531 (mk_setT hk) ?_
  refine nw_ws (ws' := mkW ws k (b, .inr (12, [.int 0, .int 0, .int 0, .ref q0, .ref q1, .ref q2, .ref q3, .int 0, .ref q4, .int 0, .int 0, .int 0, .ref q5, .ref q6, .ref q7, .ref q8, .ref q9, .ref q10, .int 0, .int 0, .int 0, .int 0, .int 0, .int 0, .int 0, .int (-1), .int 0, .int 0, .ref q11, .ref q12, .ref q13, .ref q14, .ref q15, .ref q16, .ref q17, .ref q18, .ref q19, .ref q20, .int 0, .int 0, .ref q21, .ref q22, .ref q23, .ref q24, .int 0, .ref q25, .ref q26, .ref q27, .int 0, .ref q28, .ref q29, .ref q30, .ref q31, .ref q32, .ref q33, .ref q34, .int 0, .int 0, .int 0, .int 0, .int 0, .ref q35, .ref q36, .ref q37, .ref q38, .ref q39, .ref q40, .ref q41, .ref q42, .ref q43, .ref q44, .int 0, .ref q45, .ref q46, .ref q47, .ref q48, .ref q49, .ref q50, .ref q51, .ref q52, .ref q53, .ref q54, .ref q55, .ref q56, .ref q57, .ref q58, .int 0, .int 0, .ref q59, .ref q60, .ref q61, .ref q62, .int 0, .ref q63, .ref q64, .null, .null, .null, .null, .null, .null, .int 0, .int 0, .int 0, .null, .null, .null, .null, .null, .null, .null, .null])) [(q0, .inl (gI g, 40, .inl (fun _ => 0))), (q1, .inl (gI g, 40, .inl (fun _ => 0))), (q2, .inl (gI g, 40, .inl (fun _ => 0))), (q3, .inl (gB g, 400, .inl (fun _ => 0))), (q4, .inl (gI g, 10, .inl (fun _ => 0))), (q5, .inl (gI g, 120, .inl (fun _ => 0))), (q6, .inl (gI g, 12, .inl (fun _ => 0))), (q7, .inl (gI g, 12, .inl (fun _ => 0))), (q8, .inl (gI g, 12, .inl (fun _ => 0))), (q9, .inl (gI g, 6, .inl (fun _ => 0))), (q10, .inl (gI g, 6, .inl (fun _ => 0))), (q11, .inl (gI g, 10, .inl (fun _ => 0))), (q12, .inl (gI g, 10, .inl (fun _ => 0))), (q13, .inl (gI g, 120, .inl (fun _ => 0))), (q14, .inl (gI g, 120, .inl (fun _ => 0))), (q15, .inl (gI g, 120, .inl (fun _ => 0))), (q16, .inl (gI g, 120, .inl (fun _ => 0))), (q17, .inl (gI g, 120, .inl (fun _ => 0))), (q18, .inl (gI g, 4500, .inl (fun _ => 0))), (q19, .inl (gI g, 4500, .inl (fun _ => 0))), (q20, .inl (gZ g, 10, .inl (fun _ => 0))), (q21, .inl (gI g, 40, .inl (fun _ => 0))), (q22, .inl (gI g, 40, .inl (fun _ => 0))), (q23, .inl (gI g, 40, .inl (fun _ => 0))), (q24, .inl (gI g, 40, .inl (fun _ => 0))), (q25, .inl (gI g, 6, .inl (fun _ => 0))), (q26, .inl (gI g, 6, .inl (fun _ => 0))), (q27, .inl (gI g, 6, .inl (fun _ => 0))), (q28, .inl (gI g, 60, .inl (fun _ => 0))), (q29, .inl (gI g, 60, .inl (fun _ => 0))), (q30, .inl (gI g, 60, .inl (fun _ => 0))), (q31, .inl (gI g, 60, .inl (fun _ => 0))), (q32, .inl (gI g, 60, .inl (fun _ => 0))), (q33, .inl (gI g, 60, .inl (fun _ => 0))), (q34, .inl (gI g, 450, .inl (fun _ => 0))), (q35, .inl (gI g, 40, .inl (fun _ => 0))), (q36, .inl (gI g, 40, .inl (fun _ => 0))), (q37, .inl (gI g, 80, .inl (fun _ => 0))), (q38, .inl (gI g, 40, .inl (fun _ => 0))), (q39, .inl (gI g, 40, .inl (fun _ => 0))), (q40, .inl (gI g, 40, .inl (fun _ => 0))), (q41, .inl (gI g, 40, .inl (fun _ => 0))), (q42, .inl (gI g, 40, .inl (fun _ => 0))), (q43, .inl (gI g, 120, .inl (fun _ => 0))), (q44, .inl (gI g, 40, .inl (fun _ => 0))), (q45, .inl (gI g, 20, .inl (fun _ => 0))), (q46, .inl (gI g, 20, .inl (fun _ => 0))), (q47, .inl (gI g, 20, .inl (fun _ => 0))), (q48, .inl (gI g, 20, .inl (fun _ => 0))), (q49, .inl (gI g, 20, .inl (fun _ => 0))), (q50, .inl (gI g, 1200, .inl (fun _ => 0))), (q51, .inl (gI g, 1200, .inl (fun _ => 0))), (q52, .inl (gI g, 4, .inl (fun _ => 0))), (q53, .inl (gI g, 32, .inl (fun _ => 0))), (q54, .inl (gI g, 32, .inl (fun _ => 0))), (q55, .inl (gI g, 8, .inl (fun _ => 0))), (q56, .inl (gI g, 64, .inl (fun _ => 0))), (q57, .inl (gI g, 8, .inl (fun _ => 0))), (q58, .inl (gI g, 8, .inl (fun _ => 0))), (q59, .inl (gZ g, 6, .inl (fun _ => 0))), (q60, .inl (gI g, 6, .inl (fun _ => 0))), (q61, .inl (gI g, 6, .inl (fun _ => 0))), (q62, .inl (gI g, 6, .inl (fun _ => 0))), (q63, .inl (gI g, 8, .inl (fun _ => 0))), (q64, .inl (gI g, 8, .inl (fun _ => 0)))]) rfl ?_
  refine nw_aload_n C dX12_init_534 rfl 0 rfl ?_
  refine nw_bipush (v := 8) C dX12_init_535 (by decide) ?_
  refine nw_newI (N' := 8) C tw_180 (by decide) (by decide) (Nat.le_of_ble_eq_true rfl) (Nat.le_of_ble_eq_true rfl) (Nat.le_of_ble_eq_true rfl) dX12_init_537 (fun q65 => nw_ws mk_app ?_)
  refine nw_putF C in_X12 _ (mk_this hk) rfl 95 (by decide) tyX12 tyX12_ok nmX12 tw_1668 rfl rfl hnm rfl rfl rfl (Nat.le_of_ble_eq_true rfl) dX12_init_539 (mk_setT hk) ?_
  refine nw_aload_n C dX12_init_542 rfl 0 rfl ?_
  refine nw_sipush (v := 2048) C dX12_init_543 (by decide) ?_
  refine nw_newI (N' := 2048) C tw_180 (by decide) (by decide) (Nat.le_of_ble_eq_true rfl) (Nat.le_of_ble_eq_true rfl) (Nat.le_of_ble_eq_true rfl) dX12_init_546 (fun q66 => nw_ws mk_app ?_)
  refine nw_putF C in_X12 _ (mk_this hk) rfl 96 (by decide) tyX12 tyX12_ok nmX12 tw_1669 rfl rfl hnm rfl rfl rfl (Nat.le_of_ble_eq_true rfl) dX12_init_548 (mk_setT hk) ?_
  refine nw_aload_n C dX12_init_551 rfl 0 rfl ?_
  refine nw_sipush (v := 512) C dX12_init_552 (by decide) ?_
  refine nw_newZ (N' := 512) C tw_492 (by decide) (by decide) (Nat.le_of_ble_eq_true rfl) (Nat.le_of_ble_eq_true rfl) (Nat.le_of_ble_eq_true rfl) dX12_init_555 (fun q67 => nw_ws mk_app ?_)
  refine nw_putF C in_X12 _ (mk_this hk) rfl 97 (by decide) tyX12 tyX12_ok nmX12 tw_1670 rfl rfl hnm rfl rfl rfl (Nat.le_of_ble_eq_true rfl) dX12_init_557 (mk_setT hk) ?_
  refine nw_aload_n C dX12_init_560 rfl 0 rfl ?_
  refine nw_iconst (v := 2) C dX12_init_561 (by decide) ?_
  refine nw_newI (N' := 2) C tw_180 (by decide) (by decide) (Nat.le_of_ble_eq_true rfl) (Nat.le_of_ble_eq_true rfl) (Nat.le_of_ble_eq_true rfl) dX12_init_562 (fun q68 => nw_ws mk_app ?_)
  refine nw_putF C in_X12 _ (mk_this hk) rfl 98 (by decide) tyX12 tyX12_ok nmX12 tw_1671 rfl rfl hnm rfl rfl rfl (Nat.le_of_ble_eq_true rfl) dX12_init_564 (mk_setT hk) ?_
  refine nw_aload_n C dX12_init_567 rfl 0 rfl ?_
  refine nw_bipush (v := 8) C dX12_init_568 (by decide) ?_
  refine nw_newI (N' := 8) C tw_180 (by decide) (by decide) (Nat.le_of_ble_eq_true rfl) (Nat.le_of_ble_eq_true rfl) (Nat.le_of_ble_eq_true rfl) dX12_init_570 (fun q69 => nw_ws mk_app ?_)
  refine nw_putF C in_X12 _ (mk_this hk) rfl 99 (by decide) tyX12 tyX12_ok nmX12 tw_1672 rfl rfl hnm rfl rfl rfl (Nat.le_of_ble_eq_true rfl) dX12_init_572 (mk_setT hk) ?_
  refine nw_aload_n C dX12_init_575 rfl 0 rfl ?_
  refine nw_bipush (v := 8) C dX12_init_576 (by decide) ?_
  refine nw_newI (N' := 8) C tw_180 (by decide) (by decide) (Nat.le_of_ble_eq_true rfl) (Nat.le_of_ble_eq_true rfl) (Nat.le_of_ble_eq_true rfl) dX12_init_578 (fun q70 => nw_ws mk_app ?_)
  refine nw_putF C in_X12 _ (mk_this hk) rfl 100 (by decide) tyX12 tyX12_ok nmX12 tw_1673 rfl rfl hnm rfl rfl rfl (Nat.le_of_ble_eq_true rfl) dX12_init_580 (mk_setT hk) ?_
  refine nw_ws (ws' := mkW ws k (b, .inr (12, [.int 0, .int 0, .int 0, .ref q0, .ref q1, .ref q2, .ref q3, .int 0, .ref q4, .int 0, .int 0, .int 0, .ref q5, .ref q6, .ref q7, .ref q8, .ref q9, .ref q10, .int 0, .int 0, .int 0, .int 0, .int 0, .int 0, .int 0, .int (-1), .int 0, .int 0, .ref q11, .ref q12, .ref q13, .ref q14, .ref q15, .ref q16, .ref q17, .ref q18, .ref q19, .ref q20, .int 0, .int 0, .ref q21, .ref q22, .ref q23, .ref q24, .int 0, .ref q25, .ref q26, .ref q27, .int 0, .ref q28, .ref q29, .ref q30, .ref q31, .ref q32, .ref q33, .ref q34, .int 0, .int 0, .int 0, .int 0, .int 0, .ref q35, .ref q36, .ref q37, .ref q38, .ref q39, .ref q40, .ref q41, .ref q42, .ref q43, .ref q44, .int 0, .ref q45, .ref q46, .ref q47, .ref q48, .ref q49, .ref q50, .ref q51, .ref q52, .ref q53, .ref q54, .ref q55, .ref q56, .ref q57, .ref q58, .int 0, .int 0, .ref q59, .ref q60, .ref q61, .ref q62, .int 0, .ref q63, .ref q64, .ref q65, .ref q66, .ref q67, .ref q68, .ref q69, .ref q70, .int 0, .int 0, .int 0, .null, .null, .null, .null, .null, .null, .null, .null])) [(q0, .inl (gI g, 40, .inl (fun _ => 0))), (q1, .inl (gI g, 40, .inl (fun _ => 0))), (q2, .inl (gI g, 40, .inl (fun _ => 0))), (q3, .inl (gB g, 400, .inl (fun _ => 0))), (q4, .inl (gI g, 10, .inl (fun _ => 0))), (q5, .inl (gI g, 120, .inl (fun _ => 0))), (q6, .inl (gI g, 12, .inl (fun _ => 0))), (q7, .inl (gI g, 12, .inl (fun _ => 0))), (q8, .inl (gI g, 12, .inl (fun _ => 0))), (q9, .inl (gI g, 6, .inl (fun _ => 0))), (q10, .inl (gI g, 6, .inl (fun _ => 0))), (q11, .inl (gI g, 10, .inl (fun _ => 0))), (q12, .inl (gI g, 10, .inl (fun _ => 0))), (q13, .inl (gI g, 120, .inl (fun _ => 0))), (q14, .inl (gI g, 120, .inl (fun _ => 0))), (q15, .inl (gI g, 120, .inl (fun _ => 0))), (q16, .inl (gI g, 120, .inl (fun _ => 0))), (q17, .inl (gI g, 120, .inl (fun _ => 0))), (q18, .inl (gI g, 4500, .inl (fun _ => 0))), (q19, .inl (gI g, 4500, .inl (fun _ => 0))), (q20, .inl (gZ g, 10, .inl (fun _ => 0))), (q21, .inl (gI g, 40, .inl (fun _ => 0))), (q22, .inl (gI g, 40, .inl (fun _ => 0))), (q23, .inl (gI g, 40, .inl (fun _ => 0))), (q24, .inl (gI g, 40, .inl (fun _ => 0))), (q25, .inl (gI g, 6, .inl (fun _ => 0))), (q26, .inl (gI g, 6, .inl (fun _ => 0))), (q27, .inl (gI g, 6, .inl (fun _ => 0))), (q28, .inl (gI g, 60, .inl (fun _ => 0))), (q29, .inl (gI g, 60, .inl (fun _ => 0))), (q30, .inl (gI g, 60, .inl (fun _ => 0))), (q31, .inl (gI g, 60, .inl (fun _ => 0))), (q32, .inl (gI g, 60, .inl (fun _ => 0))), (q33, .inl (gI g, 60, .inl (fun _ => 0))), (q34, .inl (gI g, 450, .inl (fun _ => 0))), (q35, .inl (gI g, 40, .inl (fun _ => 0))), (q36, .inl (gI g, 40, .inl (fun _ => 0))), (q37, .inl (gI g, 80, .inl (fun _ => 0))), (q38, .inl (gI g, 40, .inl (fun _ => 0))), (q39, .inl (gI g, 40, .inl (fun _ => 0))), (q40, .inl (gI g, 40, .inl (fun _ => 0))), (q41, .inl (gI g, 40, .inl (fun _ => 0))), (q42, .inl (gI g, 40, .inl (fun _ => 0))), (q43, .inl (gI g, 120, .inl (fun _ => 0))), (q44, .inl (gI g, 40, .inl (fun _ => 0))), (q45, .inl (gI g, 20, .inl (fun _ => 0))), (q46, .inl (gI g, 20, .inl (fun _ => 0))), (q47, .inl (gI g, 20, .inl (fun _ => 0))), (q48, .inl (gI g, 20, .inl (fun _ => 0))), (q49, .inl (gI g, 20, .inl (fun _ => 0))), (q50, .inl (gI g, 1200, .inl (fun _ => 0))), (q51, .inl (gI g, 1200, .inl (fun _ => 0))), (q52, .inl (gI g, 4, .inl (fun _ => 0))), (q53, .inl (gI g, 32, .inl (fun _ => 0))), (q54, .inl (gI g, 32, .inl (fun _ => 0))), (q55, .inl (gI g, 8, .inl (fun _ => 0))), (q56, .inl (gI g, 64, .inl (fun _ => 0))), (q57, .inl (gI g, 8, .inl (fun _ => 0))), (q58, .inl (gI g, 8, .inl (fun _ => 0))), (q59, .inl (gZ g, 6, .inl (fun _ => 0))), (q60, .inl (gI g, 6, .inl (fun _ => 0))), (q61, .inl (gI g, 6, .inl (fun _ => 0))), (q62, .inl (gI g, 6, .inl (fun _ => 0))), (q63, .inl (gI g, 8, .inl (fun _ => 0))), (q64, .inl (gI g, 8, .inl (fun _ => 0))), (q65, .inl (gI g, 8, .inl (fun _ => 0))), (q66, .inl (gI g, 2048, .inl (fun _ => 0))), (q67, .inl (gZ g, 512, .inl (fun _ => 0))), (q68, .inl (gI g, 2, .inl (fun _ => 0))), (q69, .inl (gI g, 8, .inl (fun _ => 0))), (q70, .inl (gI g, 8, .inl (fun _ => 0)))]) rfl ?_
  refine nw_aload_n C dX12_init_583 rfl 0 rfl ?_
  refine nw_bipush (v := 6) C dX12_init_584 (by decide) ?_
  refine nw_newI (N' := 6) C tw_180 (by decide) (by decide) (Nat.le_of_ble_eq_true rfl) (Nat.le_of_ble_eq_true rfl) (Nat.le_of_ble_eq_true rfl) dX12_init_586 (fun q71 => nw_ws mk_app ?_)
  refine nw_putF C in_X12 _ (mk_this hk) rfl 104 (by decide) tyX12 tyX12_ok nmX12 tw_1677 rfl rfl hnm rfl rfl rfl (Nat.le_of_ble_eq_true rfl) dX12_init_588 (mk_setT hk) ?_
  refine nw_aload_n C dX12_init_591 rfl 0 rfl ?_
  refine nw_bipush (v := 6) C dX12_init_592 (by decide) ?_
  refine nw_newI (N' := 6) C tw_180 (by decide) (by decide) (Nat.le_of_ble_eq_true rfl) (Nat.le_of_ble_eq_true rfl) (Nat.le_of_ble_eq_true rfl) dX12_init_594 (fun q72 => nw_ws mk_app ?_)
  refine nw_putF C in_X12 _ (mk_this hk) rfl 105 (by decide) tyX12 tyX12_ok nmX12 tw_1678 rfl rfl hnm rfl rfl rfl (Nat.le_of_ble_eq_true rfl) dX12_init_596 (mk_setT hk) ?_
  refine nw_aload_n C dX12_init_599 rfl 0 rfl ?_
  refine nw_bipush (v := 6) C dX12_init_600 (by decide) ?_
  refine nw_newI (N' := 6) C tw_180 (by decide) (by decide) (Nat.le_of_ble_eq_true rfl) (Nat.le_of_ble_eq_true rfl) (Nat.le_of_ble_eq_true rfl) dX12_init_602 (fun q73 => nw_ws mk_app ?_)
  refine nw_putF C in_X12 _ (mk_this hk) rfl 106 (by decide) tyX12 tyX12_ok nmX12 tw_1679 rfl rfl hnm rfl rfl rfl (Nat.le_of_ble_eq_true rfl) dX12_init_604 (mk_setT hk) ?_
  refine nw_aload_n C dX12_init_607 rfl 0 rfl ?_
  refine nw_bipush (v := 100) C dX12_init_608 (by decide) ?_
  refine nw_newI (N' := 100) C tw_180 (by decide) (by decide) (Nat.le_of_ble_eq_true rfl) (Nat.le_of_ble_eq_true rfl) (Nat.le_of_ble_eq_true rfl) dX12_init_610 (fun q74 => nw_ws mk_app ?_)
  refine nw_putF C in_X12 _ (mk_this hk) rfl 107 (by decide) tyX12 tyX12_ok nmX12 tw_1680 rfl rfl hnm rfl rfl rfl (Nat.le_of_ble_eq_true rfl) dX12_init_612 (mk_setT hk) ?_
  refine nw_aload_n C dX12_init_615 rfl 0 rfl ?_
  refine nw_bipush (v := 100) C dX12_init_616 (by decide) ?_
  refine nw_newI (N' := 100) C tw_180 (by decide) (by decide) (Nat.le_of_ble_eq_true rfl) (Nat.le_of_ble_eq_true rfl) (Nat.le_of_ble_eq_true rfl) dX12_init_618 (fun q75 => nw_ws mk_app ?_)
  refine nw_putF C in_X12 _ (mk_this hk) rfl 108 (by decide) tyX12 tyX12_ok nmX12 tw_1681 rfl rfl hnm rfl rfl rfl (Nat.le_of_ble_eq_true rfl) dX12_init_620 (mk_setT hk) ?_
  refine nw_aload_n C dX12_init_623 rfl 0 rfl ?_
  refine nw_bipush (v := 100) C dX12_init_624 (by decide) ?_
  refine nw_newI (N' := 100) C tw_180 (by decide) (by decide) (Nat.le_of_ble_eq_true rfl) (Nat.le_of_ble_eq_true rfl) (Nat.le_of_ble_eq_true rfl) dX12_init_626 (fun q76 => nw_ws mk_app ?_)
  refine nw_putF C in_X12 _ (mk_this hk) rfl 109 (by decide) tyX12 tyX12_ok nmX12 tw_1682 rfl rfl hnm rfl rfl rfl (Nat.le_of_ble_eq_true rfl) dX12_init_628 (mk_setT hk) ?_
  refine nw_ws (ws' := mkW ws k (b, .inr (12, [.int 0, .int 0, .int 0, .ref q0, .ref q1, .ref q2, .ref q3, .int 0, .ref q4, .int 0, .int 0, .int 0, .ref q5, .ref q6, .ref q7, .ref q8, .ref q9, .ref q10, .int 0, .int 0, .int 0, .int 0, .int 0, .int 0, .int 0, .int (-1), .int 0, .int 0, .ref q11, .ref q12, .ref q13, .ref q14, .ref q15, .ref q16, .ref q17, .ref q18, .ref q19, .ref q20, .int 0, .int 0, .ref q21, .ref q22, .ref q23, .ref q24, .int 0, .ref q25, .ref q26, .ref q27, .int 0, .ref q28, .ref q29, .ref q30, .ref q31, .ref q32, .ref q33, .ref q34, .int 0, .int 0, .int 0, .int 0, .int 0, .ref q35, .ref q36, .ref q37, .ref q38, .ref q39, .ref q40, .ref q41, .ref q42, .ref q43, .ref q44, .int 0, .ref q45, .ref q46, .ref q47, .ref q48, .ref q49, .ref q50, .ref q51, .ref q52, .ref q53, .ref q54, .ref q55, .ref q56, .ref q57, .ref q58, .int 0, .int 0, .ref q59, .ref q60, .ref q61, .ref q62, .int 0, .ref q63, .ref q64, .ref q65, .ref q66, .ref q67, .ref q68, .ref q69, .ref q70, .int 0, .int 0, .int 0, .ref q71, .ref q72, .ref q73, .ref q74, .ref q75, .ref q76, .null, .null])) [(q0, .inl (gI g, 40, .inl (fun _ => 0))), (q1, .inl (gI g, 40, .inl (fun _ => 0))), (q2, .inl (gI g, 40, .inl (fun _ => 0))), (q3, .inl (gB g, 400, .inl (fun _ => 0))), (q4, .inl (gI g, 10, .inl (fun _ => 0))), (q5, .inl (gI g, 120, .inl (fun _ => 0))), (q6, .inl (gI g, 12, .inl (fun _ => 0))), (q7, .inl (gI g, 12, .inl (fun _ => 0))), (q8, .inl (gI g, 12, .inl (fun _ => 0))), (q9, .inl (gI g, 6, .inl (fun _ => 0))), (q10, .inl (gI g, 6, .inl (fun _ => 0))), (q11, .inl (gI g, 10, .inl (fun _ => 0))), (q12, .inl (gI g, 10, .inl (fun _ => 0))), (q13, .inl (gI g, 120, .inl (fun _ => 0))), (q14, .inl (gI g, 120, .inl (fun _ => 0))), (q15, .inl (gI g, 120, .inl (fun _ => 0))), (q16, .inl (gI g, 120, .inl (fun _ => 0))), (q17, .inl (gI g, 120, .inl (fun _ => 0))), (q18, .inl (gI g, 4500, .inl (fun _ => 0))), (q19, .inl (gI g, 4500, .inl (fun _ => 0))), (q20, .inl (gZ g, 10, .inl (fun _ => 0))), (q21, .inl (gI g, 40, .inl (fun _ => 0))), (q22, .inl (gI g, 40, .inl (fun _ => 0))), (q23, .inl (gI g, 40, .inl (fun _ => 0))), (q24, .inl (gI g, 40, .inl (fun _ => 0))), (q25, .inl (gI g, 6, .inl (fun _ => 0))), (q26, .inl (gI g, 6, .inl (fun _ => 0))), (q27, .inl (gI g, 6, .inl (fun _ => 0))), (q28, .inl (gI g, 60, .inl (fun _ => 0))), (q29, .inl (gI g, 60, .inl (fun _ => 0))), (q30, .inl (gI g, 60, .inl (fun _ => 0))), (q31, .inl (gI g, 60, .inl (fun _ => 0))), (q32, .inl (gI g, 60, .inl (fun _ => 0))), (q33, .inl (gI g, 60, .inl (fun _ => 0))), (q34, .inl (gI g, 450, .inl (fun _ => 0))), (q35, .inl (gI g, 40, .inl (fun _ => 0))), (q36, .inl (gI g, 40, .inl (fun _ => 0))), (q37, .inl (gI g, 80, .inl (fun _ => 0))), (q38, .inl (gI g, 40, .inl (fun _ => 0))), (q39, .inl (gI g, 40, .inl (fun _ => 0))), (q40, .inl (gI g, 40, .inl (fun _ => 0))), (q41, .inl (gI g, 40, .inl (fun _ => 0))), (q42, .inl (gI g, 40, .inl (fun _ => 0))), (q43, .inl (gI g, 120, .inl (fun _ => 0))), (q44, .inl (gI g, 40, .inl (fun _ => 0))), (q45, .inl (gI g, 20, .inl (fun _ => 0))), (q46, .inl (gI g, 20, .inl (fun _ => 0))), (q47, .inl (gI g, 20, .inl (fun _ => 0))), (q48, .inl (gI g, 20, .inl (fun _ => 0))), (q49, .inl (gI g, 20, .inl (fun _ => 0))), (q50, .inl (gI g, 1200, .inl (fun _ => 0))), (q51, .inl (gI g, 1200, .inl (fun _ => 0))), (q52, .inl (gI g, 4, .inl (fun _ => 0))), (q53, .inl (gI g, 32, .inl (fun _ => 0))), (q54, .inl (gI g, 32, .inl (fun _ => 0))), (q55, .inl (gI g, 8, .inl (fun _ => 0))), (q56, .inl (gI g, 64, .inl (fun _ => 0))), (q57, .inl (gI g, 8, .inl (fun _ => 0))), (q58, .inl (gI g, 8, .inl (fun _ => 0))), (q59, .inl (gZ g, 6, .inl (fun _ => 0))), (q60, .inl (gI g, 6, .inl (fun _ => 0))), (q61, .inl (gI g, 6, .inl (fun _ => 0))), (q62, .inl (gI g, 6, .inl (fun _ => 0))), (q63, .inl (gI g, 8, .inl (fun _ => 0))), (q64, .inl (gI g, 8, .inl (fun _ => 0))), (q65, .inl (gI g, 8, .inl (fun _ => 0))), (q66, .inl (gI g, 2048, .inl (fun _ => 0))), (q67, .inl (gZ g, 512, .inl (fun _ => 0))), (q68, .inl (gI g, 2, .inl (fun _ => 0))), (q69, .inl (gI g, 8, .inl (fun _ => 0))), (q70, .inl (gI g, 8, .inl (fun _ => 0))), (q71, .inl (gI g, 6, .inl (fun _ => 0))), (q72, .inl (gI g, 6, .inl (fun _ => 0))), (q73, .inl (gI g, 6, .inl (fun _ => 0))), (q74, .inl (gI g, 100, .inl (fun _ => 0))), (q75, .inl (gI g, 100, .inl (fun _ => 0))), (q76, .inl (gI g, 100, .inl (fun _ => 0)))]) rfl ?_
  refine nw_aload_n C dX12_init_631 rfl 0 rfl ?_
  refine nw_bipush (v := 100) C dX12_init_632 (by decide) ?_
  refine nw_newI (N' := 100) C tw_180 (by decide) (by decide) (Nat.le_of_ble_eq_true rfl) (Nat.le_of_ble_eq_true rfl) (Nat.le_of_ble_eq_true rfl) dX12_init_634 (fun q77 => nw_ws mk_app ?_)
  refine nw_putF C in_X12 _ (mk_this hk) rfl 110 (by decide) tyX12 tyX12_ok nmX12 tw_1683 rfl rfl hnm rfl rfl rfl (Nat.le_of_ble_eq_true rfl) dX12_init_636 (mk_setT hk) ?_
  refine nw_aload_n C dX12_init_639 rfl 0 rfl ?_
  refine nw_bipush (v := 100) C dX12_init_640 (by decide) ?_
  refine nw_newI (N' := 100) C tw_180 (by decide) (by decide) (Nat.le_of_ble_eq_true rfl) (Nat.le_of_ble_eq_true rfl) (Nat.le_of_ble_eq_true rfl) dX12_init_642 (fun q78 => nw_ws mk_app ?_)
  refine nw_putF C in_X12 _ (mk_this hk) rfl 111 (by decide) tyX12 tyX12_ok nmX12 tw_1684 rfl rfl hnm rfl rfl rfl (Nat.le_of_ble_eq_true rfl) dX12_init_644 (mk_setT hk) ?_
  exact nw_vret C hr dX12_init_647 (Nat.le_of_ble_eq_true rfl) (Nat.le_of_ble_eq_true rfl) ⟨rfl, q0, q1, q2, q3, q4, q5, q6, q7, q8, q9, q10, q11, q12, q13, q14, q15, q16, q17, q18, q19, q20, q21, q22, q23, q24, q25, q26, q27, q28, q29, q30, q31, q32, q33, q34, q35, q36, q37, q38, q39, q40, q41, q42, q43, q44, q45, q46, q47, q48, q49, q50, q51, q52, q53, q54, q55, q56, q57, q58, q59, q60, q61, q62, q63, q64, q65, q66, q67, q68, q69, q70, q71, q72, q73, q74, q75, q76, q77, q78, rfl⟩
end
