/-! the law's own instructions -/
theorem dL_law_0 : decode cL_law 0 = .ok (.new 32, 3) := by decide +kernel
theorem dL_law_3 : decode cL_law 3 = .ok (.dup, 1) := by decide +kernel
theorem dL_law_4 : decode cL_law 4 = .ok (.invokespecial 116, 3) := by decide +kernel
theorem dL_law_7 : decode cL_law 7 = .ok (.astore_n 1, 1) := by decide +kernel
theorem dL_law_8 : decode cL_law 8 = .ok (.aload_n 1, 1) := by decide +kernel
theorem dL_law_9 : decode cL_law 9 = .ok (.aload_n 0, 1) := by decide +kernel
theorem dL_law_10 : decode cL_law 10 = .ok (.invokestatic 117, 3) := by decide +kernel
theorem dL_law_13 : decode cL_law 13 = .ok (.astore_n 2, 1) := by decide +kernel
theorem dL_law_14 : decode cL_law 14 = .ok (.aload_n 2, 1) := by decide +kernel
theorem dL_law_15 : decode cL_law 15 = .ok (.ifnonnull 5, 3) := by decide +kernel
theorem dL_law_18 : decode cL_law 18 = .ok (.iconst 0, 1) := by decide +kernel
theorem dL_law_19 : decode cL_law 19 = .ok (.ireturn, 1) := by decide +kernel
theorem dL_law_20 : decode cL_law 20 = .ok (.iconst 0, 1) := by decide +kernel
theorem dL_law_21 : decode cL_law 21 = .ok (.istore_n 3, 1) := by decide +kernel
theorem dL_law_22 : decode cL_law 22 = .ok (.iload_n 3, 1) := by decide +kernel
theorem dL_law_23 : decode cL_law 23 = .ok (.bipush 44, 2) := by decide +kernel
theorem dL_law_25 : decode cL_law 25 = .ok (.if_icmp .ge 1210, 3) := by decide +kernel
theorem dL_law_28 : decode cL_law 28 = .ok (.aload_n 0, 1) := by decide +kernel
theorem dL_law_29 : decode cL_law 29 = .ok (.iload_n 3, 1) := by decide +kernel
theorem dL_law_30 : decode cL_law 30 = .ok (.bipush 16, 2) := by decide +kernel
theorem dL_law_32 : decode cL_law 32 = .ok (.irem, 1) := by decide +kernel
theorem dL_law_33 : decode cL_law 33 = .ok (.invokestatic 104, 3) := by decide +kernel
theorem dL_law_36 : decode cL_law 36 = .ok (.iload_n 3, 1) := by decide +kernel
theorem dL_law_37 : decode cL_law 37 = .ok (.bipush 16, 2) := by decide +kernel
theorem dL_law_39 : decode cL_law 39 = .ok (.idiv, 1) := by decide +kernel
theorem dL_law_40 : decode cL_law 40 = .ok (.iconst 3, 1) := by decide +kernel
theorem dL_law_41 : decode cL_law 41 = .ok (.imul, 1) := by decide +kernel
theorem dL_law_42 : decode cL_law 42 = .ok (.ishr, 1) := by decide +kernel
theorem dL_law_43 : decode cL_law 43 = .ok (.sipush 199, 3) := by decide +kernel
theorem dL_law_46 : decode cL_law 46 = .ok (.iload_n 3, 1) := by decide +kernel
theorem dL_law_47 : decode cL_law 47 = .ok (.imul, 1) := by decide +kernel
theorem dL_law_48 : decode cL_law 48 = .ok (.iadd, 1) := by decide +kernel
theorem dL_law_49 : decode cL_law 49 = .ok (.istore 4, 2) := by decide +kernel
theorem dL_law_51 : decode cL_law 51 = .ok (.iconst 0, 1) := by decide +kernel
theorem dL_law_52 : decode cL_law 52 = .ok (.istore 5, 2) := by decide +kernel
theorem dL_law_54 : decode cL_law 54 = .ok (.iload 5, 2) := by decide +kernel
theorem dL_law_56 : decode cL_law 56 = .ok (.iconst 2, 1) := by decide +kernel
theorem dL_law_57 : decode cL_law 57 = .ok (.if_icmp .ge 33, 3) := by decide +kernel
theorem dL_law_60 : decode cL_law 60 = .ok (.aload_n 1, 1) := by decide +kernel
theorem dL_law_61 : decode cL_law 61 = .ok (.aload_n 2, 1) := by decide +kernel
theorem dL_law_62 : decode cL_law 62 = .ok (.iload 4, 2) := by decide +kernel
theorem dL_law_64 : decode cL_law 64 = .ok (.iconst 2, 1) := by decide +kernel
theorem dL_law_65 : decode cL_law 65 = .ok (.iload 5, 2) := by decide +kernel
theorem dL_law_67 : decode cL_law 67 = .ok (.imul, 1) := by decide +kernel
theorem dL_law_68 : decode cL_law 68 = .ok (.ishr, 1) := by decide +kernel
theorem dL_law_69 : decode cL_law 69 = .ok (.sipush 137, 3) := by decide +kernel
theorem dL_law_72 : decode cL_law 72 = .ok (.iload 5, 2) := by decide +kernel
theorem dL_law_74 : decode cL_law 74 = .ok (.imul, 1) := by decide +kernel
theorem dL_law_75 : decode cL_law 75 = .ok (.iadd, 1) := by decide +kernel
theorem dL_law_76 : decode cL_law 76 = .ok (.invokestatic 107, 3) := by decide +kernel
theorem dL_law_79 : decode cL_law 79 = .ok (.ifCond .ne 5, 3) := by decide +kernel
theorem dL_law_82 : decode cL_law 82 = .ok (.iconst 0, 1) := by decide +kernel
theorem dL_law_83 : decode cL_law 83 = .ok (.ireturn, 1) := by decide +kernel
theorem dL_law_84 : decode cL_law 84 = .ok (.iinc 5 1, 3) := by decide +kernel
theorem dL_law_87 : decode cL_law 87 = .ok (.goto (-33), 3) := by decide +kernel
theorem dL_law_90 : decode cL_law 90 = .ok (.aload_n 2, 1) := by decide +kernel
theorem dL_law_91 : decode cL_law 91 = .ok (.getfield 9, 3) := by decide +kernel
theorem dL_law_94 : decode cL_law 94 = .ok (.arraylength, 1) := by decide +kernel
theorem dL_law_95 : decode cL_law 95 = .ok (.istore 5, 2) := by decide +kernel
theorem dL_law_97 : decode cL_law 97 = .ok (.aload_n 2, 1) := by decide +kernel
theorem dL_law_98 : decode cL_law 98 = .ok (.getfield 15, 3) := by decide +kernel
theorem dL_law_101 : decode cL_law 101 = .ok (.arraylength, 1) := by decide +kernel
theorem dL_law_102 : decode cL_law 102 = .ok (.istore 6, 2) := by decide +kernel
theorem dL_law_104 : decode cL_law 104 = .ok (.aload_n 2, 1) := by decide +kernel
theorem dL_law_105 : decode cL_law 105 = .ok (.getfield 18, 3) := by decide +kernel
theorem dL_law_108 : decode cL_law 108 = .ok (.arraylength, 1) := by decide +kernel
theorem dL_law_109 : decode cL_law 109 = .ok (.istore 7, 2) := by decide +kernel
theorem dL_law_111 : decode cL_law 111 = .ok (.bipush 10, 2) := by decide +kernel
theorem dL_law_113 : decode cL_law 113 = .ok (.newarray .int, 2) := by decide +kernel
theorem dL_law_115 : decode cL_law 115 = .ok (.astore 8, 2) := by decide +kernel
theorem dL_law_117 : decode cL_law 117 = .ok (.iconst 0, 1) := by decide +kernel
theorem dL_law_118 : decode cL_law 118 = .ok (.istore 9, 2) := by decide +kernel
theorem dL_law_120 : decode cL_law 120 = .ok (.iload 9, 2) := by decide +kernel
theorem dL_law_122 : decode cL_law 122 = .ok (.bipush 10, 2) := by decide +kernel
theorem dL_law_124 : decode cL_law 124 = .ok (.if_icmp .ge 20, 3) := by decide +kernel
theorem dL_law_127 : decode cL_law 127 = .ok (.aload 8, 2) := by decide +kernel
theorem dL_law_129 : decode cL_law 129 = .ok (.iload 9, 2) := by decide +kernel
theorem dL_law_131 : decode cL_law 131 = .ok (.aload_n 1, 1) := by decide +kernel
theorem dL_law_132 : decode cL_law 132 = .ok (.iload 9, 2) := by decide +kernel
theorem dL_law_134 : decode cL_law 134 = .ok (.invokevirtual 121, 3) := by decide +kernel
theorem dL_law_137 : decode cL_law 137 = .ok (.iastore, 1) := by decide +kernel
theorem dL_law_138 : decode cL_law 138 = .ok (.iinc 9 1, 3) := by decide +kernel
theorem dL_law_141 : decode cL_law 141 = .ok (.goto (-21), 3) := by decide +kernel
theorem dL_law_144 : decode cL_law 144 = .ok (.iload 5, 2) := by decide +kernel
theorem dL_law_146 : decode cL_law 146 = .ok (.iconst 4, 1) := by decide +kernel
theorem dL_law_147 : decode cL_law 147 = .ok (.multianewarray 124 2, 4) := by decide +kernel
theorem dL_law_151 : decode cL_law 151 = .ok (.astore 9, 2) := by decide +kernel
theorem dL_law_153 : decode cL_law 153 = .ok (.iconst 0, 1) := by decide +kernel
theorem dL_law_154 : decode cL_law 154 = .ok (.istore 10, 2) := by decide +kernel
theorem dL_law_156 : decode cL_law 156 = .ok (.iload 10, 2) := by decide +kernel
theorem dL_law_158 : decode cL_law 158 = .ok (.iload 5, 2) := by decide +kernel
theorem dL_law_160 : decode cL_law 160 = .ok (.if_icmp .ge 40, 3) := by decide +kernel
theorem dL_law_163 : decode cL_law 163 = .ok (.iconst 0, 1) := by decide +kernel
theorem dL_law_164 : decode cL_law 164 = .ok (.istore 11, 2) := by decide +kernel
theorem dL_law_166 : decode cL_law 166 = .ok (.iload 11, 2) := by decide +kernel
theorem dL_law_168 : decode cL_law 168 = .ok (.iconst 4, 1) := by decide +kernel
theorem dL_law_169 : decode cL_law 169 = .ok (.if_icmp .ge 25, 3) := by decide +kernel
theorem dL_law_172 : decode cL_law 172 = .ok (.aload 9, 2) := by decide +kernel
theorem dL_law_174 : decode cL_law 174 = .ok (.iload 10, 2) := by decide +kernel
theorem dL_law_176 : decode cL_law 176 = .ok (.aaload, 1) := by decide +kernel
theorem dL_law_177 : decode cL_law 177 = .ok (.iload 11, 2) := by decide +kernel
theorem dL_law_179 : decode cL_law 179 = .ok (.aload_n 1, 1) := by decide +kernel
theorem dL_law_180 : decode cL_law 180 = .ok (.iload 10, 2) := by decide +kernel
theorem dL_law_182 : decode cL_law 182 = .ok (.iload 11, 2) := by decide +kernel
theorem dL_law_184 : decode cL_law 184 = .ok (.invokevirtual 125, 3) := by decide +kernel
theorem dL_law_187 : decode cL_law 187 = .ok (.iastore, 1) := by decide +kernel
theorem dL_law_188 : decode cL_law 188 = .ok (.iinc 11 1, 3) := by decide +kernel
theorem dL_law_191 : decode cL_law 191 = .ok (.goto (-25), 3) := by decide +kernel
theorem dL_law_194 : decode cL_law 194 = .ok (.iinc 10 1, 3) := by decide +kernel
theorem dL_law_197 : decode cL_law 197 = .ok (.goto (-41), 3) := by decide +kernel
theorem dL_law_200 : decode cL_law 200 = .ok (.iload 6, 2) := by decide +kernel
theorem dL_law_202 : decode cL_law 202 = .ok (.iconst 2, 1) := by decide +kernel
theorem dL_law_203 : decode cL_law 203 = .ok (.multianewarray 124 2, 4) := by decide +kernel
theorem dL_law_207 : decode cL_law 207 = .ok (.astore 10, 2) := by decide +kernel
theorem dL_law_209 : decode cL_law 209 = .ok (.iconst 0, 1) := by decide +kernel
theorem dL_law_210 : decode cL_law 210 = .ok (.istore 11, 2) := by decide +kernel
theorem dL_law_212 : decode cL_law 212 = .ok (.iload 11, 2) := by decide +kernel
theorem dL_law_214 : decode cL_law 214 = .ok (.iload 6, 2) := by decide +kernel
theorem dL_law_216 : decode cL_law 216 = .ok (.if_icmp .ge 40, 3) := by decide +kernel
theorem dL_law_219 : decode cL_law 219 = .ok (.iconst 0, 1) := by decide +kernel
theorem dL_law_220 : decode cL_law 220 = .ok (.istore 12, 2) := by decide +kernel
theorem dL_law_222 : decode cL_law 222 = .ok (.iload 12, 2) := by decide +kernel
theorem dL_law_224 : decode cL_law 224 = .ok (.iconst 2, 1) := by decide +kernel
theorem dL_law_225 : decode cL_law 225 = .ok (.if_icmp .ge 25, 3) := by decide +kernel
theorem dL_law_228 : decode cL_law 228 = .ok (.aload 10, 2) := by decide +kernel
theorem dL_law_230 : decode cL_law 230 = .ok (.iload 11, 2) := by decide +kernel
theorem dL_law_232 : decode cL_law 232 = .ok (.aaload, 1) := by decide +kernel
theorem dL_law_233 : decode cL_law 233 = .ok (.iload 12, 2) := by decide +kernel
theorem dL_law_235 : decode cL_law 235 = .ok (.aload_n 1, 1) := by decide +kernel
theorem dL_law_236 : decode cL_law 236 = .ok (.iload 11, 2) := by decide +kernel
theorem dL_law_238 : decode cL_law 238 = .ok (.iload 12, 2) := by decide +kernel
theorem dL_law_240 : decode cL_law 240 = .ok (.invokevirtual 128, 3) := by decide +kernel
theorem dL_law_243 : decode cL_law 243 = .ok (.iastore, 1) := by decide +kernel
theorem dL_law_244 : decode cL_law 244 = .ok (.iinc 12 1, 3) := by decide +kernel
theorem dL_law_247 : decode cL_law 247 = .ok (.goto (-25), 3) := by decide +kernel
theorem dL_law_250 : decode cL_law 250 = .ok (.iinc 11 1, 3) := by decide +kernel
theorem dL_law_253 : decode cL_law 253 = .ok (.goto (-41), 3) := by decide +kernel
theorem dL_law_256 : decode cL_law 256 = .ok (.iload 7, 2) := by decide +kernel
theorem dL_law_258 : decode cL_law 258 = .ok (.iconst 5, 1) := by decide +kernel
theorem dL_law_259 : decode cL_law 259 = .ok (.multianewarray 124 2, 4) := by decide +kernel
theorem dL_law_263 : decode cL_law 263 = .ok (.astore 11, 2) := by decide +kernel
theorem dL_law_265 : decode cL_law 265 = .ok (.iload 7, 2) := by decide +kernel
theorem dL_law_267 : decode cL_law 267 = .ok (.newarray .int, 2) := by decide +kernel
theorem dL_law_269 : decode cL_law 269 = .ok (.astore 12, 2) := by decide +kernel
theorem dL_law_271 : decode cL_law 271 = .ok (.iconst 0, 1) := by decide +kernel
theorem dL_law_272 : decode cL_law 272 = .ok (.istore 13, 2) := by decide +kernel
theorem dL_law_274 : decode cL_law 274 = .ok (.iload 13, 2) := by decide +kernel
theorem dL_law_276 : decode cL_law 276 = .ok (.iload 7, 2) := by decide +kernel
theorem dL_law_278 : decode cL_law 278 = .ok (.if_icmp .ge 51, 3) := by decide +kernel
theorem dL_law_281 : decode cL_law 281 = .ok (.iconst 0, 1) := by decide +kernel
theorem dL_law_282 : decode cL_law 282 = .ok (.istore 14, 2) := by decide +kernel
theorem dL_law_284 : decode cL_law 284 = .ok (.iload 14, 2) := by decide +kernel
theorem dL_law_286 : decode cL_law 286 = .ok (.iconst 5, 1) := by decide +kernel
theorem dL_law_287 : decode cL_law 287 = .ok (.if_icmp .ge 25, 3) := by decide +kernel
theorem dL_law_290 : decode cL_law 290 = .ok (.aload 11, 2) := by decide +kernel
theorem dL_law_292 : decode cL_law 292 = .ok (.iload 13, 2) := by decide +kernel
theorem dL_law_294 : decode cL_law 294 = .ok (.aaload, 1) := by decide +kernel
theorem dL_law_295 : decode cL_law 295 = .ok (.iload 14, 2) := by decide +kernel
theorem dL_law_297 : decode cL_law 297 = .ok (.aload_n 1, 1) := by decide +kernel
theorem dL_law_298 : decode cL_law 298 = .ok (.iload 13, 2) := by decide +kernel
theorem dL_law_300 : decode cL_law 300 = .ok (.iload 14, 2) := by decide +kernel
theorem dL_law_302 : decode cL_law 302 = .ok (.invokevirtual 131, 3) := by decide +kernel
theorem dL_law_305 : decode cL_law 305 = .ok (.iastore, 1) := by decide +kernel
theorem dL_law_306 : decode cL_law 306 = .ok (.iinc 14 1, 3) := by decide +kernel
theorem dL_law_309 : decode cL_law 309 = .ok (.goto (-25), 3) := by decide +kernel
theorem dL_law_312 : decode cL_law 312 = .ok (.aload 12, 2) := by decide +kernel
theorem dL_law_314 : decode cL_law 314 = .ok (.iload 13, 2) := by decide +kernel
theorem dL_law_316 : decode cL_law 316 = .ok (.aload_n 1, 1) := by decide +kernel
theorem dL_law_317 : decode cL_law 317 = .ok (.iload 13, 2) := by decide +kernel
theorem dL_law_319 : decode cL_law 319 = .ok (.invokevirtual 134, 3) := by decide +kernel
theorem dL_law_322 : decode cL_law 322 = .ok (.iastore, 1) := by decide +kernel
theorem dL_law_323 : decode cL_law 323 = .ok (.iinc 13 1, 3) := by decide +kernel
theorem dL_law_326 : decode cL_law 326 = .ok (.goto (-52), 3) := by decide +kernel
theorem dL_law_329 : decode cL_law 329 = .ok (.iconst 5, 1) := by decide +kernel
theorem dL_law_330 : decode cL_law 330 = .ok (.newarray .int, 2) := by decide +kernel
theorem dL_law_332 : decode cL_law 332 = .ok (.dup, 1) := by decide +kernel
theorem dL_law_333 : decode cL_law 333 = .ok (.iconst 0, 1) := by decide +kernel
theorem dL_law_334 : decode cL_law 334 = .ok (.iconst 2, 1) := by decide +kernel
theorem dL_law_335 : decode cL_law 335 = .ok (.iastore, 1) := by decide +kernel
theorem dL_law_336 : decode cL_law 336 = .ok (.dup, 1) := by decide +kernel
theorem dL_law_337 : decode cL_law 337 = .ok (.iconst 1, 1) := by decide +kernel
theorem dL_law_338 : decode cL_law 338 = .ok (.iconst 4, 1) := by decide +kernel
theorem dL_law_339 : decode cL_law 339 = .ok (.iastore, 1) := by decide +kernel
theorem dL_law_340 : decode cL_law 340 = .ok (.dup, 1) := by decide +kernel
theorem dL_law_341 : decode cL_law 341 = .ok (.iconst 2, 1) := by decide +kernel
theorem dL_law_342 : decode cL_law 342 = .ok (.iconst 5, 1) := by decide +kernel
theorem dL_law_343 : decode cL_law 343 = .ok (.iastore, 1) := by decide +kernel
theorem dL_law_344 : decode cL_law 344 = .ok (.dup, 1) := by decide +kernel
theorem dL_law_345 : decode cL_law 345 = .ok (.iconst 3, 1) := by decide +kernel
theorem dL_law_346 : decode cL_law 346 = .ok (.bipush 6, 2) := by decide +kernel
theorem dL_law_348 : decode cL_law 348 = .ok (.iastore, 1) := by decide +kernel
theorem dL_law_349 : decode cL_law 349 = .ok (.dup, 1) := by decide +kernel
theorem dL_law_350 : decode cL_law 350 = .ok (.iconst 4, 1) := by decide +kernel
theorem dL_law_351 : decode cL_law 351 = .ok (.bipush 7, 2) := by decide +kernel
theorem dL_law_353 : decode cL_law 353 = .ok (.iastore, 1) := by decide +kernel
theorem dL_law_354 : decode cL_law 354 = .ok (.astore 13, 2) := by decide +kernel
theorem dL_law_356 : decode cL_law 356 = .ok (.iconst 5, 1) := by decide +kernel
theorem dL_law_357 : decode cL_law 357 = .ok (.newarray .int, 2) := by decide +kernel
theorem dL_law_359 : decode cL_law 359 = .ok (.astore 14, 2) := by decide +kernel
theorem dL_law_361 : decode cL_law 361 = .ok (.iconst 0, 1) := by decide +kernel
theorem dL_law_362 : decode cL_law 362 = .ok (.istore 15, 2) := by decide +kernel
theorem dL_law_364 : decode cL_law 364 = .ok (.iload 15, 2) := by decide +kernel
theorem dL_law_366 : decode cL_law 366 = .ok (.iconst 5, 1) := by decide +kernel
theorem dL_law_367 : decode cL_law 367 = .ok (.if_icmp .ge 24, 3) := by decide +kernel
theorem dL_law_370 : decode cL_law 370 = .ok (.aload 14, 2) := by decide +kernel
theorem dL_law_372 : decode cL_law 372 = .ok (.iload 15, 2) := by decide +kernel
theorem dL_law_374 : decode cL_law 374 = .ok (.aload_n 1, 1) := by decide +kernel
theorem dL_law_375 : decode cL_law 375 = .ok (.iconst 1, 1) := by decide +kernel
theorem dL_law_376 : decode cL_law 376 = .ok (.aload 13, 2) := by decide +kernel
theorem dL_law_378 : decode cL_law 378 = .ok (.iload 15, 2) := by decide +kernel
theorem dL_law_380 : decode cL_law 380 = .ok (.iaload, 1) := by decide +kernel
theorem dL_law_381 : decode cL_law 381 = .ok (.invokevirtual 137, 3) := by decide +kernel
theorem dL_law_384 : decode cL_law 384 = .ok (.iastore, 1) := by decide +kernel
theorem dL_law_385 : decode cL_law 385 = .ok (.iinc 15 1, 3) := by decide +kernel
theorem dL_law_388 : decode cL_law 388 = .ok (.goto (-24), 3) := by decide +kernel
theorem dL_law_391 : decode cL_law 391 = .ok (.aload_n 1, 1) := by decide +kernel
theorem dL_law_392 : decode cL_law 392 = .ok (.iconst 1, 1) := by decide +kernel
theorem dL_law_393 : decode cL_law 393 = .ok (.invokevirtual 111, 3) := by decide +kernel
theorem dL_law_396 : decode cL_law 396 = .ok (.istore 15, 2) := by decide +kernel
theorem dL_law_398 : decode cL_law 398 = .ok (.aload_n 2, 1) := by decide +kernel
theorem dL_law_399 : decode cL_law 399 = .ok (.invokevirtual 114, 3) := by decide +kernel
theorem dL_law_402 : decode cL_law 402 = .ok (.pop, 1) := by decide +kernel
theorem dL_law_403 : decode cL_law 403 = .ok (.iconst 0, 1) := by decide +kernel
theorem dL_law_404 : decode cL_law 404 = .ok (.istore 16, 2) := by decide +kernel
theorem dL_law_406 : decode cL_law 406 = .ok (.iload 16, 2) := by decide +kernel
theorem dL_law_408 : decode cL_law 408 = .ok (.iconst 5, 1) := by decide +kernel
theorem dL_law_409 : decode cL_law 409 = .ok (.if_icmp .ge 28, 3) := by decide +kernel
theorem dL_law_412 : decode cL_law 412 = .ok (.aload_n 1, 1) := by decide +kernel
theorem dL_law_413 : decode cL_law 413 = .ok (.aload 13, 2) := by decide +kernel
theorem dL_law_415 : decode cL_law 415 = .ok (.iload 16, 2) := by decide +kernel
theorem dL_law_417 : decode cL_law 417 = .ok (.iaload, 1) := by decide +kernel
theorem dL_law_418 : decode cL_law 418 = .ok (.invokevirtual 121, 3) := by decide +kernel
theorem dL_law_421 : decode cL_law 421 = .ok (.aload 14, 2) := by decide +kernel
theorem dL_law_423 : decode cL_law 423 = .ok (.iload 16, 2) := by decide +kernel
theorem dL_law_425 : decode cL_law 425 = .ok (.iaload, 1) := by decide +kernel
theorem dL_law_426 : decode cL_law 426 = .ok (.if_icmp .eq 5, 3) := by decide +kernel
theorem dL_law_429 : decode cL_law 429 = .ok (.iconst 0, 1) := by decide +kernel
theorem dL_law_430 : decode cL_law 430 = .ok (.ireturn, 1) := by decide +kernel
theorem dL_law_431 : decode cL_law 431 = .ok (.iinc 16 1, 3) := by decide +kernel
theorem dL_law_434 : decode cL_law 434 = .ok (.goto (-28), 3) := by decide +kernel
theorem dL_law_437 : decode cL_law 437 = .ok (.aload 8, 2) := by decide +kernel
theorem dL_law_439 : decode cL_law 439 = .ok (.iconst 4, 1) := by decide +kernel
theorem dL_law_440 : decode cL_law 440 = .ok (.iaload, 1) := by decide +kernel
theorem dL_law_441 : decode cL_law 441 = .ok (.aload_n 1, 1) := by decide +kernel
theorem dL_law_442 : decode cL_law 442 = .ok (.iconst 4, 1) := by decide +kernel
theorem dL_law_443 : decode cL_law 443 = .ok (.invokevirtual 121, 3) := by decide +kernel
theorem dL_law_446 : decode cL_law 446 = .ok (.isub, 1) := by decide +kernel
theorem dL_law_447 : decode cL_law 447 = .ok (.istore 16, 2) := by decide +kernel
theorem dL_law_449 : decode cL_law 449 = .ok (.aload 8, 2) := by decide +kernel
theorem dL_law_451 : decode cL_law 451 = .ok (.iconst 5, 1) := by decide +kernel
theorem dL_law_452 : decode cL_law 452 = .ok (.iaload, 1) := by decide +kernel
theorem dL_law_453 : decode cL_law 453 = .ok (.aload_n 1, 1) := by decide +kernel
theorem dL_law_454 : decode cL_law 454 = .ok (.iconst 5, 1) := by decide +kernel
theorem dL_law_455 : decode cL_law 455 = .ok (.invokevirtual 121, 3) := by decide +kernel
theorem dL_law_458 : decode cL_law 458 = .ok (.isub, 1) := by decide +kernel
theorem dL_law_459 : decode cL_law 459 = .ok (.istore 17, 2) := by decide +kernel
theorem dL_law_461 : decode cL_law 461 = .ok (.aload_n 2, 1) := by decide +kernel
theorem dL_law_462 : decode cL_law 462 = .ok (.getfield 66, 3) := by decide +kernel
theorem dL_law_465 : decode cL_law 465 = .ok (.aload 8, 2) := by decide +kernel
theorem dL_law_467 : decode cL_law 467 = .ok (.iconst 0, 1) := by decide +kernel
theorem dL_law_468 : decode cL_law 468 = .ok (.iaload, 1) := by decide +kernel
theorem dL_law_469 : decode cL_law 469 = .ok (.bipush 7, 2) := by decide +kernel
theorem dL_law_471 : decode cL_law 471 = .ok (.irem, 1) := by decide +kernel
theorem dL_law_472 : decode cL_law 472 = .ok (.iaload, 1) := by decide +kernel
theorem dL_law_473 : decode cL_law 473 = .ok (.istore 18, 2) := by decide +kernel
theorem dL_law_475 : decode cL_law 475 = .ok (.aload_n 1, 1) := by decide +kernel
theorem dL_law_476 : decode cL_law 476 = .ok (.iconst 0, 1) := by decide +kernel
theorem dL_law_477 : decode cL_law 477 = .ok (.invokevirtual 121, 3) := by decide +kernel
theorem dL_law_480 : decode cL_law 480 = .ok (.aload 8, 2) := by decide +kernel
theorem dL_law_482 : decode cL_law 482 = .ok (.iconst 0, 1) := by decide +kernel
theorem dL_law_483 : decode cL_law 483 = .ok (.iaload, 1) := by decide +kernel
theorem dL_law_484 : decode cL_law 484 = .ok (.iconst 1, 1) := by decide +kernel
theorem dL_law_485 : decode cL_law 485 = .ok (.iadd, 1) := by decide +kernel
theorem dL_law_486 : decode cL_law 486 = .ok (.if_icmp .ne 125, 3) := by decide +kernel
theorem dL_law_489 : decode cL_law 489 = .ok (.iload 16, 2) := by decide +kernel
theorem dL_law_491 : decode cL_law 491 = .ok (.ifCond .lt 120, 3) := by decide +kernel
theorem dL_law_494 : decode cL_law 494 = .ok (.iload 17, 2) := by decide +kernel
theorem dL_law_496 : decode cL_law 496 = .ok (.ifCond .lt 115, 3) := by decide +kernel
theorem dL_law_499 : decode cL_law 499 = .ok (.iload 15, 2) := by decide +kernel
theorem dL_law_501 : decode cL_law 501 = .ok (.iconst 5, 1) := by decide +kernel
theorem dL_law_502 : decode cL_law 502 = .ok (.iload 16, 2) := by decide +kernel
theorem dL_law_504 : decode cL_law 504 = .ok (.imul, 1) := by decide +kernel
theorem dL_law_505 : decode cL_law 505 = .ok (.iconst 2, 1) := by decide +kernel
theorem dL_law_506 : decode cL_law 506 = .ok (.iload 17, 2) := by decide +kernel
theorem dL_law_508 : decode cL_law 508 = .ok (.imul, 1) := by decide +kernel
theorem dL_law_509 : decode cL_law 509 = .ok (.iadd, 1) := by decide +kernel
theorem dL_law_510 : decode cL_law 510 = .ok (.if_icmp .ne 101, 3) := by decide +kernel
theorem dL_law_513 : decode cL_law 513 = .ok (.aload_n 1, 1) := by decide +kernel
theorem dL_law_514 : decode cL_law 514 = .ok (.bipush 6, 2) := by decide +kernel
theorem dL_law_516 : decode cL_law 516 = .ok (.invokevirtual 121, 3) := by decide +kernel
theorem dL_law_519 : decode cL_law 519 = .ok (.aload 8, 2) := by decide +kernel
theorem dL_law_521 : decode cL_law 521 = .ok (.bipush 6, 2) := by decide +kernel
theorem dL_law_523 : decode cL_law 523 = .ok (.iaload, 1) := by decide +kernel
theorem dL_law_524 : decode cL_law 524 = .ok (.iload 15, 2) := by decide +kernel
theorem dL_law_526 : decode cL_law 526 = .ok (.iadd, 1) := by decide +kernel
theorem dL_law_527 : decode cL_law 527 = .ok (.if_icmp .ne 84, 3) := by decide +kernel
theorem dL_law_530 : decode cL_law 530 = .ok (.aload_n 1, 1) := by decide +kernel
theorem dL_law_531 : decode cL_law 531 = .ok (.bipush 9, 2) := by decide +kernel
theorem dL_law_533 : decode cL_law 533 = .ok (.invokevirtual 121, 3) := by decide +kernel
theorem dL_law_536 : decode cL_law 536 = .ok (.aload 8, 2) := by decide +kernel
theorem dL_law_538 : decode cL_law 538 = .ok (.bipush 9, 2) := by decide +kernel
theorem dL_law_540 : decode cL_law 540 = .ok (.iaload, 1) := by decide +kernel
theorem dL_law_541 : decode cL_law 541 = .ok (.iload 16, 2) := by decide +kernel
theorem dL_law_543 : decode cL_law 543 = .ok (.iadd, 1) := by decide +kernel
theorem dL_law_544 : decode cL_law 544 = .ok (.iload 17, 2) := by decide +kernel
theorem dL_law_546 : decode cL_law 546 = .ok (.iadd, 1) := by decide +kernel
theorem dL_law_547 : decode cL_law 547 = .ok (.if_icmp .ne 64, 3) := by decide +kernel
theorem dL_law_550 : decode cL_law 550 = .ok (.iload 16, 2) := by decide +kernel
theorem dL_law_552 : decode cL_law 552 = .ok (.iload 17, 2) := by decide +kernel
theorem dL_law_554 : decode cL_law 554 = .ok (.iadd, 1) := by decide +kernel
theorem dL_law_555 : decode cL_law 555 = .ok (.iload 18, 2) := by decide +kernel
theorem dL_law_557 : decode cL_law 557 = .ok (.aload 8, 2) := by decide +kernel
theorem dL_law_559 : decode cL_law 559 = .ok (.iconst 4, 1) := by decide +kernel
theorem dL_law_560 : decode cL_law 560 = .ok (.iaload, 1) := by decide +kernel
theorem dL_law_561 : decode cL_law 561 = .ok (.aload 8, 2) := by decide +kernel
theorem dL_law_563 : decode cL_law 563 = .ok (.iconst 5, 1) := by decide +kernel
theorem dL_law_564 : decode cL_law 564 = .ok (.iaload, 1) := by decide +kernel
theorem dL_law_565 : decode cL_law 565 = .ok (.iadd, 1) := by decide +kernel
theorem dL_law_566 : decode cL_law 566 = .ok (.invokestatic 48, 3) := by decide +kernel
theorem dL_law_569 : decode cL_law 569 = .ok (.if_icmp .ne 42, 3) := by decide +kernel
theorem dL_law_572 : decode cL_law 572 = .ok (.iload 17, 2) := by decide +kernel
theorem dL_law_574 : decode cL_law 574 = .ok (.ifCond .le 11, 3) := by decide +kernel
theorem dL_law_577 : decode cL_law 577 = .ok (.aload_n 1, 1) := by decide +kernel
theorem dL_law_578 : decode cL_law 578 = .ok (.iconst 4, 1) := by decide +kernel
theorem dL_law_579 : decode cL_law 579 = .ok (.invokevirtual 121, 3) := by decide +kernel
theorem dL_law_582 : decode cL_law 582 = .ok (.ifCond .ne 29, 3) := by decide +kernel
theorem dL_law_585 : decode cL_law 585 = .ok (.aload_n 1, 1) := by decide +kernel
theorem dL_law_586 : decode cL_law 586 = .ok (.iconst 3, 1) := by decide +kernel
theorem dL_law_587 : decode cL_law 587 = .ok (.invokevirtual 121, 3) := by decide +kernel
theorem dL_law_590 : decode cL_law 590 = .ok (.aload 8, 2) := by decide +kernel
theorem dL_law_592 : decode cL_law 592 = .ok (.iconst 3, 1) := by decide +kernel
theorem dL_law_593 : decode cL_law 593 = .ok (.iaload, 1) := by decide +kernel
theorem dL_law_594 : decode cL_law 594 = .ok (.if_icmp .ne 17, 3) := by decide +kernel
theorem dL_law_597 : decode cL_law 597 = .ok (.aload_n 1, 1) := by decide +kernel
theorem dL_law_598 : decode cL_law 598 = .ok (.bipush 8, 2) := by decide +kernel
theorem dL_law_600 : decode cL_law 600 = .ok (.invokevirtual 121, 3) := by decide +kernel
theorem dL_law_603 : decode cL_law 603 = .ok (.aload 8, 2) := by decide +kernel
theorem dL_law_605 : decode cL_law 605 = .ok (.bipush 8, 2) := by decide +kernel
theorem dL_law_607 : decode cL_law 607 = .ok (.iaload, 1) := by decide +kernel
theorem dL_law_608 : decode cL_law 608 = .ok (.if_icmp .eq 5, 3) := by decide +kernel
theorem dL_law_611 : decode cL_law 611 = .ok (.iconst 0, 1) := by decide +kernel
theorem dL_law_612 : decode cL_law 612 = .ok (.ireturn, 1) := by decide +kernel
theorem dL_law_613 : decode cL_law 613 = .ok (.iconst 0, 1) := by decide +kernel
theorem dL_law_614 : decode cL_law 614 = .ok (.istore 19, 2) := by decide +kernel
theorem dL_law_616 : decode cL_law 616 = .ok (.iconst 0, 1) := by decide +kernel
theorem dL_law_617 : decode cL_law 617 = .ok (.istore 20, 2) := by decide +kernel
theorem dL_law_619 : decode cL_law 619 = .ok (.iload 20, 2) := by decide +kernel
theorem dL_law_621 : decode cL_law 621 = .ok (.iload 5, 2) := by decide +kernel
theorem dL_law_623 : decode cL_law 623 = .ok (.if_icmp .ge 204, 3) := by decide +kernel
theorem dL_law_626 : decode cL_law 626 = .ok (.aload 9, 2) := by decide +kernel
theorem dL_law_628 : decode cL_law 628 = .ok (.iload 20, 2) := by decide +kernel
theorem dL_law_630 : decode cL_law 630 = .ok (.aaload, 1) := by decide +kernel
theorem dL_law_631 : decode cL_law 631 = .ok (.iconst 0, 1) := by decide +kernel
theorem dL_law_632 : decode cL_law 632 = .ok (.iaload, 1) := by decide +kernel
theorem dL_law_633 : decode cL_law 633 = .ok (.aload_n 1, 1) := by decide +kernel
theorem dL_law_634 : decode cL_law 634 = .ok (.iload 20, 2) := by decide +kernel
theorem dL_law_636 : decode cL_law 636 = .ok (.iconst 0, 1) := by decide +kernel
theorem dL_law_637 : decode cL_law 637 = .ok (.invokevirtual 125, 3) := by decide +kernel
theorem dL_law_640 : decode cL_law 640 = .ok (.isub, 1) := by decide +kernel
theorem dL_law_641 : decode cL_law 641 = .ok (.istore 21, 2) := by decide +kernel
theorem dL_law_643 : decode cL_law 643 = .ok (.iload 19, 2) := by decide +kernel
theorem dL_law_645 : decode cL_law 645 = .ok (.aload_n 1, 1) := by decide +kernel
theorem dL_law_646 : decode cL_law 646 = .ok (.iload 20, 2) := by decide +kernel
theorem dL_law_648 : decode cL_law 648 = .ok (.iconst 3, 1) := by decide +kernel
theorem dL_law_649 : decode cL_law 649 = .ok (.invokevirtual 125, 3) := by decide +kernel
theorem dL_law_652 : decode cL_law 652 = .ok (.iadd, 1) := by decide +kernel
theorem dL_law_653 : decode cL_law 653 = .ok (.istore 19, 2) := by decide +kernel
theorem dL_law_655 : decode cL_law 655 = .ok (.aload 9, 2) := by decide +kernel
theorem dL_law_657 : decode cL_law 657 = .ok (.iload 20, 2) := by decide +kernel
theorem dL_law_659 : decode cL_law 659 = .ok (.aaload, 1) := by decide +kernel
theorem dL_law_660 : decode cL_law 660 = .ok (.iconst 3, 1) := by decide +kernel
theorem dL_law_661 : decode cL_law 661 = .ok (.iaload, 1) := by decide +kernel
theorem dL_law_662 : decode cL_law 662 = .ok (.ifCond .ne 37, 3) := by decide +kernel
theorem dL_law_665 : decode cL_law 665 = .ok (.iload 21, 2) := by decide +kernel
theorem dL_law_667 : decode cL_law 667 = .ok (.ifCond .ne 30, 3) := by decide +kernel
theorem dL_law_670 : decode cL_law 670 = .ok (.aload_n 1, 1) := by decide +kernel
theorem dL_law_671 : decode cL_law 671 = .ok (.iload 20, 2) := by decide +kernel
theorem dL_law_673 : decode cL_law 673 = .ok (.iconst 1, 1) := by decide +kernel
theorem dL_law_674 : decode cL_law 674 = .ok (.invokevirtual 125, 3) := by decide +kernel
theorem dL_law_677 : decode cL_law 677 = .ok (.aload 9, 2) := by decide +kernel
theorem dL_law_679 : decode cL_law 679 = .ok (.iload 20, 2) := by decide +kernel
theorem dL_law_681 : decode cL_law 681 = .ok (.aaload, 1) := by decide +kernel
theorem dL_law_682 : decode cL_law 682 = .ok (.iconst 1, 1) := by decide +kernel
theorem dL_law_683 : decode cL_law 683 = .ok (.iaload, 1) := by decide +kernel
theorem dL_law_684 : decode cL_law 684 = .ok (.if_icmp .ne 13, 3) := by decide +kernel
theorem dL_law_687 : decode cL_law 687 = .ok (.aload_n 1, 1) := by decide +kernel
theorem dL_law_688 : decode cL_law 688 = .ok (.iload 20, 2) := by decide +kernel
theorem dL_law_690 : decode cL_law 690 = .ok (.iconst 3, 1) := by decide +kernel
theorem dL_law_691 : decode cL_law 691 = .ok (.invokevirtual 125, 3) := by decide +kernel
theorem dL_law_694 : decode cL_law 694 = .ok (.ifCond .eq 5, 3) := by decide +kernel
theorem dL_law_697 : decode cL_law 697 = .ok (.iconst 0, 1) := by decide +kernel
theorem dL_law_698 : decode cL_law 698 = .ok (.ireturn, 1) := by decide +kernel
theorem dL_law_699 : decode cL_law 699 = .ok (.aload 9, 2) := by decide +kernel
theorem dL_law_701 : decode cL_law 701 = .ok (.iload 20, 2) := by decide +kernel
theorem dL_law_703 : decode cL_law 703 = .ok (.aaload, 1) := by decide +kernel
theorem dL_law_704 : decode cL_law 704 = .ok (.iconst 3, 1) := by decide +kernel
theorem dL_law_705 : decode cL_law 705 = .ok (.iaload, 1) := by decide +kernel
theorem dL_law_706 : decode cL_law 706 = .ok (.iconst 1, 1) := by decide +kernel
theorem dL_law_707 : decode cL_law 707 = .ok (.if_icmp .ne 92, 3) := by decide +kernel
theorem dL_law_710 : decode cL_law 710 = .ok (.iload 21, 2) := by decide +kernel
theorem dL_law_712 : decode cL_law 712 = .ok (.aload 9, 2) := by decide +kernel
theorem dL_law_714 : decode cL_law 714 = .ok (.iload 20, 2) := by decide +kernel
theorem dL_law_716 : decode cL_law 716 = .ok (.aaload, 1) := by decide +kernel
theorem dL_law_717 : decode cL_law 717 = .ok (.iconst 0, 1) := by decide +kernel
theorem dL_law_718 : decode cL_law 718 = .ok (.iaload, 1) := by decide +kernel
theorem dL_law_719 : decode cL_law 719 = .ok (.aload 8, 2) := by decide +kernel
theorem dL_law_721 : decode cL_law 721 = .ok (.iconst 1, 1) := by decide +kernel
theorem dL_law_722 : decode cL_law 722 = .ok (.iaload, 1) := by decide +kernel
theorem dL_law_723 : decode cL_law 723 = .ok (.iconst 5, 1) := by decide +kernel
theorem dL_law_724 : decode cL_law 724 = .ok (.if_icmp .ge 8, 3) := by decide +kernel
theorem dL_law_727 : decode cL_law 727 = .ok (.bipush 8, 2) := by decide +kernel
theorem dL_law_729 : decode cL_law 729 = .ok (.goto 4, 3) := by decide +kernel
theorem dL_law_732 : decode cL_law 732 = .ok (.iconst 4, 1) := by decide +kernel
theorem dL_law_733 : decode cL_law 733 = .ok (.invokestatic 48, 3) := by decide +kernel
theorem dL_law_736 : decode cL_law 736 = .ok (.if_icmp .ne 61, 3) := by decide +kernel
theorem dL_law_739 : decode cL_law 739 = .ok (.aload_n 1, 1) := by decide +kernel
theorem dL_law_740 : decode cL_law 740 = .ok (.iload 20, 2) := by decide +kernel
theorem dL_law_742 : decode cL_law 742 = .ok (.iconst 1, 1) := by decide +kernel
theorem dL_law_743 : decode cL_law 743 = .ok (.invokevirtual 125, 3) := by decide +kernel
theorem dL_law_746 : decode cL_law 746 = .ok (.iconst 0, 1) := by decide +kernel
theorem dL_law_747 : decode cL_law 747 = .ok (.aload 9, 2) := by decide +kernel
theorem dL_law_749 : decode cL_law 749 = .ok (.iload 20, 2) := by decide +kernel
theorem dL_law_751 : decode cL_law 751 = .ok (.aaload, 1) := by decide +kernel
theorem dL_law_752 : decode cL_law 752 = .ok (.iconst 1, 1) := by decide +kernel
theorem dL_law_753 : decode cL_law 753 = .ok (.iaload, 1) := by decide +kernel
theorem dL_law_754 : decode cL_law 754 = .ok (.iconst 2, 1) := by decide +kernel
theorem dL_law_755 : decode cL_law 755 = .ok (.isub, 1) := by decide +kernel
theorem dL_law_756 : decode cL_law 756 = .ok (.invokestatic 140, 3) := by decide +kernel
theorem dL_law_759 : decode cL_law 759 = .ok (.if_icmp .ne 38, 3) := by decide +kernel
theorem dL_law_762 : decode cL_law 762 = .ok (.aload_n 1, 1) := by decide +kernel
theorem dL_law_763 : decode cL_law 763 = .ok (.iload 20, 2) := by decide +kernel
theorem dL_law_765 : decode cL_law 765 = .ok (.iconst 3, 1) := by decide +kernel
theorem dL_law_766 : decode cL_law 766 = .ok (.invokevirtual 125, 3) := by decide +kernel
theorem dL_law_769 : decode cL_law 769 = .ok (.aload_n 1, 1) := by decide +kernel
theorem dL_law_770 : decode cL_law 770 = .ok (.iload 20, 2) := by decide +kernel
theorem dL_law_772 : decode cL_law 772 = .ok (.iconst 0, 1) := by decide +kernel
theorem dL_law_773 : decode cL_law 773 = .ok (.invokevirtual 125, 3) := by decide +kernel
theorem dL_law_776 : decode cL_law 776 = .ok (.ifCond .le 17, 3) := by decide +kernel
theorem dL_law_779 : decode cL_law 779 = .ok (.aload_n 1, 1) := by decide +kernel
theorem dL_law_780 : decode cL_law 780 = .ok (.iload 20, 2) := by decide +kernel
theorem dL_law_782 : decode cL_law 782 = .ok (.iconst 1, 1) := by decide +kernel
theorem dL_law_783 : decode cL_law 783 = .ok (.invokevirtual 125, 3) := by decide +kernel
theorem dL_law_786 : decode cL_law 786 = .ok (.ifCond .le 7, 3) := by decide +kernel
theorem dL_law_789 : decode cL_law 789 = .ok (.iconst 1, 1) := by decide +kernel
theorem dL_law_790 : decode cL_law 790 = .ok (.goto 4, 3) := by decide +kernel
theorem dL_law_793 : decode cL_law 793 = .ok (.iconst 0, 1) := by decide +kernel
theorem dL_law_794 : decode cL_law 794 = .ok (.if_icmp .eq 5, 3) := by decide +kernel
theorem dL_law_797 : decode cL_law 797 = .ok (.iconst 0, 1) := by decide +kernel
theorem dL_law_798 : decode cL_law 798 = .ok (.ireturn, 1) := by decide +kernel
theorem dL_law_799 : decode cL_law 799 = .ok (.aload_n 1, 1) := by decide +kernel
theorem dL_law_800 : decode cL_law 800 = .ok (.iload 20, 2) := by decide +kernel
theorem dL_law_802 : decode cL_law 802 = .ok (.iconst 2, 1) := by decide +kernel
theorem dL_law_803 : decode cL_law 803 = .ok (.invokevirtual 125, 3) := by decide +kernel
theorem dL_law_806 : decode cL_law 806 = .ok (.aload 9, 2) := by decide +kernel
theorem dL_law_808 : decode cL_law 808 = .ok (.iload 20, 2) := by decide +kernel
theorem dL_law_810 : decode cL_law 810 = .ok (.aaload, 1) := by decide +kernel
theorem dL_law_811 : decode cL_law 811 = .ok (.iconst 2, 1) := by decide +kernel
theorem dL_law_812 : decode cL_law 812 = .ok (.iaload, 1) := by decide +kernel
theorem dL_law_813 : decode cL_law 813 = .ok (.iload 21, 2) := by decide +kernel
theorem dL_law_815 : decode cL_law 815 = .ok (.iadd, 1) := by decide +kernel
theorem dL_law_816 : decode cL_law 816 = .ok (.if_icmp .eq 5, 3) := by decide +kernel
theorem dL_law_819 : decode cL_law 819 = .ok (.iconst 0, 1) := by decide +kernel
theorem dL_law_820 : decode cL_law 820 = .ok (.ireturn, 1) := by decide +kernel
theorem dL_law_821 : decode cL_law 821 = .ok (.iinc 20 1, 3) := by decide +kernel
theorem dL_law_824 : decode cL_law 824 = .ok (.goto (-205), 3) := by decide +kernel
theorem dL_law_827 : decode cL_law 827 = .ok (.iload 19, 2) := by decide +kernel
theorem dL_law_829 : decode cL_law 829 = .ok (.aload_n 1, 1) := by decide +kernel
theorem dL_law_830 : decode cL_law 830 = .ok (.bipush 7, 2) := by decide +kernel
theorem dL_law_832 : decode cL_law 832 = .ok (.invokevirtual 121, 3) := by decide +kernel
theorem dL_law_835 : decode cL_law 835 = .ok (.if_icmp .eq 5, 3) := by decide +kernel
theorem dL_law_838 : decode cL_law 838 = .ok (.iconst 0, 1) := by decide +kernel
theorem dL_law_839 : decode cL_law 839 = .ok (.ireturn, 1) := by decide +kernel
theorem dL_law_840 : decode cL_law 840 = .ok (.iconst 0, 1) := by decide +kernel
theorem dL_law_841 : decode cL_law 841 = .ok (.istore 20, 2) := by decide +kernel
theorem dL_law_843 : decode cL_law 843 = .ok (.iload 20, 2) := by decide +kernel
theorem dL_law_845 : decode cL_law 845 = .ok (.iload 6, 2) := by decide +kernel
theorem dL_law_847 : decode cL_law 847 = .ok (.if_icmp .ge 158, 3) := by decide +kernel
theorem dL_law_850 : decode cL_law 850 = .ok (.aload_n 1, 1) := by decide +kernel
theorem dL_law_851 : decode cL_law 851 = .ok (.iload 20, 2) := by decide +kernel
theorem dL_law_853 : decode cL_law 853 = .ok (.iconst 0, 1) := by decide +kernel
theorem dL_law_854 : decode cL_law 854 = .ok (.invokevirtual 128, 3) := by decide +kernel
theorem dL_law_857 : decode cL_law 857 = .ok (.istore 21, 2) := by decide +kernel
theorem dL_law_859 : decode cL_law 859 = .ok (.aload_n 1, 1) := by decide +kernel
theorem dL_law_860 : decode cL_law 860 = .ok (.iload 20, 2) := by decide +kernel
theorem dL_law_862 : decode cL_law 862 = .ok (.iconst 1, 1) := by decide +kernel
theorem dL_law_863 : decode cL_law 863 = .ok (.invokevirtual 128, 3) := by decide +kernel
theorem dL_law_866 : decode cL_law 866 = .ok (.aload 10, 2) := by decide +kernel
theorem dL_law_868 : decode cL_law 868 = .ok (.iload 20, 2) := by decide +kernel
theorem dL_law_870 : decode cL_law 870 = .ok (.aaload, 1) := by decide +kernel
theorem dL_law_871 : decode cL_law 871 = .ok (.iconst 1, 1) := by decide +kernel
theorem dL_law_872 : decode cL_law 872 = .ok (.iaload, 1) := by decide +kernel
theorem dL_law_873 : decode cL_law 873 = .ok (.if_icmp .ne 63, 3) := by decide +kernel
theorem dL_law_876 : decode cL_law 876 = .ok (.iload 21, 2) := by decide +kernel
theorem dL_law_878 : decode cL_law 878 = .ok (.aload 10, 2) := by decide +kernel
theorem dL_law_880 : decode cL_law 880 = .ok (.iload 20, 2) := by decide +kernel
theorem dL_law_882 : decode cL_law 882 = .ok (.aaload, 1) := by decide +kernel
theorem dL_law_883 : decode cL_law 883 = .ok (.iconst 0, 1) := by decide +kernel
theorem dL_law_884 : decode cL_law 884 = .ok (.iaload, 1) := by decide +kernel
theorem dL_law_885 : decode cL_law 885 = .ok (.ifCond .ne 7, 3) := by decide +kernel
theorem dL_law_888 : decode cL_law 888 = .ok (.iconst 0, 1) := by decide +kernel
theorem dL_law_889 : decode cL_law 889 = .ok (.goto 44, 3) := by decide +kernel
theorem dL_law_892 : decode cL_law 892 = .ok (.aload 8, 2) := by decide +kernel
theorem dL_law_894 : decode cL_law 894 = .ok (.iconst 1, 1) := by decide +kernel
theorem dL_law_895 : decode cL_law 895 = .ok (.iaload, 1) := by decide +kernel
theorem dL_law_896 : decode cL_law 896 = .ok (.ifCond .ne 19, 3) := by decide +kernel
theorem dL_law_899 : decode cL_law 899 = .ok (.iconst 0, 1) := by decide +kernel
theorem dL_law_900 : decode cL_law 900 = .ok (.aload 10, 2) := by decide +kernel
theorem dL_law_902 : decode cL_law 902 = .ok (.iload 20, 2) := by decide +kernel
theorem dL_law_904 : decode cL_law 904 = .ok (.aaload, 1) := by decide +kernel
theorem dL_law_905 : decode cL_law 905 = .ok (.iconst 0, 1) := by decide +kernel
theorem dL_law_906 : decode cL_law 906 = .ok (.iaload, 1) := by decide +kernel
theorem dL_law_907 : decode cL_law 907 = .ok (.iconst 3, 1) := by decide +kernel
theorem dL_law_908 : decode cL_law 908 = .ok (.isub, 1) := by decide +kernel
theorem dL_law_909 : decode cL_law 909 = .ok (.invokestatic 140, 3) := by decide +kernel
theorem dL_law_912 : decode cL_law 912 = .ok (.goto 21, 3) := by decide +kernel
theorem dL_law_915 : decode cL_law 915 = .ok (.sipush 400, 3) := by decide +kernel
theorem dL_law_918 : decode cL_law 918 = .ok (.aload 10, 2) := by decide +kernel
theorem dL_law_920 : decode cL_law 920 = .ok (.iload 20, 2) := by decide +kernel
theorem dL_law_922 : decode cL_law 922 = .ok (.aaload, 1) := by decide +kernel
theorem dL_law_923 : decode cL_law 923 = .ok (.iconst 0, 1) := by decide +kernel
theorem dL_law_924 : decode cL_law 924 = .ok (.iaload, 1) := by decide +kernel
theorem dL_law_925 : decode cL_law 925 = .ok (.aload 8, 2) := by decide +kernel
theorem dL_law_927 : decode cL_law 927 = .ok (.iconst 1, 1) := by decide +kernel
theorem dL_law_928 : decode cL_law 928 = .ok (.iaload, 1) := by decide +kernel
theorem dL_law_929 : decode cL_law 929 = .ok (.iadd, 1) := by decide +kernel
theorem dL_law_930 : decode cL_law 930 = .ok (.invokestatic 48, 3) := by decide +kernel
theorem dL_law_933 : decode cL_law 933 = .ok (.if_icmp .eq 5, 3) := by decide +kernel
theorem dL_law_936 : decode cL_law 936 = .ok (.iconst 0, 1) := by decide +kernel
theorem dL_law_937 : decode cL_law 937 = .ok (.ireturn, 1) := by decide +kernel
theorem dL_law_938 : decode cL_law 938 = .ok (.aload_n 1, 1) := by decide +kernel
theorem dL_law_939 : decode cL_law 939 = .ok (.iload 20, 2) := by decide +kernel
theorem dL_law_941 : decode cL_law 941 = .ok (.invokevirtual 143, 3) := by decide +kernel
theorem dL_law_944 : decode cL_law 944 = .ok (.istore 22, 2) := by decide +kernel
theorem dL_law_946 : decode cL_law 946 = .ok (.aload_n 1, 1) := by decide +kernel
theorem dL_law_947 : decode cL_law 947 = .ok (.iload 20, 2) := by decide +kernel
theorem dL_law_949 : decode cL_law 949 = .ok (.iconst 3, 1) := by decide +kernel
theorem dL_law_950 : decode cL_law 950 = .ok (.invokevirtual 128, 3) := by decide +kernel
theorem dL_law_953 : decode cL_law 953 = .ok (.ifCond .le 8, 3) := by decide +kernel
theorem dL_law_956 : decode cL_law 956 = .ok (.iload 22, 2) := by decide +kernel
theorem dL_law_958 : decode cL_law 958 = .ok (.ifCond .ne 39, 3) := by decide +kernel
theorem dL_law_961 : decode cL_law 961 = .ok (.aload_n 1, 1) := by decide +kernel
theorem dL_law_962 : decode cL_law 962 = .ok (.iload 20, 2) := by decide +kernel
theorem dL_law_964 : decode cL_law 964 = .ok (.iconst 1, 1) := by decide +kernel
theorem dL_law_965 : decode cL_law 965 = .ok (.invokevirtual 128, 3) := by decide +kernel
theorem dL_law_968 : decode cL_law 968 = .ok (.ifCond .ne 7, 3) := by decide +kernel
theorem dL_law_971 : decode cL_law 971 = .ok (.iconst 1, 1) := by decide +kernel
theorem dL_law_972 : decode cL_law 972 = .ok (.goto 4, 3) := by decide +kernel
theorem dL_law_975 : decode cL_law 975 = .ok (.iconst 0, 1) := by decide +kernel
theorem dL_law_976 : decode cL_law 976 = .ok (.iload 22, 2) := by decide +kernel
theorem dL_law_978 : decode cL_law 978 = .ok (.iconst (-1), 1) := by decide +kernel
theorem dL_law_979 : decode cL_law 979 = .ok (.if_icmp .ne 7, 3) := by decide +kernel
theorem dL_law_982 : decode cL_law 982 = .ok (.iconst 1, 1) := by decide +kernel
theorem dL_law_983 : decode cL_law 983 = .ok (.goto 4, 3) := by decide +kernel
theorem dL_law_986 : decode cL_law 986 = .ok (.iconst 0, 1) := by decide +kernel
theorem dL_law_987 : decode cL_law 987 = .ok (.if_icmp .ne 10, 3) := by decide +kernel
theorem dL_law_990 : decode cL_law 990 = .ok (.iload 22, 2) := by decide +kernel
theorem dL_law_992 : decode cL_law 992 = .ok (.iload 21, 2) := by decide +kernel
theorem dL_law_994 : decode cL_law 994 = .ok (.if_icmp .le 5, 3) := by decide +kernel
theorem dL_law_997 : decode cL_law 997 = .ok (.iconst 0, 1) := by decide +kernel
theorem dL_law_998 : decode cL_law 998 = .ok (.ireturn, 1) := by decide +kernel
theorem dL_law_999 : decode cL_law 999 = .ok (.iinc 20 1, 3) := by decide +kernel
theorem dL_law_1002 : decode cL_law 1002 = .ok (.goto (-159), 3) := by decide +kernel
theorem dL_law_1005 : decode cL_law 1005 = .ok (.iconst 0, 1) := by decide +kernel
theorem dL_law_1006 : decode cL_law 1006 = .ok (.istore 20, 2) := by decide +kernel
theorem dL_law_1008 : decode cL_law 1008 = .ok (.iconst 0, 1) := by decide +kernel
theorem dL_law_1009 : decode cL_law 1009 = .ok (.istore 21, 2) := by decide +kernel
theorem dL_law_1011 : decode cL_law 1011 = .ok (.iload 21, 2) := by decide +kernel
theorem dL_law_1013 : decode cL_law 1013 = .ok (.iload 7, 2) := by decide +kernel
theorem dL_law_1015 : decode cL_law 1015 = .ok (.if_icmp .ge 195, 3) := by decide +kernel
theorem dL_law_1018 : decode cL_law 1018 = .ok (.aload 11, 2) := by decide +kernel
theorem dL_law_1020 : decode cL_law 1020 = .ok (.iload 21, 2) := by decide +kernel
theorem dL_law_1022 : decode cL_law 1022 = .ok (.aaload, 1) := by decide +kernel
theorem dL_law_1023 : decode cL_law 1023 = .ok (.iconst 0, 1) := by decide +kernel
theorem dL_law_1024 : decode cL_law 1024 = .ok (.iaload, 1) := by decide +kernel
theorem dL_law_1025 : decode cL_law 1025 = .ok (.aload_n 1, 1) := by decide +kernel
theorem dL_law_1026 : decode cL_law 1026 = .ok (.iload 21, 2) := by decide +kernel
theorem dL_law_1028 : decode cL_law 1028 = .ok (.iconst 0, 1) := by decide +kernel
theorem dL_law_1029 : decode cL_law 1029 = .ok (.invokevirtual 131, 3) := by decide +kernel
theorem dL_law_1032 : decode cL_law 1032 = .ok (.isub, 1) := by decide +kernel
theorem dL_law_1033 : decode cL_law 1033 = .ok (.istore 22, 2) := by decide +kernel
theorem dL_law_1035 : decode cL_law 1035 = .ok (.aload_n 1, 1) := by decide +kernel
theorem dL_law_1036 : decode cL_law 1036 = .ok (.iload 21, 2) := by decide +kernel
theorem dL_law_1038 : decode cL_law 1038 = .ok (.iconst 1, 1) := by decide +kernel
theorem dL_law_1039 : decode cL_law 1039 = .ok (.invokevirtual 131, 3) := by decide +kernel
theorem dL_law_1042 : decode cL_law 1042 = .ok (.aload 11, 2) := by decide +kernel
theorem dL_law_1044 : decode cL_law 1044 = .ok (.iload 21, 2) := by decide +kernel
theorem dL_law_1046 : decode cL_law 1046 = .ok (.aaload, 1) := by decide +kernel
theorem dL_law_1047 : decode cL_law 1047 = .ok (.iconst 1, 1) := by decide +kernel
theorem dL_law_1048 : decode cL_law 1048 = .ok (.iaload, 1) := by decide +kernel
theorem dL_law_1049 : decode cL_law 1049 = .ok (.if_icmp .ne 40, 3) := by decide +kernel
theorem dL_law_1052 : decode cL_law 1052 = .ok (.iload 22, 2) := by decide +kernel
theorem dL_law_1054 : decode cL_law 1054 = .ok (.ifCond .lt 35, 3) := by decide +kernel
theorem dL_law_1057 : decode cL_law 1057 = .ok (.iload 22, 2) := by decide +kernel
theorem dL_law_1059 : decode cL_law 1059 = .ok (.bipush 12, 2) := by decide +kernel
theorem dL_law_1061 : decode cL_law 1061 = .ok (.if_icmp .gt 28, 3) := by decide +kernel
theorem dL_law_1064 : decode cL_law 1064 = .ok (.iload 22, 2) := by decide +kernel
theorem dL_law_1066 : decode cL_law 1066 = .ok (.ifCond .le 25, 3) := by decide +kernel
theorem dL_law_1069 : decode cL_law 1069 = .ok (.aload 11, 2) := by decide +kernel
theorem dL_law_1071 : decode cL_law 1071 = .ok (.iload 21, 2) := by decide +kernel
theorem dL_law_1073 : decode cL_law 1073 = .ok (.aaload, 1) := by decide +kernel
theorem dL_law_1074 : decode cL_law 1074 = .ok (.iconst 4, 1) := by decide +kernel
theorem dL_law_1075 : decode cL_law 1075 = .ok (.iaload, 1) := by decide +kernel
theorem dL_law_1076 : decode cL_law 1076 = .ok (.ifCond .eq 13, 3) := by decide +kernel
theorem dL_law_1079 : decode cL_law 1079 = .ok (.aload_n 1, 1) := by decide +kernel
theorem dL_law_1080 : decode cL_law 1080 = .ok (.iload 21, 2) := by decide +kernel
theorem dL_law_1082 : decode cL_law 1082 = .ok (.iconst 4, 1) := by decide +kernel
theorem dL_law_1083 : decode cL_law 1083 = .ok (.invokevirtual 131, 3) := by decide +kernel
theorem dL_law_1086 : decode cL_law 1086 = .ok (.ifCond .ne 5, 3) := by decide +kernel
theorem dL_law_1089 : decode cL_law 1089 = .ok (.iconst 0, 1) := by decide +kernel
theorem dL_law_1090 : decode cL_law 1090 = .ok (.ireturn, 1) := by decide +kernel
theorem dL_law_1091 : decode cL_law 1091 = .ok (.iload 20, 2) := by decide +kernel
theorem dL_law_1093 : decode cL_law 1093 = .ok (.iload 22, 2) := by decide +kernel
theorem dL_law_1095 : decode cL_law 1095 = .ok (.ifCond .le 7, 3) := by decide +kernel
theorem dL_law_1098 : decode cL_law 1098 = .ok (.iconst 1, 1) := by decide +kernel
theorem dL_law_1099 : decode cL_law 1099 = .ok (.goto 4, 3) := by decide +kernel
theorem dL_law_1102 : decode cL_law 1102 = .ok (.iconst 0, 1) := by decide +kernel
theorem dL_law_1103 : decode cL_law 1103 = .ok (.iadd, 1) := by decide +kernel
theorem dL_law_1104 : decode cL_law 1104 = .ok (.istore 20, 2) := by decide +kernel
theorem dL_law_1106 : decode cL_law 1106 = .ok (.aload_n 1, 1) := by decide +kernel
theorem dL_law_1107 : decode cL_law 1107 = .ok (.iload 21, 2) := by decide +kernel
theorem dL_law_1109 : decode cL_law 1109 = .ok (.iconst 2, 1) := by decide +kernel
theorem dL_law_1110 : decode cL_law 1110 = .ok (.invokevirtual 131, 3) := by decide +kernel
theorem dL_law_1113 : decode cL_law 1113 = .ok (.aload 11, 2) := by decide +kernel
theorem dL_law_1115 : decode cL_law 1115 = .ok (.iload 21, 2) := by decide +kernel
theorem dL_law_1117 : decode cL_law 1117 = .ok (.aaload, 1) := by decide +kernel
theorem dL_law_1118 : decode cL_law 1118 = .ok (.iconst 2, 1) := by decide +kernel
theorem dL_law_1119 : decode cL_law 1119 = .ok (.iaload, 1) := by decide +kernel
theorem dL_law_1120 : decode cL_law 1120 = .ok (.if_icmp .lt 48, 3) := by decide +kernel
theorem dL_law_1123 : decode cL_law 1123 = .ok (.aload 12, 2) := by decide +kernel
theorem dL_law_1125 : decode cL_law 1125 = .ok (.iload 21, 2) := by decide +kernel
theorem dL_law_1127 : decode cL_law 1127 = .ok (.iaload, 1) := by decide +kernel
theorem dL_law_1128 : decode cL_law 1128 = .ok (.iconst 1, 1) := by decide +kernel
theorem dL_law_1129 : decode cL_law 1129 = .ok (.if_icmp .le 19, 3) := by decide +kernel
theorem dL_law_1132 : decode cL_law 1132 = .ok (.aload_n 1, 1) := by decide +kernel
theorem dL_law_1133 : decode cL_law 1133 = .ok (.iload 21, 2) := by decide +kernel
theorem dL_law_1135 : decode cL_law 1135 = .ok (.invokevirtual 134, 3) := by decide +kernel
theorem dL_law_1138 : decode cL_law 1138 = .ok (.aload 12, 2) := by decide +kernel
theorem dL_law_1140 : decode cL_law 1140 = .ok (.iload 21, 2) := by decide +kernel
theorem dL_law_1142 : decode cL_law 1142 = .ok (.iaload, 1) := by decide +kernel
theorem dL_law_1143 : decode cL_law 1143 = .ok (.iconst 1, 1) := by decide +kernel
theorem dL_law_1144 : decode cL_law 1144 = .ok (.isub, 1) := by decide +kernel
theorem dL_law_1145 : decode cL_law 1145 = .ok (.if_icmp .ne 23, 3) := by decide +kernel
theorem dL_law_1148 : decode cL_law 1148 = .ok (.aload 12, 2) := by decide +kernel
theorem dL_law_1150 : decode cL_law 1150 = .ok (.iload 21, 2) := by decide +kernel
theorem dL_law_1152 : decode cL_law 1152 = .ok (.iaload, 1) := by decide +kernel
theorem dL_law_1153 : decode cL_law 1153 = .ok (.iconst 1, 1) := by decide +kernel
theorem dL_law_1154 : decode cL_law 1154 = .ok (.if_icmp .ne 16, 3) := by decide +kernel
theorem dL_law_1157 : decode cL_law 1157 = .ok (.aload_n 1, 1) := by decide +kernel
theorem dL_law_1158 : decode cL_law 1158 = .ok (.iload 21, 2) := by decide +kernel
theorem dL_law_1160 : decode cL_law 1160 = .ok (.iconst 3, 1) := by decide +kernel
theorem dL_law_1161 : decode cL_law 1161 = .ok (.invokevirtual 131, 3) := by decide +kernel
theorem dL_law_1164 : decode cL_law 1164 = .ok (.iconst 1, 1) := by decide +kernel
theorem dL_law_1165 : decode cL_law 1165 = .ok (.if_icmp .eq 5, 3) := by decide +kernel
theorem dL_law_1168 : decode cL_law 1168 = .ok (.iconst 0, 1) := by decide +kernel
theorem dL_law_1169 : decode cL_law 1169 = .ok (.ireturn, 1) := by decide +kernel
theorem dL_law_1170 : decode cL_law 1170 = .ok (.aload_n 1, 1) := by decide +kernel
theorem dL_law_1171 : decode cL_law 1171 = .ok (.iload 21, 2) := by decide +kernel
theorem dL_law_1173 : decode cL_law 1173 = .ok (.invokevirtual 146, 3) := by decide +kernel
theorem dL_law_1176 : decode cL_law 1176 = .ok (.ifCond .ge 7, 3) := by decide +kernel
theorem dL_law_1179 : decode cL_law 1179 = .ok (.iconst 1, 1) := by decide +kernel
theorem dL_law_1180 : decode cL_law 1180 = .ok (.goto 4, 3) := by decide +kernel
theorem dL_law_1183 : decode cL_law 1183 = .ok (.iconst 0, 1) := by decide +kernel
theorem dL_law_1184 : decode cL_law 1184 = .ok (.aload_n 1, 1) := by decide +kernel
theorem dL_law_1185 : decode cL_law 1185 = .ok (.iload 21, 2) := by decide +kernel
theorem dL_law_1187 : decode cL_law 1187 = .ok (.iconst 1, 1) := by decide +kernel
theorem dL_law_1188 : decode cL_law 1188 = .ok (.invokevirtual 131, 3) := by decide +kernel
theorem dL_law_1191 : decode cL_law 1191 = .ok (.ifCond .ne 7, 3) := by decide +kernel
theorem dL_law_1194 : decode cL_law 1194 = .ok (.iconst 1, 1) := by decide +kernel
theorem dL_law_1195 : decode cL_law 1195 = .ok (.goto 4, 3) := by decide +kernel
theorem dL_law_1198 : decode cL_law 1198 = .ok (.iconst 0, 1) := by decide +kernel
theorem dL_law_1199 : decode cL_law 1199 = .ok (.if_icmp .eq 5, 3) := by decide +kernel
theorem dL_law_1202 : decode cL_law 1202 = .ok (.iconst 0, 1) := by decide +kernel
theorem dL_law_1203 : decode cL_law 1203 = .ok (.ireturn, 1) := by decide +kernel
theorem dL_law_1204 : decode cL_law 1204 = .ok (.iinc 21 1, 3) := by decide +kernel
theorem dL_law_1207 : decode cL_law 1207 = .ok (.goto (-196), 3) := by decide +kernel
theorem dL_law_1210 : decode cL_law 1210 = .ok (.aload_n 1, 1) := by decide +kernel
theorem dL_law_1211 : decode cL_law 1211 = .ok (.iconst 2, 1) := by decide +kernel
theorem dL_law_1212 : decode cL_law 1212 = .ok (.invokevirtual 121, 3) := by decide +kernel
theorem dL_law_1215 : decode cL_law 1215 = .ok (.aload 8, 2) := by decide +kernel
theorem dL_law_1217 : decode cL_law 1217 = .ok (.iconst 2, 1) := by decide +kernel
theorem dL_law_1218 : decode cL_law 1218 = .ok (.iaload, 1) := by decide +kernel
theorem dL_law_1219 : decode cL_law 1219 = .ok (.iconst 4, 1) := by decide +kernel
theorem dL_law_1220 : decode cL_law 1220 = .ok (.iload 20, 2) := by decide +kernel
theorem dL_law_1222 : decode cL_law 1222 = .ok (.imul, 1) := by decide +kernel
theorem dL_law_1223 : decode cL_law 1223 = .ok (.isub, 1) := by decide +kernel
theorem dL_law_1224 : decode cL_law 1224 = .ok (.if_icmp .eq 5, 3) := by decide +kernel
theorem dL_law_1227 : decode cL_law 1227 = .ok (.iconst 0, 1) := by decide +kernel
theorem dL_law_1228 : decode cL_law 1228 = .ok (.ireturn, 1) := by decide +kernel
theorem dL_law_1229 : decode cL_law 1229 = .ok (.iinc 3 1, 3) := by decide +kernel
theorem dL_law_1232 : decode cL_law 1232 = .ok (.goto (-1210), 3) := by decide +kernel
theorem dL_law_1235 : decode cL_law 1235 = .ok (.aload_n 2, 1) := by decide +kernel
theorem dL_law_1236 : decode cL_law 1236 = .ok (.aload_n 1, 1) := by decide +kernel
theorem dL_law_1237 : decode cL_law 1237 = .ok (.invokevirtual 149, 3) := by decide +kernel
theorem dL_law_1240 : decode cL_law 1240 = .ok (.ireturn, 1) := by decide +kernel
