theorem dL_isTree_96 : decode cL_isTree 96 = .ok (.aload_n 0, 1) := by decide +kernel
theorem dL_isTree_97 : decode cL_isTree 97 = .ok (.iload 5, 2) := by decide +kernel
theorem dL_isTree_99 : decode cL_isTree 99 = .ok (.invokevirtual 10, 3) := by decide +kernel
theorem dL_isTree_102 : decode cL_isTree 102 = .ok (.istore 6, 2) := by decide +kernel
theorem dL_isTree_104 : decode cL_isTree 104 = .ok (.aload_n 0, 1) := by decide +kernel
theorem dL_isTree_105 : decode cL_isTree 105 = .ok (.iload 5, 2) := by decide +kernel
theorem dL_isTree_107 : decode cL_isTree 107 = .ok (.invokevirtual 16, 3) := by decide +kernel
theorem dL_isTree_110 : decode cL_isTree 110 = .ok (.istore 7, 2) := by decide +kernel
theorem dL_isTree_112 : decode cL_isTree 112 = .ok (.iload 5, 2) := by decide +kernel
theorem dL_isTree_114 : decode cL_isTree 114 = .ok (.ifCond .ne 27, 3) := by decide +kernel
theorem dL_isTree_117 : decode cL_isTree 117 = .ok (.iload 6, 2) := by decide +kernel
theorem dL_isTree_119 : decode cL_isTree 119 = .ok (.ifCond .lt 18, 3) := by decide +kernel
theorem dL_isTree_122 : decode cL_isTree 122 = .ok (.iload 6, 2) := by decide +kernel
theorem dL_isTree_124 : decode cL_isTree 124 = .ok (.ifCond .eq 9, 3) := by decide +kernel
theorem dL_isTree_127 : decode cL_isTree 127 = .ok (.iload 7, 2) := by decide +kernel
theorem dL_isTree_129 : decode cL_isTree 129 = .ok (.iconst 1, 1) := by decide +kernel
theorem dL_isTree_130 : decode cL_isTree 130 = .ok (.if_icmp .le 7, 3) := by decide +kernel
theorem dL_isTree_133 : decode cL_isTree 133 = .ok (.iconst 1, 1) := by decide +kernel
theorem dL_isTree_134 : decode cL_isTree 134 = .ok (.goto 31, 3) := by decide +kernel
theorem dL_isTree_137 : decode cL_isTree 137 = .ok (.iconst 0, 1) := by decide +kernel
theorem dL_isTree_138 : decode cL_isTree 138 = .ok (.goto 27, 3) := by decide +kernel
theorem dL_isTree_141 : decode cL_isTree 141 = .ok (.iload 6, 2) := by decide +kernel
theorem dL_isTree_143 : decode cL_isTree 143 = .ok (.ifCond .lt 21, 3) := by decide +kernel
theorem dL_isTree_146 : decode cL_isTree 146 = .ok (.iload 6, 2) := by decide +kernel
theorem dL_isTree_148 : decode cL_isTree 148 = .ok (.aload_n 0, 1) := by decide +kernel
theorem dL_isTree_149 : decode cL_isTree 149 = .ok (.invokevirtual 46, 3) := by decide +kernel
theorem dL_isTree_152 : decode cL_isTree 152 = .ok (.if_icmp .ge 12, 3) := by decide +kernel
theorem dL_isTree_155 : decode cL_isTree 155 = .ok (.iload 7, 2) := by decide +kernel
theorem dL_isTree_157 : decode cL_isTree 157 = .ok (.ifCond .le 7, 3) := by decide +kernel
theorem dL_isTree_160 : decode cL_isTree 160 = .ok (.iconst 1, 1) := by decide +kernel
theorem dL_isTree_161 : decode cL_isTree 161 = .ok (.goto 4, 3) := by decide +kernel
theorem dL_isTree_164 : decode cL_isTree 164 = .ok (.iconst 0, 1) := by decide +kernel
theorem dL_isTree_165 : decode cL_isTree 165 = .ok (.istore 8, 2) := by decide +kernel
theorem dL_isTree_167 : decode cL_isTree 167 = .ok (.iload 8, 2) := by decide +kernel
theorem dL_isTree_169 : decode cL_isTree 169 = .ok (.ifCond .eq 50, 3) := by decide +kernel
theorem dL_isTree_172 : decode cL_isTree 172 = .ok (.iload 7, 2) := by decide +kernel
theorem dL_isTree_174 : decode cL_isTree 174 = .ok (.bipush 6, 2) := by decide +kernel
theorem dL_isTree_176 : decode cL_isTree 176 = .ok (.if_icmp .gt 43, 3) := by decide +kernel
theorem dL_isTree_179 : decode cL_isTree 179 = .ok (.aload_n 0, 1) := by decide +kernel
theorem dL_isTree_180 : decode cL_isTree 180 = .ok (.iload 5, 2) := by decide +kernel
theorem dL_isTree_182 : decode cL_isTree 182 = .ok (.iload 7, 2) := by decide +kernel
theorem dL_isTree_184 : decode cL_isTree 184 = .ok (.invokevirtual 19, 3) := by decide +kernel
theorem dL_isTree_187 : decode cL_isTree 187 = .ok (.iconst (-1), 1) := by decide +kernel
theorem dL_isTree_188 : decode cL_isTree 188 = .ok (.if_icmp .ne 31, 3) := by decide +kernel
theorem dL_isTree_191 : decode cL_isTree 191 = .ok (.aload_n 0, 1) := by decide +kernel
theorem dL_isTree_192 : decode cL_isTree 192 = .ok (.iload 5, 2) := by decide +kernel
theorem dL_isTree_194 : decode cL_isTree 194 = .ok (.iconst (-1), 1) := by decide +kernel
theorem dL_isTree_195 : decode cL_isTree 195 = .ok (.invokevirtual 19, 3) := by decide +kernel
theorem dL_isTree_198 : decode cL_isTree 198 = .ok (.iconst (-1), 1) := by decide +kernel
theorem dL_isTree_199 : decode cL_isTree 199 = .ok (.if_icmp .ne 20, 3) := by decide +kernel
theorem dL_isTree_202 : decode cL_isTree 202 = .ok (.iload 6, 2) := by decide +kernel
theorem dL_isTree_204 : decode cL_isTree 204 = .ok (.ifCond .le 17, 3) := by decide +kernel
theorem dL_isTree_207 : decode cL_isTree 207 = .ok (.aload_n 0, 1) := by decide +kernel
theorem dL_isTree_208 : decode cL_isTree 208 = .ok (.iload 5, 2) := by decide +kernel
theorem dL_isTree_210 : decode cL_isTree 210 = .ok (.iload 6, 2) := by decide +kernel
theorem dL_isTree_212 : decode cL_isTree 212 = .ok (.iload_n 2, 1) := by decide +kernel
theorem dL_isTree_213 : decode cL_isTree 213 = .ok (.invokestatic 49, 3) := by decide +kernel
theorem dL_isTree_216 : decode cL_isTree 216 = .ok (.ifCond .ne 5, 3) := by decide +kernel
theorem dL_isTree_219 : decode cL_isTree 219 = .ok (.iconst 0, 1) := by decide +kernel
theorem dL_isTree_220 : decode cL_isTree 220 = .ok (.ireturn, 1) := by decide +kernel
theorem dL_isTree_221 : decode cL_isTree 221 = .ok (.iload 6, 2) := by decide +kernel
theorem dL_isTree_223 : decode cL_isTree 223 = .ok (.ifCond .le 8, 3) := by decide +kernel
theorem dL_isTree_226 : decode cL_isTree 226 = .ok (.iload 4, 2) := by decide +kernel
theorem dL_isTree_228 : decode cL_isTree 228 = .ok (.goto 12, 3) := by decide +kernel
theorem dL_isTree_231 : decode cL_isTree 231 = .ok (.aload_n 0, 1) := by decide +kernel
theorem dL_isTree_232 : decode cL_isTree 232 = .ok (.aload_n 1, 1) := by decide +kernel
theorem dL_isTree_233 : decode cL_isTree 233 = .ok (.iload 5, 2) := by decide +kernel
theorem dL_isTree_235 : decode cL_isTree 235 = .ok (.iload 4, 2) := by decide +kernel
theorem dL_isTree_237 : decode cL_isTree 237 = .ok (.invokestatic 53, 3) := by decide +kernel
theorem dL_isTree_240 : decode cL_isTree 240 = .ok (.istore 4, 2) := by decide +kernel
theorem dL_isTree_242 : decode cL_isTree 242 = .ok (.iload 4, 2) := by decide +kernel
theorem dL_isTree_244 : decode cL_isTree 244 = .ok (.ifCond .ge 5, 3) := by decide +kernel
theorem dL_isTree_247 : decode cL_isTree 247 = .ok (.iconst 0, 1) := by decide +kernel
theorem dL_isTree_248 : decode cL_isTree 248 = .ok (.ireturn, 1) := by decide +kernel
theorem dL_isTree_249 : decode cL_isTree 249 = .ok (.iinc 5 1, 3) := by decide +kernel
theorem dL_isTree_252 : decode cL_isTree 252 = .ok (.goto (-162), 3) := by decide +kernel
theorem dL_isTree_255 : decode cL_isTree 255 = .ok (.iload 4, 2) := by decide +kernel
theorem dL_isTree_257 : decode cL_isTree 257 = .ok (.aload_n 0, 1) := by decide +kernel
theorem dL_isTree_258 : decode cL_isTree 258 = .ok (.invokevirtual 57, 3) := by decide +kernel
theorem dL_isTree_261 : decode cL_isTree 261 = .ok (.if_icmp .ne 35, 3) := by decide +kernel
theorem dL_isTree_264 : decode cL_isTree 264 = .ok (.iload_n 3, 1) := by decide +kernel
theorem dL_isTree_265 : decode cL_isTree 265 = .ok (.ifCond .gt 27, 3) := by decide +kernel
theorem dL_isTree_268 : decode cL_isTree 268 = .ok (.iload_n 2, 1) := by decide +kernel
theorem dL_isTree_269 : decode cL_isTree 269 = .ok (.iconst 1, 1) := by decide +kernel
theorem dL_isTree_270 : decode cL_isTree 270 = .ok (.if_icmp .ne 26, 3) := by decide +kernel
theorem dL_isTree_273 : decode cL_isTree 273 = .ok (.aload_n 0, 1) := by decide +kernel
theorem dL_isTree_274 : decode cL_isTree 274 = .ok (.iconst 0, 1) := by decide +kernel
theorem dL_isTree_275 : decode cL_isTree 275 = .ok (.invokevirtual 16, 3) := by decide +kernel
theorem dL_isTree_278 : decode cL_isTree 278 = .ok (.ifCond .ne 18, 3) := by decide +kernel
theorem dL_isTree_281 : decode cL_isTree 281 = .ok (.aload_n 0, 1) := by decide +kernel
theorem dL_isTree_282 : decode cL_isTree 282 = .ok (.iconst 0, 1) := by decide +kernel
theorem dL_isTree_283 : decode cL_isTree 283 = .ok (.iconst 0, 1) := by decide +kernel
theorem dL_isTree_284 : decode cL_isTree 284 = .ok (.invokevirtual 31, 3) := by decide +kernel
theorem dL_isTree_287 : decode cL_isTree 287 = .ok (.bipush (-5), 2) := by decide +kernel
theorem dL_isTree_289 : decode cL_isTree 289 = .ok (.if_icmp .ne 7, 3) := by decide +kernel
theorem dL_isTree_292 : decode cL_isTree 292 = .ok (.iconst 1, 1) := by decide +kernel
theorem dL_isTree_293 : decode cL_isTree 293 = .ok (.goto 4, 3) := by decide +kernel
theorem dL_isTree_296 : decode cL_isTree 296 = .ok (.iconst 0, 1) := by decide +kernel
theorem dL_isTree_297 : decode cL_isTree 297 = .ok (.istore 5, 2) := by decide +kernel
theorem dL_isTree_299 : decode cL_isTree 299 = .ok (.iconst 0, 1) := by decide +kernel
theorem dL_isTree_300 : decode cL_isTree 300 = .ok (.istore 6, 2) := by decide +kernel
theorem dL_isTree_302 : decode cL_isTree 302 = .ok (.iload 6, 2) := by decide +kernel
theorem dL_isTree_304 : decode cL_isTree 304 = .ok (.bipush 24, 2) := by decide +kernel
theorem dL_isTree_306 : decode cL_isTree 306 = .ok (.if_icmp .ge 109, 3) := by decide +kernel
theorem dL_isTree_309 : decode cL_isTree 309 = .ok (.iload 5, 2) := by decide +kernel
theorem dL_isTree_311 : decode cL_isTree 311 = .ok (.ifCond .eq 104, 3) := by decide +kernel
theorem dL_isTree_314 : decode cL_isTree 314 = .ok (.aload_n 1, 1) := by decide +kernel
theorem dL_isTree_315 : decode cL_isTree 315 = .ok (.iload 6, 2) := by decide +kernel
theorem dL_isTree_317 : decode cL_isTree 317 = .ok (.iaload, 1) := by decide +kernel
theorem dL_isTree_318 : decode cL_isTree 318 = .ok (.ifCond .ge 7, 3) := by decide +kernel
theorem dL_isTree_321 : decode cL_isTree 321 = .ok (.iconst 1, 1) := by decide +kernel
theorem dL_isTree_322 : decode cL_isTree 322 = .ok (.goto 4, 3) := by decide +kernel
theorem dL_isTree_325 : decode cL_isTree 325 = .ok (.iconst 0, 1) := by decide +kernel
theorem dL_isTree_326 : decode cL_isTree 326 = .ok (.iload 4, 2) := by decide +kernel
theorem dL_isTree_328 : decode cL_isTree 328 = .ok (.iload 6, 2) := by decide +kernel
theorem dL_isTree_330 : decode cL_isTree 330 = .ok (.ishr, 1) := by decide +kernel
theorem dL_isTree_331 : decode cL_isTree 331 = .ok (.iconst 1, 1) := by decide +kernel
theorem dL_isTree_332 : decode cL_isTree 332 = .ok (.iand, 1) := by decide +kernel
theorem dL_isTree_333 : decode cL_isTree 333 = .ok (.ifCond .ne 7, 3) := by decide +kernel
theorem dL_isTree_336 : decode cL_isTree 336 = .ok (.iconst 1, 1) := by decide +kernel
theorem dL_isTree_337 : decode cL_isTree 337 = .ok (.goto 4, 3) := by decide +kernel
theorem dL_isTree_340 : decode cL_isTree 340 = .ok (.iconst 0, 1) := by decide +kernel
theorem dL_isTree_341 : decode cL_isTree 341 = .ok (.if_icmp .ne 7, 3) := by decide +kernel
theorem dL_isTree_344 : decode cL_isTree 344 = .ok (.iconst 1, 1) := by decide +kernel
theorem dL_isTree_345 : decode cL_isTree 345 = .ok (.goto 4, 3) := by decide +kernel
theorem dL_isTree_348 : decode cL_isTree 348 = .ok (.iconst 0, 1) := by decide +kernel
theorem dL_isTree_349 : decode cL_isTree 349 = .ok (.istore 5, 2) := by decide +kernel
theorem dL_isTree_351 : decode cL_isTree 351 = .ok (.iconst 0, 1) := by decide +kernel
theorem dL_isTree_352 : decode cL_isTree 352 = .ok (.istore 7, 2) := by decide +kernel
theorem dL_isTree_354 : decode cL_isTree 354 = .ok (.iload 7, 2) := by decide +kernel
theorem dL_isTree_356 : decode cL_isTree 356 = .ok (.iconst 4, 1) := by decide +kernel
theorem dL_isTree_357 : decode cL_isTree 357 = .ok (.if_icmp .ge 52, 3) := by decide +kernel
theorem dL_isTree_360 : decode cL_isTree 360 = .ok (.iload 5, 2) := by decide +kernel
theorem dL_isTree_362 : decode cL_isTree 362 = .ok (.ifCond .eq 47, 3) := by decide +kernel
theorem dL_isTree_365 : decode cL_isTree 365 = .ok (.aload_n 0, 1) := by decide +kernel
theorem dL_isTree_366 : decode cL_isTree 366 = .ok (.iload 6, 2) := by decide +kernel
theorem dL_isTree_368 : decode cL_isTree 368 = .ok (.iload 7, 2) := by decide +kernel
theorem dL_isTree_370 : decode cL_isTree 370 = .ok (.invokevirtual 60, 3) := by decide +kernel
theorem dL_isTree_373 : decode cL_isTree 373 = .ok (.aload_n 1, 1) := by decide +kernel
theorem dL_isTree_374 : decode cL_isTree 374 = .ok (.iload 6, 2) := by decide +kernel
theorem dL_isTree_376 : decode cL_isTree 376 = .ok (.iaload, 1) := by decide +kernel
theorem dL_isTree_377 : decode cL_isTree 377 = .ok (.ifCond .ge 7, 3) := by decide +kernel
theorem dL_isTree_380 : decode cL_isTree 380 = .ok (.iconst (-1), 1) := by decide +kernel
theorem dL_isTree_381 : decode cL_isTree 381 = .ok (.goto 12, 3) := by decide +kernel
theorem dL_isTree_384 : decode cL_isTree 384 = .ok (.aload_n 1, 1) := by decide +kernel
theorem dL_isTree_385 : decode cL_isTree 385 = .ok (.iload 6, 2) := by decide +kernel
theorem dL_isTree_387 : decode cL_isTree 387 = .ok (.iaload, 1) := by decide +kernel
theorem dL_isTree_388 : decode cL_isTree 388 = .ok (.iload 7, 2) := by decide +kernel
theorem dL_isTree_390 : decode cL_isTree 390 = .ok (.invokestatic 26, 3) := by decide +kernel
theorem dL_isTree_393 : decode cL_isTree 393 = .ok (.if_icmp .ne 7, 3) := by decide +kernel
theorem dL_isTree_396 : decode cL_isTree 396 = .ok (.iconst 1, 1) := by decide +kernel
theorem dL_isTree_397 : decode cL_isTree 397 = .ok (.goto 4, 3) := by decide +kernel
theorem dL_isTree_400 : decode cL_isTree 400 = .ok (.iconst 0, 1) := by decide +kernel
theorem dL_isTree_401 : decode cL_isTree 401 = .ok (.istore 5, 2) := by decide +kernel
theorem dL_isTree_403 : decode cL_isTree 403 = .ok (.iinc 7 1, 3) := by decide +kernel
theorem dL_isTree_406 : decode cL_isTree 406 = .ok (.goto (-52), 3) := by decide +kernel
theorem dL_isTree_409 : decode cL_isTree 409 = .ok (.iinc 6 1, 3) := by decide +kernel
theorem dL_isTree_412 : decode cL_isTree 412 = .ok (.goto (-110), 3) := by decide +kernel
theorem dL_isTree_415 : decode cL_isTree 415 = .ok (.iload 5, 2) := by decide +kernel
theorem dL_isTree_417 : decode cL_isTree 417 = .ok (.ifCond .eq 30, 3) := by decide +kernel
theorem dL_isTree_420 : decode cL_isTree 420 = .ok (.aload_n 0, 1) := by decide +kernel
theorem dL_isTree_421 : decode cL_isTree 421 = .ok (.invokevirtual 63, 3) := by decide +kernel
theorem dL_isTree_424 : decode cL_isTree 424 = .ok (.iload_n 2, 1) := by decide +kernel
theorem dL_isTree_425 : decode cL_isTree 425 = .ok (.iconst 1, 1) := by decide +kernel
theorem dL_isTree_426 : decode cL_isTree 426 = .ok (.isub, 1) := by decide +kernel
theorem dL_isTree_427 : decode cL_isTree 427 = .ok (.iload_n 3, 1) := by decide +kernel
theorem dL_isTree_428 : decode cL_isTree 428 = .ok (.iadd, 1) := by decide +kernel
theorem dL_isTree_429 : decode cL_isTree 429 = .ok (.i2f, 1) := by decide +kernel
theorem dL_isTree_430 : decode cL_isTree 430 = .ok (.iload_n 2, 1) := by decide +kernel
theorem dL_isTree_431 : decode cL_isTree 431 = .ok (.aload_n 0, 1) := by decide +kernel
theorem dL_isTree_432 : decode cL_isTree 432 = .ok (.iconst 0, 1) := by decide +kernel
theorem dL_isTree_433 : decode cL_isTree 433 = .ok (.invokevirtual 67, 3) := by decide +kernel
theorem dL_isTree_436 : decode cL_isTree 436 = .ok (.imul, 1) := by decide +kernel
theorem dL_isTree_437 : decode cL_isTree 437 = .ok (.i2f, 1) := by decide +kernel
theorem dL_isTree_438 : decode cL_isTree 438 = .ok (.fdiv, 1) := by decide +kernel
theorem dL_isTree_439 : decode cL_isTree 439 = .ok (.fcmp .l, 1) := by decide +kernel
theorem dL_isTree_440 : decode cL_isTree 440 = .ok (.ifCond .ne 7, 3) := by decide +kernel
theorem dL_isTree_443 : decode cL_isTree 443 = .ok (.iconst 1, 1) := by decide +kernel
theorem dL_isTree_444 : decode cL_isTree 444 = .ok (.goto 4, 3) := by decide +kernel
theorem dL_isTree_447 : decode cL_isTree 447 = .ok (.iconst 0, 1) := by decide +kernel
theorem dL_isTree_448 : decode cL_isTree 448 = .ok (.ireturn, 1) := by decide +kernel
theorem dL_common_0 : decode cL_common 0 = .ok (.aload_n 0, 1) := by decide +kernel
theorem dL_common_1 : decode cL_common 1 = .ok (.iload_n 1, 1) := by decide +kernel
theorem dL_common_2 : decode cL_common 2 = .ok (.iconst 0, 1) := by decide +kernel
theorem dL_common_3 : decode cL_common 3 = .ok (.invokevirtual 31, 3) := by decide +kernel
theorem dL_common_6 : decode cL_common 6 = .ok (.aload_n 0, 1) := by decide +kernel
theorem dL_common_7 : decode cL_common 7 = .ok (.iload_n 2, 1) := by decide +kernel
theorem dL_common_8 : decode cL_common 8 = .ok (.iconst 0, 1) := by decide +kernel
theorem dL_common_9 : decode cL_common 9 = .ok (.invokevirtual 31, 3) := by decide +kernel
theorem dL_common_12 : decode cL_common 12 = .ok (.if_icmp .le 12, 3) := by decide +kernel
theorem dL_common_15 : decode cL_common 15 = .ok (.aload_n 0, 1) := by decide +kernel
theorem dL_common_16 : decode cL_common 16 = .ok (.iload_n 1, 1) := by decide +kernel
theorem dL_common_17 : decode cL_common 17 = .ok (.iconst 0, 1) := by decide +kernel
theorem dL_common_18 : decode cL_common 18 = .ok (.invokevirtual 31, 3) := by decide +kernel
theorem dL_common_21 : decode cL_common 21 = .ok (.goto 9, 3) := by decide +kernel
theorem dL_common_24 : decode cL_common 24 = .ok (.aload_n 0, 1) := by decide +kernel
theorem dL_common_25 : decode cL_common 25 = .ok (.iload_n 2, 1) := by decide +kernel
theorem dL_common_26 : decode cL_common 26 = .ok (.iconst 0, 1) := by decide +kernel
theorem dL_common_27 : decode cL_common 27 = .ok (.invokevirtual 31, 3) := by decide +kernel
theorem dL_common_30 : decode cL_common 30 = .ok (.istore_n 3, 1) := by decide +kernel
theorem dL_common_31 : decode cL_common 31 = .ok (.aload_n 0, 1) := by decide +kernel
theorem dL_common_32 : decode cL_common 32 = .ok (.iload_n 1, 1) := by decide +kernel
theorem dL_common_33 : decode cL_common 33 = .ok (.iconst 1, 1) := by decide +kernel
theorem dL_common_34 : decode cL_common 34 = .ok (.invokevirtual 31, 3) := by decide +kernel
theorem dL_common_37 : decode cL_common 37 = .ok (.aload_n 0, 1) := by decide +kernel
theorem dL_common_38 : decode cL_common 38 = .ok (.iload_n 2, 1) := by decide +kernel
theorem dL_common_39 : decode cL_common 39 = .ok (.iconst 1, 1) := by decide +kernel
theorem dL_common_40 : decode cL_common 40 = .ok (.invokevirtual 31, 3) := by decide +kernel
theorem dL_common_43 : decode cL_common 43 = .ok (.if_icmp .le 12, 3) := by decide +kernel
theorem dL_common_46 : decode cL_common 46 = .ok (.aload_n 0, 1) := by decide +kernel
theorem dL_common_47 : decode cL_common 47 = .ok (.iload_n 1, 1) := by decide +kernel
theorem dL_common_48 : decode cL_common 48 = .ok (.iconst 1, 1) := by decide +kernel
theorem dL_common_49 : decode cL_common 49 = .ok (.invokevirtual 31, 3) := by decide +kernel
theorem dL_common_52 : decode cL_common 52 = .ok (.goto 9, 3) := by decide +kernel
theorem dL_common_55 : decode cL_common 55 = .ok (.aload_n 0, 1) := by decide +kernel
theorem dL_common_56 : decode cL_common 56 = .ok (.iload_n 2, 1) := by decide +kernel
theorem dL_common_57 : decode cL_common 57 = .ok (.iconst 1, 1) := by decide +kernel
theorem dL_common_58 : decode cL_common 58 = .ok (.invokevirtual 31, 3) := by decide +kernel
theorem dL_common_61 : decode cL_common 61 = .ok (.istore 4, 2) := by decide +kernel
theorem dL_common_63 : decode cL_common 63 = .ok (.aload_n 0, 1) := by decide +kernel
theorem dL_common_64 : decode cL_common 64 = .ok (.iload_n 1, 1) := by decide +kernel
theorem dL_common_65 : decode cL_common 65 = .ok (.iconst 2, 1) := by decide +kernel
theorem dL_common_66 : decode cL_common 66 = .ok (.invokevirtual 31, 3) := by decide +kernel
theorem dL_common_69 : decode cL_common 69 = .ok (.aload_n 0, 1) := by decide +kernel
theorem dL_common_70 : decode cL_common 70 = .ok (.iload_n 2, 1) := by decide +kernel
theorem dL_common_71 : decode cL_common 71 = .ok (.iconst 2, 1) := by decide +kernel
theorem dL_common_72 : decode cL_common 72 = .ok (.invokevirtual 31, 3) := by decide +kernel
theorem dL_common_75 : decode cL_common 75 = .ok (.if_icmp .ge 12, 3) := by decide +kernel
theorem dL_common_78 : decode cL_common 78 = .ok (.aload_n 0, 1) := by decide +kernel
theorem dL_common_79 : decode cL_common 79 = .ok (.iload_n 1, 1) := by decide +kernel
theorem dL_common_80 : decode cL_common 80 = .ok (.iconst 2, 1) := by decide +kernel
theorem dL_common_81 : decode cL_common 81 = .ok (.invokevirtual 31, 3) := by decide +kernel
theorem dL_common_84 : decode cL_common 84 = .ok (.goto 9, 3) := by decide +kernel
theorem dL_common_87 : decode cL_common 87 = .ok (.aload_n 0, 1) := by decide +kernel
theorem dL_common_88 : decode cL_common 88 = .ok (.iload_n 2, 1) := by decide +kernel
theorem dL_common_89 : decode cL_common 89 = .ok (.iconst 2, 1) := by decide +kernel
theorem dL_common_90 : decode cL_common 90 = .ok (.invokevirtual 31, 3) := by decide +kernel
theorem dL_common_93 : decode cL_common 93 = .ok (.istore 5, 2) := by decide +kernel
theorem dL_common_95 : decode cL_common 95 = .ok (.aload_n 0, 1) := by decide +kernel
theorem dL_common_96 : decode cL_common 96 = .ok (.iload_n 1, 1) := by decide +kernel
theorem dL_common_97 : decode cL_common 97 = .ok (.iconst 3, 1) := by decide +kernel
theorem dL_common_98 : decode cL_common 98 = .ok (.invokevirtual 31, 3) := by decide +kernel
theorem dL_common_101 : decode cL_common 101 = .ok (.aload_n 0, 1) := by decide +kernel
theorem dL_common_102 : decode cL_common 102 = .ok (.iload_n 2, 1) := by decide +kernel
theorem dL_common_103 : decode cL_common 103 = .ok (.iconst 3, 1) := by decide +kernel
theorem dL_common_104 : decode cL_common 104 = .ok (.invokevirtual 31, 3) := by decide +kernel
theorem dL_common_107 : decode cL_common 107 = .ok (.if_icmp .ge 12, 3) := by decide +kernel
theorem dL_common_110 : decode cL_common 110 = .ok (.aload_n 0, 1) := by decide +kernel
theorem dL_common_111 : decode cL_common 111 = .ok (.iload_n 1, 1) := by decide +kernel
theorem dL_common_112 : decode cL_common 112 = .ok (.iconst 3, 1) := by decide +kernel
theorem dL_common_113 : decode cL_common 113 = .ok (.invokevirtual 31, 3) := by decide +kernel
theorem dL_common_116 : decode cL_common 116 = .ok (.goto 9, 3) := by decide +kernel
theorem dL_common_119 : decode cL_common 119 = .ok (.aload_n 0, 1) := by decide +kernel
theorem dL_common_120 : decode cL_common 120 = .ok (.iload_n 2, 1) := by decide +kernel
theorem dL_common_121 : decode cL_common 121 = .ok (.iconst 3, 1) := by decide +kernel
theorem dL_common_122 : decode cL_common 122 = .ok (.invokevirtual 31, 3) := by decide +kernel
theorem dL_common_125 : decode cL_common 125 = .ok (.istore 6, 2) := by decide +kernel
theorem dL_common_127 : decode cL_common 127 = .ok (.iload_n 3, 1) := by decide +kernel
theorem dL_common_128 : decode cL_common 128 = .ok (.iload 5, 2) := by decide +kernel
theorem dL_common_130 : decode cL_common 130 = .ok (.if_icmp .gt 27, 3) := by decide +kernel
theorem dL_common_133 : decode cL_common 133 = .ok (.iload 4, 2) := by decide +kernel
theorem dL_common_135 : decode cL_common 135 = .ok (.iload 6, 2) := by decide +kernel
theorem dL_common_137 : decode cL_common 137 = .ok (.if_icmp .gt 20, 3) := by decide +kernel
theorem dL_common_140 : decode cL_common 140 = .ok (.iload 5, 2) := by decide +kernel
theorem dL_common_142 : decode cL_common 142 = .ok (.iload_n 3, 1) := by decide +kernel
theorem dL_common_143 : decode cL_common 143 = .ok (.isub, 1) := by decide +kernel
theorem dL_common_144 : decode cL_common 144 = .ok (.iconst 1, 1) := by decide +kernel
theorem dL_common_145 : decode cL_common 145 = .ok (.iadd, 1) := by decide +kernel
theorem dL_common_146 : decode cL_common 146 = .ok (.iload 6, 2) := by decide +kernel
theorem dL_common_148 : decode cL_common 148 = .ok (.iload 4, 2) := by decide +kernel
theorem dL_common_150 : decode cL_common 150 = .ok (.isub, 1) := by decide +kernel
theorem dL_common_151 : decode cL_common 151 = .ok (.iconst 1, 1) := by decide +kernel
theorem dL_common_152 : decode cL_common 152 = .ok (.iadd, 1) := by decide +kernel
theorem dL_common_153 : decode cL_common 153 = .ok (.imul, 1) := by decide +kernel
theorem dL_common_154 : decode cL_common 154 = .ok (.goto 4, 3) := by decide +kernel
theorem dL_common_157 : decode cL_common 157 = .ok (.iconst 0, 1) := by decide +kernel
theorem dL_common_158 : decode cL_common 158 = .ok (.ireturn, 1) := by decide +kernel
theorem dL_areMeasures_0 : decode cL_areMeasures 0 = .ok (.aload_n 0, 1) := by decide +kernel
theorem dL_areMeasures_1 : decode cL_areMeasures 1 = .ok (.iconst 0, 1) := by decide +kernel
theorem dL_areMeasures_2 : decode cL_areMeasures 2 = .ok (.invokevirtual 16, 3) := by decide +kernel
theorem dL_areMeasures_5 : decode cL_areMeasures 5 = .ok (.ifCond .le 10, 3) := by decide +kernel
theorem dL_areMeasures_8 : decode cL_areMeasures 8 = .ok (.aload_n 0, 1) := by decide +kernel
theorem dL_areMeasures_9 : decode cL_areMeasures 9 = .ok (.invokevirtual 38, 3) := by decide +kernel
theorem dL_areMeasures_12 : decode cL_areMeasures 12 = .ok (.goto 4, 3) := by decide +kernel
theorem dL_areMeasures_15 : decode cL_areMeasures 15 = .ok (.iconst 0, 1) := by decide +kernel
theorem dL_areMeasures_16 : decode cL_areMeasures 16 = .ok (.istore_n 1, 1) := by decide +kernel
theorem dL_areMeasures_17 : decode cL_areMeasures 17 = .ok (.iconst 0, 1) := by decide +kernel
theorem dL_areMeasures_18 : decode cL_areMeasures 18 = .ok (.istore_n 2, 1) := by decide +kernel
theorem dL_areMeasures_19 : decode cL_areMeasures 19 = .ok (.iload_n 2, 1) := by decide +kernel
theorem dL_areMeasures_20 : decode cL_areMeasures 20 = .ok (.aload_n 0, 1) := by decide +kernel
theorem dL_areMeasures_21 : decode cL_areMeasures 21 = .ok (.invokevirtual 46, 3) := by decide +kernel
theorem dL_areMeasures_24 : decode cL_areMeasures 24 = .ok (.if_icmp .gt 130, 3) := by decide +kernel
theorem dL_areMeasures_27 : decode cL_areMeasures 27 = .ok (.iconst 0, 1) := by decide +kernel
theorem dL_areMeasures_28 : decode cL_areMeasures 28 = .ok (.istore_n 3, 1) := by decide +kernel
theorem dL_areMeasures_29 : decode cL_areMeasures 29 = .ok (.iconst 0, 1) := by decide +kernel
theorem dL_areMeasures_30 : decode cL_areMeasures 30 = .ok (.istore 4, 2) := by decide +kernel
theorem dL_areMeasures_32 : decode cL_areMeasures 32 = .ok (.iconst 0, 1) := by decide +kernel
theorem dL_areMeasures_33 : decode cL_areMeasures 33 = .ok (.istore 5, 2) := by decide +kernel
theorem dL_areMeasures_35 : decode cL_areMeasures 35 = .ok (.iload 5, 2) := by decide +kernel
theorem dL_areMeasures_37 : decode cL_areMeasures 37 = .ok (.iload_n 1, 1) := by decide +kernel
theorem dL_areMeasures_38 : decode cL_areMeasures 38 = .ok (.if_icmp .ge 89, 3) := by decide +kernel
theorem dL_areMeasures_41 : decode cL_areMeasures 41 = .ok (.iload_n 3, 1) := by decide +kernel
theorem dL_areMeasures_42 : decode cL_areMeasures 42 = .ok (.aload_n 0, 1) := by decide +kernel
theorem dL_areMeasures_43 : decode cL_areMeasures 43 = .ok (.iload 5, 2) := by decide +kernel
theorem dL_areMeasures_45 : decode cL_areMeasures 45 = .ok (.invokevirtual 10, 3) := by decide +kernel
theorem dL_areMeasures_48 : decode cL_areMeasures 48 = .ok (.iload_n 2, 1) := by decide +kernel
theorem dL_areMeasures_49 : decode cL_areMeasures 49 = .ok (.if_icmp .ne 14, 3) := by decide +kernel
theorem dL_areMeasures_52 : decode cL_areMeasures 52 = .ok (.aload_n 0, 1) := by decide +kernel
theorem dL_areMeasures_53 : decode cL_areMeasures 53 = .ok (.iload 5, 2) := by decide +kernel
theorem dL_areMeasures_55 : decode cL_areMeasures 55 = .ok (.iload 5, 2) := by decide +kernel
theorem dL_areMeasures_57 : decode cL_areMeasures 57 = .ok (.invokestatic 70, 3) := by decide +kernel
theorem dL_areMeasures_60 : decode cL_areMeasures 60 = .ok (.goto 4, 3) := by decide +kernel
theorem dL_areMeasures_63 : decode cL_areMeasures 63 = .ok (.iconst 0, 1) := by decide +kernel
theorem dL_areMeasures_64 : decode cL_areMeasures 64 = .ok (.iadd, 1) := by decide +kernel
theorem dL_areMeasures_65 : decode cL_areMeasures 65 = .ok (.istore_n 3, 1) := by decide +kernel
theorem dL_areMeasures_66 : decode cL_areMeasures 66 = .ok (.iload 5, 2) := by decide +kernel
theorem dL_areMeasures_68 : decode cL_areMeasures 68 = .ok (.iconst 1, 1) := by decide +kernel
theorem dL_areMeasures_69 : decode cL_areMeasures 69 = .ok (.iadd, 1) := by decide +kernel
theorem dL_areMeasures_70 : decode cL_areMeasures 70 = .ok (.istore 6, 2) := by decide +kernel
theorem dL_areMeasures_72 : decode cL_areMeasures 72 = .ok (.iload 6, 2) := by decide +kernel
theorem dL_areMeasures_74 : decode cL_areMeasures 74 = .ok (.iload_n 1, 1) := by decide +kernel
theorem dL_areMeasures_75 : decode cL_areMeasures 75 = .ok (.if_icmp .ge 46, 3) := by decide +kernel
theorem dL_areMeasures_78 : decode cL_areMeasures 78 = .ok (.aload_n 0, 1) := by decide +kernel
theorem dL_areMeasures_79 : decode cL_areMeasures 79 = .ok (.iload 5, 2) := by decide +kernel
theorem dL_areMeasures_81 : decode cL_areMeasures 81 = .ok (.invokevirtual 10, 3) := by decide +kernel
theorem dL_areMeasures_84 : decode cL_areMeasures 84 = .ok (.iload_n 2, 1) := by decide +kernel
theorem dL_areMeasures_85 : decode cL_areMeasures 85 = .ok (.if_icmp .ne 36, 3) := by decide +kernel
theorem dL_areMeasures_88 : decode cL_areMeasures 88 = .ok (.iload 4, 2) := by decide +kernel
theorem dL_areMeasures_90 : decode cL_areMeasures 90 = .ok (.aload_n 0, 1) := by decide +kernel
theorem dL_areMeasures_91 : decode cL_areMeasures 91 = .ok (.iload 6, 2) := by decide +kernel
theorem dL_areMeasures_93 : decode cL_areMeasures 93 = .ok (.invokevirtual 10, 3) := by decide +kernel
theorem dL_areMeasures_96 : decode cL_areMeasures 96 = .ok (.iload_n 2, 1) := by decide +kernel
theorem dL_areMeasures_97 : decode cL_areMeasures 97 = .ok (.if_icmp .ne 14, 3) := by decide +kernel
theorem dL_areMeasures_100 : decode cL_areMeasures 100 = .ok (.aload_n 0, 1) := by decide +kernel
theorem dL_areMeasures_101 : decode cL_areMeasures 101 = .ok (.iload 5, 2) := by decide +kernel
theorem dL_areMeasures_103 : decode cL_areMeasures 103 = .ok (.iload 6, 2) := by decide +kernel
theorem dL_areMeasures_105 : decode cL_areMeasures 105 = .ok (.invokestatic 70, 3) := by decide +kernel
theorem dL_areMeasures_108 : decode cL_areMeasures 108 = .ok (.goto 4, 3) := by decide +kernel
theorem dL_areMeasures_111 : decode cL_areMeasures 111 = .ok (.iconst 0, 1) := by decide +kernel
theorem dL_areMeasures_112 : decode cL_areMeasures 112 = .ok (.iadd, 1) := by decide +kernel
theorem dL_areMeasures_113 : decode cL_areMeasures 113 = .ok (.istore 4, 2) := by decide +kernel
theorem dL_areMeasures_115 : decode cL_areMeasures 115 = .ok (.iinc 6 1, 3) := by decide +kernel
theorem dL_areMeasures_118 : decode cL_areMeasures 118 = .ok (.goto (-46), 3) := by decide +kernel
theorem dL_areMeasures_121 : decode cL_areMeasures 121 = .ok (.iinc 5 1, 3) := by decide +kernel
theorem dL_areMeasures_124 : decode cL_areMeasures 124 = .ok (.goto (-89), 3) := by decide +kernel
theorem dL_areMeasures_127 : decode cL_areMeasures 127 = .ok (.aload_n 0, 1) := by decide +kernel
theorem dL_areMeasures_128 : decode cL_areMeasures 128 = .ok (.iload_n 2, 1) := by decide +kernel
theorem dL_areMeasures_129 : decode cL_areMeasures 129 = .ok (.invokevirtual 74, 3) := by decide +kernel
theorem dL_areMeasures_132 : decode cL_areMeasures 132 = .ok (.iload_n 3, 1) := by decide +kernel
theorem dL_areMeasures_133 : decode cL_areMeasures 133 = .ok (.if_icmp .ne 13, 3) := by decide +kernel
theorem dL_areMeasures_136 : decode cL_areMeasures 136 = .ok (.aload_n 0, 1) := by decide +kernel
theorem dL_areMeasures_137 : decode cL_areMeasures 137 = .ok (.iload_n 2, 1) := by decide +kernel
theorem dL_areMeasures_138 : decode cL_areMeasures 138 = .ok (.invokevirtual 77, 3) := by decide +kernel
theorem dL_areMeasures_141 : decode cL_areMeasures 141 = .ok (.iload 4, 2) := by decide +kernel
theorem dL_areMeasures_143 : decode cL_areMeasures 143 = .ok (.if_icmp .eq 5, 3) := by decide +kernel
theorem dL_areMeasures_146 : decode cL_areMeasures 146 = .ok (.iconst 0, 1) := by decide +kernel
theorem dL_areMeasures_147 : decode cL_areMeasures 147 = .ok (.ireturn, 1) := by decide +kernel
theorem dL_areMeasures_148 : decode cL_areMeasures 148 = .ok (.iinc 2 1, 3) := by decide +kernel
theorem dL_areMeasures_151 : decode cL_areMeasures 151 = .ok (.goto (-132), 3) := by decide +kernel
theorem dL_areMeasures_154 : decode cL_areMeasures 154 = .ok (.aload_n 0, 1) := by decide +kernel
theorem dL_areMeasures_155 : decode cL_areMeasures 155 = .ok (.iconst (-1), 1) := by decide +kernel
theorem dL_areMeasures_156 : decode cL_areMeasures 156 = .ok (.invokevirtual 74, 3) := by decide +kernel
theorem dL_areMeasures_159 : decode cL_areMeasures 159 = .ok (.iconst (-1), 1) := by decide +kernel
theorem dL_areMeasures_160 : decode cL_areMeasures 160 = .ok (.if_icmp .ne 35, 3) := by decide +kernel
theorem dL_areMeasures_163 : decode cL_areMeasures 163 = .ok (.aload_n 0, 1) := by decide +kernel
theorem dL_areMeasures_164 : decode cL_areMeasures 164 = .ok (.aload_n 0, 1) := by decide +kernel
theorem dL_areMeasures_165 : decode cL_areMeasures 165 = .ok (.invokevirtual 46, 3) := by decide +kernel
theorem dL_areMeasures_168 : decode cL_areMeasures 168 = .ok (.iconst 1, 1) := by decide +kernel
theorem dL_areMeasures_169 : decode cL_areMeasures 169 = .ok (.iadd, 1) := by decide +kernel
theorem dL_areMeasures_170 : decode cL_areMeasures 170 = .ok (.invokevirtual 77, 3) := by decide +kernel
theorem dL_areMeasures_173 : decode cL_areMeasures 173 = .ok (.iconst (-1), 1) := by decide +kernel
theorem dL_areMeasures_174 : decode cL_areMeasures 174 = .ok (.if_icmp .ne 21, 3) := by decide +kernel
theorem dL_areMeasures_177 : decode cL_areMeasures 177 = .ok (.aload_n 0, 1) := by decide +kernel
theorem dL_areMeasures_178 : decode cL_areMeasures 178 = .ok (.aload_n 0, 1) := by decide +kernel
theorem dL_areMeasures_179 : decode cL_areMeasures 179 = .ok (.invokevirtual 46, 3) := by decide +kernel
theorem dL_areMeasures_182 : decode cL_areMeasures 182 = .ok (.iconst 1, 1) := by decide +kernel
theorem dL_areMeasures_183 : decode cL_areMeasures 183 = .ok (.iadd, 1) := by decide +kernel
theorem dL_areMeasures_184 : decode cL_areMeasures 184 = .ok (.invokevirtual 74, 3) := by decide +kernel
theorem dL_areMeasures_187 : decode cL_areMeasures 187 = .ok (.iconst (-1), 1) := by decide +kernel
theorem dL_areMeasures_188 : decode cL_areMeasures 188 = .ok (.if_icmp .ne 7, 3) := by decide +kernel
theorem dL_areMeasures_191 : decode cL_areMeasures 191 = .ok (.iconst 1, 1) := by decide +kernel
theorem dL_areMeasures_192 : decode cL_areMeasures 192 = .ok (.goto 4, 3) := by decide +kernel
theorem dL_areMeasures_195 : decode cL_areMeasures 195 = .ok (.iconst 0, 1) := by decide +kernel
theorem dL_areMeasures_196 : decode cL_areMeasures 196 = .ok (.ireturn, 1) := by decide +kernel
theorem dL_areFound_0 : decode cL_areFound 0 = .ok (.iload_n 2, 1) := by decide +kernel
theorem dL_areFound_1 : decode cL_areFound 1 = .ok (.iconst 0, 1) := by decide +kernel
theorem dL_areFound_2 : decode cL_areFound 2 = .ok (.invokestatic 26, 3) := by decide +kernel
theorem dL_areFound_5 : decode cL_areFound 5 = .ok (.istore_n 3, 1) := by decide +kernel
theorem dL_areFound_6 : decode cL_areFound 6 = .ok (.iload_n 2, 1) := by decide +kernel
theorem dL_areFound_7 : decode cL_areFound 7 = .ok (.iconst 1, 1) := by decide +kernel
theorem dL_areFound_8 : decode cL_areFound 8 = .ok (.invokestatic 26, 3) := by decide +kernel
theorem dL_areFound_11 : decode cL_areFound 11 = .ok (.istore 4, 2) := by decide +kernel
theorem dL_areFound_13 : decode cL_areFound 13 = .ok (.iload_n 2, 1) := by decide +kernel
theorem dL_areFound_14 : decode cL_areFound 14 = .ok (.iconst 2, 1) := by decide +kernel
theorem dL_areFound_15 : decode cL_areFound 15 = .ok (.invokestatic 26, 3) := by decide +kernel
theorem dL_areFound_18 : decode cL_areFound 18 = .ok (.istore 5, 2) := by decide +kernel
theorem dL_areFound_20 : decode cL_areFound 20 = .ok (.iload_n 2, 1) := by decide +kernel
theorem dL_areFound_21 : decode cL_areFound 21 = .ok (.iconst 3, 1) := by decide +kernel
theorem dL_areFound_22 : decode cL_areFound 22 = .ok (.invokestatic 26, 3) := by decide +kernel
theorem dL_areFound_25 : decode cL_areFound 25 = .ok (.istore 6, 2) := by decide +kernel
theorem dL_areFound_27 : decode cL_areFound 27 = .ok (.iconst 0, 1) := by decide +kernel
theorem dL_areFound_28 : decode cL_areFound 28 = .ok (.istore 7, 2) := by decide +kernel
theorem dL_areFound_30 : decode cL_areFound 30 = .ok (.iconst 0, 1) := by decide +kernel
theorem dL_areFound_31 : decode cL_areFound 31 = .ok (.istore 8, 2) := by decide +kernel
theorem dL_areFound_33 : decode cL_areFound 33 = .ok (.bipush (-5), 2) := by decide +kernel
theorem dL_areFound_35 : decode cL_areFound 35 = .ok (.istore 9, 2) := by decide +kernel
theorem dL_areFound_37 : decode cL_areFound 37 = .ok (.iconst 0, 1) := by decide +kernel
theorem dL_areFound_38 : decode cL_areFound 38 = .ok (.istore 10, 2) := by decide +kernel
theorem dL_areFound_40 : decode cL_areFound 40 = .ok (.iconst 0, 1) := by decide +kernel
theorem dL_areFound_41 : decode cL_areFound 41 = .ok (.istore 11, 2) := by decide +kernel
theorem dL_areFound_43 : decode cL_areFound 43 = .ok (.iload 11, 2) := by decide +kernel
theorem dL_areFound_45 : decode cL_areFound 45 = .ok (.bipush 24, 2) := by decide +kernel
theorem dL_areFound_47 : decode cL_areFound 47 = .ok (.if_icmp .ge 250, 3) := by decide +kernel
theorem dL_areFound_50 : decode cL_areFound 50 = .ok (.aload_n 1, 1) := by decide +kernel
theorem dL_areFound_51 : decode cL_areFound 51 = .ok (.iload 11, 2) := by decide +kernel
theorem dL_areFound_53 : decode cL_areFound 53 = .ok (.iaload, 1) := by decide +kernel
theorem dL_areFound_54 : decode cL_areFound 54 = .ok (.iconst 0, 1) := by decide +kernel
theorem dL_areFound_55 : decode cL_areFound 55 = .ok (.invokestatic 26, 3) := by decide +kernel
theorem dL_areFound_58 : decode cL_areFound 58 = .ok (.istore 12, 2) := by decide +kernel
theorem dL_areFound_60 : decode cL_areFound 60 = .ok (.aload_n 1, 1) := by decide +kernel
theorem dL_areFound_61 : decode cL_areFound 61 = .ok (.iload 11, 2) := by decide +kernel
theorem dL_areFound_63 : decode cL_areFound 63 = .ok (.iaload, 1) := by decide +kernel
theorem dL_areFound_64 : decode cL_areFound 64 = .ok (.iconst 1, 1) := by decide +kernel
theorem dL_areFound_65 : decode cL_areFound 65 = .ok (.invokestatic 26, 3) := by decide +kernel
theorem dL_areFound_68 : decode cL_areFound 68 = .ok (.istore 13, 2) := by decide +kernel
theorem dL_areFound_70 : decode cL_areFound 70 = .ok (.aload_n 1, 1) := by decide +kernel
theorem dL_areFound_71 : decode cL_areFound 71 = .ok (.iload 11, 2) := by decide +kernel
theorem dL_areFound_73 : decode cL_areFound 73 = .ok (.iaload, 1) := by decide +kernel
theorem dL_areFound_74 : decode cL_areFound 74 = .ok (.iconst 2, 1) := by decide +kernel
theorem dL_areFound_75 : decode cL_areFound 75 = .ok (.invokestatic 26, 3) := by decide +kernel
theorem dL_areFound_78 : decode cL_areFound 78 = .ok (.istore 14, 2) := by decide +kernel
theorem dL_areFound_80 : decode cL_areFound 80 = .ok (.aload_n 1, 1) := by decide +kernel
theorem dL_areFound_81 : decode cL_areFound 81 = .ok (.iload 11, 2) := by decide +kernel
theorem dL_areFound_83 : decode cL_areFound 83 = .ok (.iaload, 1) := by decide +kernel
theorem dL_areFound_84 : decode cL_areFound 84 = .ok (.iconst 3, 1) := by decide +kernel
theorem dL_areFound_85 : decode cL_areFound 85 = .ok (.invokestatic 26, 3) := by decide +kernel
theorem dL_areFound_88 : decode cL_areFound 88 = .ok (.istore 15, 2) := by decide +kernel
theorem dL_areFound_90 : decode cL_areFound 90 = .ok (.iload_n 3, 1) := by decide +kernel
theorem dL_areFound_91 : decode cL_areFound 91 = .ok (.iload 12, 2) := by decide +kernel
theorem dL_areFound_93 : decode cL_areFound 93 = .ok (.if_icmp .ge 10, 3) := by decide +kernel
theorem dL_areFound_96 : decode cL_areFound 96 = .ok (.iload 12, 2) := by decide +kernel
theorem dL_areFound_98 : decode cL_areFound 98 = .ok (.iload_n 3, 1) := by decide +kernel
theorem dL_areFound_99 : decode cL_areFound 99 = .ok (.isub, 1) := by decide +kernel
theorem dL_areFound_100 : decode cL_areFound 100 = .ok (.goto 17, 3) := by decide +kernel
theorem dL_areFound_103 : decode cL_areFound 103 = .ok (.iload_n 3, 1) := by decide +kernel
theorem dL_areFound_104 : decode cL_areFound 104 = .ok (.iload 14, 2) := by decide +kernel
theorem dL_areFound_106 : decode cL_areFound 106 = .ok (.if_icmp .le 10, 3) := by decide +kernel
theorem dL_areFound_109 : decode cL_areFound 109 = .ok (.iload_n 3, 1) := by decide +kernel
theorem dL_areFound_110 : decode cL_areFound 110 = .ok (.iload 14, 2) := by decide +kernel
theorem dL_areFound_112 : decode cL_areFound 112 = .ok (.isub, 1) := by decide +kernel
theorem dL_areFound_113 : decode cL_areFound 113 = .ok (.goto 4, 3) := by decide +kernel
theorem dL_areFound_116 : decode cL_areFound 116 = .ok (.iconst 0, 1) := by decide +kernel
theorem dL_areFound_117 : decode cL_areFound 117 = .ok (.istore 16, 2) := by decide +kernel
theorem dL_areFound_119 : decode cL_areFound 119 = .ok (.iload 4, 2) := by decide +kernel
theorem dL_areFound_121 : decode cL_areFound 121 = .ok (.iload 13, 2) := by decide +kernel
theorem dL_areFound_123 : decode cL_areFound 123 = .ok (.if_icmp .ge 11, 3) := by decide +kernel
theorem dL_areFound_126 : decode cL_areFound 126 = .ok (.iload 13, 2) := by decide +kernel
theorem dL_areFound_128 : decode cL_areFound 128 = .ok (.iload 4, 2) := by decide +kernel
theorem dL_areFound_130 : decode cL_areFound 130 = .ok (.isub, 1) := by decide +kernel
theorem dL_areFound_131 : decode cL_areFound 131 = .ok (.goto 19, 3) := by decide +kernel
theorem dL_areFound_134 : decode cL_areFound 134 = .ok (.iload 4, 2) := by decide +kernel
theorem dL_areFound_136 : decode cL_areFound 136 = .ok (.iload 15, 2) := by decide +kernel
theorem dL_areFound_138 : decode cL_areFound 138 = .ok (.if_icmp .le 11, 3) := by decide +kernel
theorem dL_areFound_141 : decode cL_areFound 141 = .ok (.iload 4, 2) := by decide +kernel
theorem dL_areFound_143 : decode cL_areFound 143 = .ok (.iload 15, 2) := by decide +kernel
theorem dL_areFound_145 : decode cL_areFound 145 = .ok (.isub, 1) := by decide +kernel
theorem dL_areFound_146 : decode cL_areFound 146 = .ok (.goto 4, 3) := by decide +kernel
theorem dL_areFound_149 : decode cL_areFound 149 = .ok (.iconst 0, 1) := by decide +kernel
theorem dL_areFound_150 : decode cL_areFound 150 = .ok (.istore 17, 2) := by decide +kernel
theorem dL_areFound_152 : decode cL_areFound 152 = .ok (.aload_n 1, 1) := by decide +kernel
theorem dL_areFound_153 : decode cL_areFound 153 = .ok (.iload 11, 2) := by decide +kernel
theorem dL_areFound_155 : decode cL_areFound 155 = .ok (.iaload, 1) := by decide +kernel
theorem dL_areFound_156 : decode cL_areFound 156 = .ok (.ifCond .lt 135, 3) := by decide +kernel
theorem dL_areFound_159 : decode cL_areFound 159 = .ok (.iload 7, 2) := by decide +kernel
theorem dL_areFound_161 : decode cL_areFound 161 = .ok (.iload 12, 2) := by decide +kernel
theorem dL_areFound_163 : decode cL_areFound 163 = .ok (.iload 5, 2) := by decide +kernel
theorem dL_areFound_165 : decode cL_areFound 165 = .ok (.if_icmp .gt 27, 3) := by decide +kernel
theorem dL_areFound_168 : decode cL_areFound 168 = .ok (.iload 14, 2) := by decide +kernel
theorem dL_areFound_170 : decode cL_areFound 170 = .ok (.iload_n 3, 1) := by decide +kernel
theorem dL_areFound_171 : decode cL_areFound 171 = .ok (.if_icmp .lt 21, 3) := by decide +kernel
theorem dL_areFound_174 : decode cL_areFound 174 = .ok (.iload 13, 2) := by decide +kernel
theorem dL_areFound_176 : decode cL_areFound 176 = .ok (.iload 6, 2) := by decide +kernel
theorem dL_areFound_178 : decode cL_areFound 178 = .ok (.if_icmp .gt 14, 3) := by decide +kernel
theorem dL_areFound_181 : decode cL_areFound 181 = .ok (.iload 15, 2) := by decide +kernel
theorem dL_areFound_183 : decode cL_areFound 183 = .ok (.iload 4, 2) := by decide +kernel
theorem dL_areFound_185 : decode cL_areFound 185 = .ok (.if_icmp .lt 7, 3) := by decide +kernel
theorem dL_areFound_188 : decode cL_areFound 188 = .ok (.iconst 1, 1) := by decide +kernel
theorem dL_areFound_189 : decode cL_areFound 189 = .ok (.goto 4, 3) := by decide +kernel
theorem dL_areFound_192 : decode cL_areFound 192 = .ok (.iconst 0, 1) := by decide +kernel
theorem dL_areFound_193 : decode cL_areFound 193 = .ok (.iadd, 1) := by decide +kernel
theorem dL_areFound_194 : decode cL_areFound 194 = .ok (.istore 7, 2) := by decide +kernel
theorem dL_areFound_196 : decode cL_areFound 196 = .ok (.iload 8, 2) := by decide +kernel
theorem dL_areFound_198 : decode cL_areFound 198 = .ok (.iload 12, 2) := by decide +kernel
theorem dL_areFound_200 : decode cL_areFound 200 = .ok (.iload_n 3, 1) := by decide +kernel
theorem dL_areFound_201 : decode cL_areFound 201 = .ok (.if_icmp .lt 31, 3) := by decide +kernel
theorem dL_areFound_204 : decode cL_areFound 204 = .ok (.iload 14, 2) := by decide +kernel
theorem dL_areFound_206 : decode cL_areFound 206 = .ok (.iload 5, 2) := by decide +kernel
theorem dL_areFound_208 : decode cL_areFound 208 = .ok (.if_icmp .gt 24, 3) := by decide +kernel
theorem dL_areFound_211 : decode cL_areFound 211 = .ok (.iload 13, 2) := by decide +kernel
theorem dL_areFound_213 : decode cL_areFound 213 = .ok (.iload 4, 2) := by decide +kernel
theorem dL_areFound_215 : decode cL_areFound 215 = .ok (.if_icmp .lt 17, 3) := by decide +kernel
theorem dL_areFound_218 : decode cL_areFound 218 = .ok (.iload 15, 2) := by decide +kernel
theorem dL_areFound_220 : decode cL_areFound 220 = .ok (.iload 6, 2) := by decide +kernel
theorem dL_areFound_222 : decode cL_areFound 222 = .ok (.if_icmp .gt 10, 3) := by decide +kernel
theorem dL_areFound_225 : decode cL_areFound 225 = .ok (.iconst 1, 1) := by decide +kernel
theorem dL_areFound_226 : decode cL_areFound 226 = .ok (.iload 11, 2) := by decide +kernel
theorem dL_areFound_228 : decode cL_areFound 228 = .ok (.ishl, 1) := by decide +kernel
theorem dL_areFound_229 : decode cL_areFound 229 = .ok (.goto 4, 3) := by decide +kernel
theorem dL_areFound_232 : decode cL_areFound 232 = .ok (.iconst 0, 1) := by decide +kernel
theorem dL_areFound_233 : decode cL_areFound 233 = .ok (.ior, 1) := by decide +kernel
theorem dL_areFound_234 : decode cL_areFound 234 = .ok (.istore 8, 2) := by decide +kernel
theorem dL_areFound_236 : decode cL_areFound 236 = .ok (.iload 9, 2) := by decide +kernel
theorem dL_areFound_238 : decode cL_areFound 238 = .ok (.ifCond .lt 19, 3) := by decide +kernel
theorem dL_areFound_241 : decode cL_areFound 241 = .ok (.iload 16, 2) := by decide +kernel
theorem dL_areFound_243 : decode cL_areFound 243 = .ok (.iload 16, 2) := by decide +kernel
theorem dL_areFound_245 : decode cL_areFound 245 = .ok (.imul, 1) := by decide +kernel
theorem dL_areFound_246 : decode cL_areFound 246 = .ok (.iload 17, 2) := by decide +kernel
theorem dL_areFound_248 : decode cL_areFound 248 = .ok (.iload 17, 2) := by decide +kernel
theorem dL_areFound_250 : decode cL_areFound 250 = .ok (.imul, 1) := by decide +kernel
theorem dL_areFound_251 : decode cL_areFound 251 = .ok (.iadd, 1) := by decide +kernel
theorem dL_areFound_252 : decode cL_areFound 252 = .ok (.iload 10, 2) := by decide +kernel
theorem dL_areFound_254 : decode cL_areFound 254 = .ok (.if_icmp .ge 8, 3) := by decide +kernel
theorem dL_areFound_257 : decode cL_areFound 257 = .ok (.iload 11, 2) := by decide +kernel
theorem dL_areFound_259 : decode cL_areFound 259 = .ok (.goto 5, 3) := by decide +kernel
theorem dL_areFound_262 : decode cL_areFound 262 = .ok (.iload 9, 2) := by decide +kernel
theorem dL_areFound_264 : decode cL_areFound 264 = .ok (.istore 9, 2) := by decide +kernel
theorem dL_areFound_266 : decode cL_areFound 266 = .ok (.iload 9, 2) := by decide +kernel
theorem dL_areFound_268 : decode cL_areFound 268 = .ok (.iload 11, 2) := by decide +kernel
theorem dL_areFound_270 : decode cL_areFound 270 = .ok (.if_icmp .ne 17, 3) := by decide +kernel
theorem dL_areFound_273 : decode cL_areFound 273 = .ok (.iload 16, 2) := by decide +kernel
theorem dL_areFound_275 : decode cL_areFound 275 = .ok (.iload 16, 2) := by decide +kernel
theorem dL_areFound_277 : decode cL_areFound 277 = .ok (.imul, 1) := by decide +kernel
theorem dL_areFound_278 : decode cL_areFound 278 = .ok (.iload 17, 2) := by decide +kernel
theorem dL_areFound_280 : decode cL_areFound 280 = .ok (.iload 17, 2) := by decide +kernel
theorem dL_areFound_282 : decode cL_areFound 282 = .ok (.imul, 1) := by decide +kernel
theorem dL_areFound_283 : decode cL_areFound 283 = .ok (.iadd, 1) := by decide +kernel
theorem dL_areFound_284 : decode cL_areFound 284 = .ok (.goto 5, 3) := by decide +kernel
theorem dL_areFound_287 : decode cL_areFound 287 = .ok (.iload 10, 2) := by decide +kernel
theorem dL_areFound_289 : decode cL_areFound 289 = .ok (.istore 10, 2) := by decide +kernel
theorem dL_areFound_291 : decode cL_areFound 291 = .ok (.iinc 11 1, 3) := by decide +kernel
theorem dL_areFound_294 : decode cL_areFound 294 = .ok (.goto (-251), 3) := by decide +kernel
theorem dL_areFound_297 : decode cL_areFound 297 = .ok (.iconst 1, 1) := by decide +kernel
theorem dL_areFound_298 : decode cL_areFound 298 = .ok (.istore 11, 2) := by decide +kernel
theorem dL_areFound_300 : decode cL_areFound 300 = .ok (.iconst 1, 1) := by decide +kernel
theorem dL_areFound_301 : decode cL_areFound 301 = .ok (.istore 12, 2) := by decide +kernel
theorem dL_areFound_303 : decode cL_areFound 303 = .ok (.iload 12, 2) := by decide +kernel
theorem dL_areFound_305 : decode cL_areFound 305 = .ok (.aload_n 0, 1) := by decide +kernel
theorem dL_areFound_306 : decode cL_areFound 306 = .ok (.invokevirtual 38, 3) := by decide +kernel
theorem dL_areFound_309 : decode cL_areFound 309 = .ok (.if_icmp .ge 66, 3) := by decide +kernel
theorem dL_areFound_312 : decode cL_areFound 312 = .ok (.iload 11, 2) := by decide +kernel
theorem dL_areFound_314 : decode cL_areFound 314 = .ok (.aload_n 0, 1) := by decide +kernel
theorem dL_areFound_315 : decode cL_areFound 315 = .ok (.iload 12, 2) := by decide +kernel
theorem dL_areFound_317 : decode cL_areFound 317 = .ok (.iconst 0, 1) := by decide +kernel
theorem dL_areFound_318 : decode cL_areFound 318 = .ok (.invokevirtual 31, 3) := by decide +kernel
theorem dL_areFound_321 : decode cL_areFound 321 = .ok (.iload 5, 2) := by decide +kernel
theorem dL_areFound_323 : decode cL_areFound 323 = .ok (.if_icmp .gt 42, 3) := by decide +kernel
theorem dL_areFound_326 : decode cL_areFound 326 = .ok (.aload_n 0, 1) := by decide +kernel
theorem dL_areFound_327 : decode cL_areFound 327 = .ok (.iload 12, 2) := by decide +kernel
theorem dL_areFound_329 : decode cL_areFound 329 = .ok (.iconst 2, 1) := by decide +kernel
theorem dL_areFound_330 : decode cL_areFound 330 = .ok (.invokevirtual 31, 3) := by decide +kernel
theorem dL_areFound_333 : decode cL_areFound 333 = .ok (.iload_n 3, 1) := by decide +kernel
theorem dL_areFound_334 : decode cL_areFound 334 = .ok (.if_icmp .lt 31, 3) := by decide +kernel
theorem dL_areFound_337 : decode cL_areFound 337 = .ok (.aload_n 0, 1) := by decide +kernel
theorem dL_areFound_338 : decode cL_areFound 338 = .ok (.iload 12, 2) := by decide +kernel
theorem dL_areFound_340 : decode cL_areFound 340 = .ok (.iconst 1, 1) := by decide +kernel
theorem dL_areFound_341 : decode cL_areFound 341 = .ok (.invokevirtual 31, 3) := by decide +kernel
theorem dL_areFound_344 : decode cL_areFound 344 = .ok (.iload 6, 2) := by decide +kernel
theorem dL_areFound_346 : decode cL_areFound 346 = .ok (.if_icmp .gt 19, 3) := by decide +kernel
theorem dL_areFound_349 : decode cL_areFound 349 = .ok (.aload_n 0, 1) := by decide +kernel
theorem dL_areFound_350 : decode cL_areFound 350 = .ok (.iload 12, 2) := by decide +kernel
theorem dL_areFound_352 : decode cL_areFound 352 = .ok (.iconst 3, 1) := by decide +kernel
theorem dL_areFound_353 : decode cL_areFound 353 = .ok (.invokevirtual 31, 3) := by decide +kernel
theorem dL_areFound_356 : decode cL_areFound 356 = .ok (.iload 4, 2) := by decide +kernel
theorem dL_areFound_358 : decode cL_areFound 358 = .ok (.if_icmp .lt 7, 3) := by decide +kernel
theorem dL_areFound_361 : decode cL_areFound 361 = .ok (.iconst 1, 1) := by decide +kernel
theorem dL_areFound_362 : decode cL_areFound 362 = .ok (.goto 4, 3) := by decide +kernel
theorem dL_areFound_365 : decode cL_areFound 365 = .ok (.iconst 0, 1) := by decide +kernel
theorem dL_areFound_366 : decode cL_areFound 366 = .ok (.iadd, 1) := by decide +kernel
theorem dL_areFound_367 : decode cL_areFound 367 = .ok (.istore 11, 2) := by decide +kernel
theorem dL_areFound_369 : decode cL_areFound 369 = .ok (.iinc 12 1, 3) := by decide +kernel
theorem dL_areFound_372 : decode cL_areFound 372 = .ok (.goto (-69), 3) := by decide +kernel
theorem dL_areFound_375 : decode cL_areFound 375 = .ok (.aload_n 0, 1) := by decide +kernel
theorem dL_areFound_376 : decode cL_areFound 376 = .ok (.iload_n 3, 1) := by decide +kernel
theorem dL_areFound_377 : decode cL_areFound 377 = .ok (.iload 4, 2) := by decide +kernel
theorem dL_areFound_379 : decode cL_areFound 379 = .ok (.iload 5, 2) := by decide +kernel
theorem dL_areFound_381 : decode cL_areFound 381 = .ok (.iload 6, 2) := by decide +kernel
theorem dL_areFound_383 : decode cL_areFound 383 = .ok (.invokevirtual 80, 3) := by decide +kernel
theorem dL_areFound_386 : decode cL_areFound 386 = .ok (.iload 7, 2) := by decide +kernel
theorem dL_areFound_388 : decode cL_areFound 388 = .ok (.if_icmp .ne 51, 3) := by decide +kernel
theorem dL_areFound_391 : decode cL_areFound 391 = .ok (.aload_n 0, 1) := by decide +kernel
theorem dL_areFound_392 : decode cL_areFound 392 = .ok (.iload_n 3, 1) := by decide +kernel
theorem dL_areFound_393 : decode cL_areFound 393 = .ok (.iload 4, 2) := by decide +kernel
theorem dL_areFound_395 : decode cL_areFound 395 = .ok (.iload 5, 2) := by decide +kernel
theorem dL_areFound_397 : decode cL_areFound 397 = .ok (.iload 6, 2) := by decide +kernel
theorem dL_areFound_399 : decode cL_areFound 399 = .ok (.invokevirtual 84, 3) := by decide +kernel
theorem dL_areFound_402 : decode cL_areFound 402 = .ok (.iload 8, 2) := by decide +kernel
theorem dL_areFound_404 : decode cL_areFound 404 = .ok (.if_icmp .ne 35, 3) := by decide +kernel
theorem dL_areFound_407 : decode cL_areFound 407 = .ok (.aload_n 0, 1) := by decide +kernel
theorem dL_areFound_408 : decode cL_areFound 408 = .ok (.iload_n 3, 1) := by decide +kernel
theorem dL_areFound_409 : decode cL_areFound 409 = .ok (.iload 4, 2) := by decide +kernel
theorem dL_areFound_411 : decode cL_areFound 411 = .ok (.iload 5, 2) := by decide +kernel
theorem dL_areFound_413 : decode cL_areFound 413 = .ok (.iload 6, 2) := by decide +kernel
theorem dL_areFound_415 : decode cL_areFound 415 = .ok (.invokevirtual 87, 3) := by decide +kernel
theorem dL_areFound_418 : decode cL_areFound 418 = .ok (.iload 11, 2) := by decide +kernel
theorem dL_areFound_420 : decode cL_areFound 420 = .ok (.if_icmp .ne 19, 3) := by decide +kernel
theorem dL_areFound_423 : decode cL_areFound 423 = .ok (.aload_n 0, 1) := by decide +kernel
theorem dL_areFound_424 : decode cL_areFound 424 = .ok (.iload_n 3, 1) := by decide +kernel
theorem dL_areFound_425 : decode cL_areFound 425 = .ok (.iload 4, 2) := by decide +kernel
theorem dL_areFound_427 : decode cL_areFound 427 = .ok (.invokevirtual 90, 3) := by decide +kernel
theorem dL_areFound_430 : decode cL_areFound 430 = .ok (.iload 9, 2) := by decide +kernel
theorem dL_areFound_432 : decode cL_areFound 432 = .ok (.if_icmp .ne 7, 3) := by decide +kernel
theorem dL_areFound_435 : decode cL_areFound 435 = .ok (.iconst 1, 1) := by decide +kernel
theorem dL_areFound_436 : decode cL_areFound 436 = .ok (.goto 4, 3) := by decide +kernel
theorem dL_areFound_439 : decode cL_areFound 439 = .ok (.iconst 0, 1) := by decide +kernel
theorem dL_areFound_440 : decode cL_areFound 440 = .ok (.ireturn, 1) := by decide +kernel
theorem dL_corners_0 : decode cL_corners 0 = .ok (.iload_n 0, 1) := by decide +kernel
theorem dL_corners_1 : decode cL_corners 1 = .ok (.bipush 88, 2) := by decide +kernel
theorem dL_corners_3 : decode cL_corners 3 = .ok (.irem, 1) := by decide +kernel
theorem dL_corners_4 : decode cL_corners 4 = .ok (.istore_n 1, 1) := by decide +kernel
theorem dL_corners_5 : decode cL_corners 5 = .ok (.iload_n 0, 1) := by decide +kernel
theorem dL_corners_6 : decode cL_corners 6 = .ok (.bipush 88, 2) := by decide +kernel
theorem dL_corners_8 : decode cL_corners 8 = .ok (.idiv, 1) := by decide +kernel
theorem dL_corners_9 : decode cL_corners 9 = .ok (.bipush 88, 2) := by decide +kernel
theorem dL_corners_11 : decode cL_corners 11 = .ok (.irem, 1) := by decide +kernel
theorem dL_corners_12 : decode cL_corners 12 = .ok (.istore_n 2, 1) := by decide +kernel
theorem dL_corners_13 : decode cL_corners 13 = .ok (.iload_n 1, 1) := by decide +kernel
theorem dL_corners_14 : decode cL_corners 14 = .ok (.bipush 100, 2) := by decide +kernel
theorem dL_corners_16 : decode cL_corners 16 = .ok (.iload_n 2, 1) := by decide +kernel
theorem dL_corners_17 : decode cL_corners 17 = .ok (.imul, 1) := by decide +kernel
theorem dL_corners_18 : decode cL_corners 18 = .ok (.iadd, 1) := by decide +kernel
theorem dL_corners_19 : decode cL_corners 19 = .ok (.sipush 10000, 3) := by decide +kernel
theorem dL_corners_22 : decode cL_corners 22 = .ok (.iload_n 1, 1) := by decide +kernel
theorem dL_corners_23 : decode cL_corners 23 = .ok (.iload_n 0, 1) := by decide +kernel
theorem dL_corners_24 : decode cL_corners 24 = .ok (.sipush 7744, 3) := by decide +kernel
theorem dL_corners_27 : decode cL_corners 27 = .ok (.idiv, 1) := by decide +kernel
theorem dL_corners_28 : decode cL_corners 28 = .ok (.bipush 12, 2) := by decide +kernel
theorem dL_corners_30 : decode cL_corners 30 = .ok (.irem, 1) := by decide +kernel
theorem dL_corners_31 : decode cL_corners 31 = .ok (.iadd, 1) := by decide +kernel
theorem dL_corners_32 : decode cL_corners 32 = .ok (.imul, 1) := by decide +kernel
theorem dL_corners_33 : decode cL_corners 33 = .ok (.iadd, 1) := by decide +kernel
theorem dL_corners_34 : decode cL_corners 34 = .ok (.ldc 9, 2) := by decide +kernel
theorem dL_corners_36 : decode cL_corners 36 = .ok (.iload_n 2, 1) := by decide +kernel
theorem dL_corners_37 : decode cL_corners 37 = .ok (.iload_n 0, 1) := by decide +kernel
theorem dL_corners_38 : decode cL_corners 38 = .ok (.ldc 93, 2) := by decide +kernel
theorem dL_corners_40 : decode cL_corners 40 = .ok (.idiv, 1) := by decide +kernel
theorem dL_corners_41 : decode cL_corners 41 = .ok (.bipush 12, 2) := by decide +kernel
theorem dL_corners_43 : decode cL_corners 43 = .ok (.irem, 1) := by decide +kernel
theorem dL_corners_44 : decode cL_corners 44 = .ok (.iadd, 1) := by decide +kernel
theorem dL_corners_45 : decode cL_corners 45 = .ok (.imul, 1) := by decide +kernel
theorem dL_corners_46 : decode cL_corners 46 = .ok (.iadd, 1) := by decide +kernel
theorem dL_corners_47 : decode cL_corners 47 = .ok (.ireturn, 1) := by decide +kernel
theorem dL_isInserted_0 : decode cL_isInserted 0 = .ok (.iconst 0, 1) := by decide +kernel
theorem dL_isInserted_1 : decode cL_isInserted 1 = .ok (.istore_n 3, 1) := by decide +kernel
theorem dL_isInserted_2 : decode cL_isInserted 2 = .ok (.iload_n 3, 1) := by decide +kernel
theorem dL_isInserted_3 : decode cL_isInserted 3 = .ok (.bipush 24, 2) := by decide +kernel
theorem dL_isInserted_5 : decode cL_isInserted 5 = .ok (.if_icmp .ge 15, 3) := by decide +kernel
theorem dL_isInserted_8 : decode cL_isInserted 8 = .ok (.aload_n 1, 1) := by decide +kernel
theorem dL_isInserted_9 : decode cL_isInserted 9 = .ok (.iload_n 3, 1) := by decide +kernel
theorem dL_isInserted_10 : decode cL_isInserted 10 = .ok (.iaload, 1) := by decide +kernel
theorem dL_isInserted_11 : decode cL_isInserted 11 = .ok (.ifCond .lt 9, 3) := by decide +kernel
theorem dL_isInserted_14 : decode cL_isInserted 14 = .ok (.iinc 3 1, 3) := by decide +kernel
theorem dL_isInserted_17 : decode cL_isInserted 17 = .ok (.goto (-15), 3) := by decide +kernel
theorem dL_isInserted_20 : decode cL_isInserted 20 = .ok (.iload_n 3, 1) := by decide +kernel
theorem dL_isInserted_21 : decode cL_isInserted 21 = .ok (.bipush 24, 2) := by decide +kernel
theorem dL_isInserted_23 : decode cL_isInserted 23 = .ok (.if_icmp .ge 7, 3) := by decide +kernel
theorem dL_isInserted_26 : decode cL_isInserted 26 = .ok (.aload_n 1, 1) := by decide +kernel
theorem dL_isInserted_27 : decode cL_isInserted 27 = .ok (.iload_n 3, 1) := by decide +kernel
theorem dL_isInserted_28 : decode cL_isInserted 28 = .ok (.iload_n 2, 1) := by decide +kernel
theorem dL_isInserted_29 : decode cL_isInserted 29 = .ok (.iastore, 1) := by decide +kernel
theorem dL_isInserted_30 : decode cL_isInserted 30 = .ok (.aload_n 0, 1) := by decide +kernel
theorem dL_isInserted_31 : decode cL_isInserted 31 = .ok (.iload_n 2, 1) := by decide +kernel
theorem dL_isInserted_32 : decode cL_isInserted 32 = .ok (.iconst 0, 1) := by decide +kernel
theorem dL_isInserted_33 : decode cL_isInserted 33 = .ok (.invokestatic 26, 3) := by decide +kernel
theorem dL_isInserted_36 : decode cL_isInserted 36 = .ok (.iload_n 2, 1) := by decide +kernel
theorem dL_isInserted_37 : decode cL_isInserted 37 = .ok (.iconst 1, 1) := by decide +kernel
theorem dL_isInserted_38 : decode cL_isInserted 38 = .ok (.invokestatic 26, 3) := by decide +kernel
theorem dL_isInserted_41 : decode cL_isInserted 41 = .ok (.iload_n 2, 1) := by decide +kernel
theorem dL_isInserted_42 : decode cL_isInserted 42 = .ok (.iconst 2, 1) := by decide +kernel
theorem dL_isInserted_43 : decode cL_isInserted 43 = .ok (.invokestatic 26, 3) := by decide +kernel
theorem dL_isInserted_46 : decode cL_isInserted 46 = .ok (.iload_n 2, 1) := by decide +kernel
theorem dL_isInserted_47 : decode cL_isInserted 47 = .ok (.iconst 3, 1) := by decide +kernel
theorem dL_isInserted_48 : decode cL_isInserted 48 = .ok (.invokestatic 26, 3) := by decide +kernel
theorem dL_isInserted_51 : decode cL_isInserted 51 = .ok (.invokevirtual 94, 3) := by decide +kernel
theorem dL_isInserted_54 : decode cL_isInserted 54 = .ok (.iload_n 3, 1) := by decide +kernel
theorem dL_isInserted_55 : decode cL_isInserted 55 = .ok (.bipush 24, 2) := by decide +kernel
theorem dL_isInserted_57 : decode cL_isInserted 57 = .ok (.if_icmp .ge 7, 3) := by decide +kernel
theorem dL_isInserted_60 : decode cL_isInserted 60 = .ok (.iload_n 3, 1) := by decide +kernel
theorem dL_isInserted_61 : decode cL_isInserted 61 = .ok (.goto 5, 3) := by decide +kernel
theorem dL_isInserted_64 : decode cL_isInserted 64 = .ok (.bipush (-3), 2) := by decide +kernel
theorem dL_isInserted_66 : decode cL_isInserted 66 = .ok (.if_icmp .ne 7, 3) := by decide +kernel
theorem dL_isInserted_69 : decode cL_isInserted 69 = .ok (.iconst 1, 1) := by decide +kernel
theorem dL_isInserted_70 : decode cL_isInserted 70 = .ok (.goto 4, 3) := by decide +kernel
theorem dL_isInserted_73 : decode cL_isInserted 73 = .ok (.iconst 0, 1) := by decide +kernel
theorem dL_isInserted_74 : decode cL_isInserted 74 = .ok (.ireturn, 1) := by decide +kernel
theorem dL_isTyped_0 : decode cL_isTyped 0 = .ok (.iload_n 1, 1) := by decide +kernel
theorem dL_isTyped_1 : decode cL_isTyped 1 = .ok (.bipush 10, 2) := by decide +kernel
theorem dL_isTyped_3 : decode cL_isTyped 3 = .ok (.if_icmp .lt 17, 3) := by decide +kernel
theorem dL_isTyped_6 : decode cL_isTyped 6 = .ok (.aload_n 0, 1) := by decide +kernel
theorem dL_isTyped_7 : decode cL_isTyped 7 = .ok (.bipush 48, 2) := by decide +kernel
theorem dL_isTyped_9 : decode cL_isTyped 9 = .ok (.iload_n 1, 1) := by decide +kernel
theorem dL_isTyped_10 : decode cL_isTyped 10 = .ok (.bipush 10, 2) := by decide +kernel
theorem dL_isTyped_12 : decode cL_isTyped 12 = .ok (.idiv, 1) := by decide +kernel
theorem dL_isTyped_13 : decode cL_isTyped 13 = .ok (.iadd, 1) := by decide +kernel
theorem dL_isTyped_14 : decode cL_isTyped 14 = .ok (.invokevirtual 97, 3) := by decide +kernel
theorem dL_isTyped_17 : decode cL_isTyped 17 = .ok (.ifCond .le 21, 3) := by decide +kernel
theorem dL_isTyped_20 : decode cL_isTyped 20 = .ok (.aload_n 0, 1) := by decide +kernel
theorem dL_isTyped_21 : decode cL_isTyped 21 = .ok (.bipush 48, 2) := by decide +kernel
theorem dL_isTyped_23 : decode cL_isTyped 23 = .ok (.iload_n 1, 1) := by decide +kernel
theorem dL_isTyped_24 : decode cL_isTyped 24 = .ok (.bipush 10, 2) := by decide +kernel
theorem dL_isTyped_26 : decode cL_isTyped 26 = .ok (.irem, 1) := by decide +kernel
theorem dL_isTyped_27 : decode cL_isTyped 27 = .ok (.iadd, 1) := by decide +kernel
theorem dL_isTyped_28 : decode cL_isTyped 28 = .ok (.invokevirtual 97, 3) := by decide +kernel
theorem dL_isTyped_31 : decode cL_isTyped 31 = .ok (.ifCond .le 7, 3) := by decide +kernel
theorem dL_isTyped_34 : decode cL_isTyped 34 = .ok (.iconst 1, 1) := by decide +kernel
theorem dL_isTyped_35 : decode cL_isTyped 35 = .ok (.goto 4, 3) := by decide +kernel
theorem dL_isTyped_38 : decode cL_isTyped 38 = .ok (.iconst 0, 1) := by decide +kernel
theorem dL_isTyped_39 : decode cL_isTyped 39 = .ok (.ireturn, 1) := by decide +kernel
theorem dL_isRead_0 : decode cL_isRead 0 = .ok (.aload_n 0, 1) := by decide +kernel
theorem dL_isRead_1 : decode cL_isRead 1 = .ok (.invokevirtual 100, 3) := by decide +kernel
theorem dL_isRead_4 : decode cL_isRead 4 = .ok (.ifCond .lt 7, 3) := by decide +kernel
theorem dL_isRead_7 : decode cL_isRead 7 = .ok (.iconst 1, 1) := by decide +kernel
theorem dL_isRead_8 : decode cL_isRead 8 = .ok (.goto 4, 3) := by decide +kernel
theorem dL_isRead_11 : decode cL_isRead 11 = .ok (.iconst 0, 1) := by decide +kernel
theorem dL_isRead_12 : decode cL_isRead 12 = .ok (.istore 4, 2) := by decide +kernel
theorem dL_isRead_14 : decode cL_isRead 14 = .ok (.iconst 0, 1) := by decide +kernel
theorem dL_isRead_15 : decode cL_isRead 15 = .ok (.istore 5, 2) := by decide +kernel
theorem dL_isRead_17 : decode cL_isRead 17 = .ok (.iload 5, 2) := by decide +kernel
theorem dL_isRead_19 : decode cL_isRead 19 = .ok (.bipush 8, 2) := by decide +kernel
theorem dL_isRead_21 : decode cL_isRead 21 = .ok (.if_icmp .ge 73, 3) := by decide +kernel
theorem dL_isRead_24 : decode cL_isRead 24 = .ok (.iload 4, 2) := by decide +kernel
theorem dL_isRead_26 : decode cL_isRead 26 = .ok (.ifCond .eq 59, 3) := by decide +kernel
theorem dL_isRead_29 : decode cL_isRead 29 = .ok (.aload_n 0, 1) := by decide +kernel
theorem dL_isRead_30 : decode cL_isRead 30 = .ok (.iload 5, 2) := by decide +kernel
theorem dL_isRead_32 : decode cL_isRead 32 = .ok (.iconst 4, 1) := by decide +kernel
theorem dL_isRead_33 : decode cL_isRead 33 = .ok (.if_icmp .ge 7, 3) := by decide +kernel
theorem dL_isRead_36 : decode cL_isRead 36 = .ok (.iload_n 2, 1) := by decide +kernel
theorem dL_isRead_37 : decode cL_isRead 37 = .ok (.goto 4, 3) := by decide +kernel
theorem dL_isRead_40 : decode cL_isRead 40 = .ok (.iload_n 3, 1) := by decide +kernel
theorem dL_isRead_41 : decode cL_isRead 41 = .ok (.iload 5, 2) := by decide +kernel
theorem dL_isRead_43 : decode cL_isRead 43 = .ok (.iconst 4, 1) := by decide +kernel
theorem dL_isRead_44 : decode cL_isRead 44 = .ok (.irem, 1) := by decide +kernel
theorem dL_isRead_45 : decode cL_isRead 45 = .ok (.invokestatic 26, 3) := by decide +kernel
theorem dL_isRead_48 : decode cL_isRead 48 = .ok (.invokestatic 103, 3) := by decide +kernel
theorem dL_isRead_51 : decode cL_isRead 51 = .ok (.ifCond .eq 34, 3) := by decide +kernel
theorem dL_isRead_54 : decode cL_isRead 54 = .ok (.iload 5, 2) := by decide +kernel
theorem dL_isRead_56 : decode cL_isRead 56 = .ok (.bipush 7, 2) := by decide +kernel
theorem dL_isRead_58 : decode cL_isRead 58 = .ok (.if_icmp .eq 23, 3) := by decide +kernel
theorem dL_isRead_61 : decode cL_isRead 61 = .ok (.aload_n 0, 1) := by decide +kernel
theorem dL_isRead_62 : decode cL_isRead 62 = .ok (.iload 5, 2) := by decide +kernel
theorem dL_isRead_64 : decode cL_isRead 64 = .ok (.iconst 3, 1) := by decide +kernel
theorem dL_isRead_65 : decode cL_isRead 65 = .ok (.if_icmp .ne 8, 3) := by decide +kernel
theorem dL_isRead_68 : decode cL_isRead 68 = .ok (.bipush 59, 2) := by decide +kernel
theorem dL_isRead_70 : decode cL_isRead 70 = .ok (.goto 5, 3) := by decide +kernel
theorem dL_isRead_73 : decode cL_isRead 73 = .ok (.bipush 44, 2) := by decide +kernel
theorem dL_isRead_75 : decode cL_isRead 75 = .ok (.invokevirtual 97, 3) := by decide +kernel
theorem dL_isRead_78 : decode cL_isRead 78 = .ok (.ifCond .le 7, 3) := by decide +kernel
theorem dL_isRead_81 : decode cL_isRead 81 = .ok (.iconst 1, 1) := by decide +kernel
theorem dL_isRead_82 : decode cL_isRead 82 = .ok (.goto 4, 3) := by decide +kernel
theorem dL_isRead_85 : decode cL_isRead 85 = .ok (.iconst 0, 1) := by decide +kernel
theorem dL_isRead_86 : decode cL_isRead 86 = .ok (.istore 4, 2) := by decide +kernel
theorem dL_isRead_88 : decode cL_isRead 88 = .ok (.iinc 5 1, 3) := by decide +kernel
theorem dL_isRead_91 : decode cL_isRead 91 = .ok (.goto (-74), 3) := by decide +kernel
theorem dL_isRead_94 : decode cL_isRead 94 = .ok (.aload_n 1, 1) := by decide +kernel
theorem dL_isRead_95 : decode cL_isRead 95 = .ok (.invokestatic 42, 3) := by decide +kernel
theorem dL_isRead_98 : decode cL_isRead 98 = .ok (.istore 5, 2) := by decide +kernel
theorem dL_isRead_100 : decode cL_isRead 100 = .ok (.iconst 0, 1) := by decide +kernel
theorem dL_isRead_101 : decode cL_isRead 101 = .ok (.istore 6, 2) := by decide +kernel
theorem dL_isRead_103 : decode cL_isRead 103 = .ok (.iload 6, 2) := by decide +kernel
theorem dL_isRead_105 : decode cL_isRead 105 = .ok (.iconst 2, 1) := by decide +kernel
theorem dL_isRead_106 : decode cL_isRead 106 = .ok (.if_icmp .ge 46, 3) := by decide +kernel
theorem dL_isRead_109 : decode cL_isRead 109 = .ok (.iload 5, 2) := by decide +kernel
theorem dL_isRead_111 : decode cL_isRead 111 = .ok (.bipush 23, 2) := by decide +kernel
theorem dL_isRead_113 : decode cL_isRead 113 = .ok (.if_icmp .ge 39, 3) := by decide +kernel
theorem dL_isRead_116 : decode cL_isRead 116 = .ok (.iconst 0, 1) := by decide +kernel
theorem dL_isRead_117 : decode cL_isRead 117 = .ok (.istore 7, 2) := by decide +kernel
theorem dL_isRead_119 : decode cL_isRead 119 = .ok (.aload_n 1, 1) := by decide +kernel
theorem dL_isRead_120 : decode cL_isRead 120 = .ok (.iload 7, 2) := by decide +kernel
theorem dL_isRead_122 : decode cL_isRead 122 = .ok (.iaload, 1) := by decide +kernel
theorem dL_isRead_123 : decode cL_isRead 123 = .ok (.ifCond .lt 9, 3) := by decide +kernel
theorem dL_isRead_126 : decode cL_isRead 126 = .ok (.iinc 7 1, 3) := by decide +kernel
theorem dL_isRead_129 : decode cL_isRead 129 = .ok (.goto (-10), 3) := by decide +kernel
theorem dL_isRead_132 : decode cL_isRead 132 = .ok (.aload_n 1, 1) := by decide +kernel
theorem dL_isRead_133 : decode cL_isRead 133 = .ok (.iload 7, 2) := by decide +kernel
theorem dL_isRead_135 : decode cL_isRead 135 = .ok (.iload 6, 2) := by decide +kernel
theorem dL_isRead_137 : decode cL_isRead 137 = .ok (.ifCond .ne 7, 3) := by decide +kernel
theorem dL_isRead_140 : decode cL_isRead 140 = .ok (.iload_n 2, 1) := by decide +kernel
theorem dL_isRead_141 : decode cL_isRead 141 = .ok (.goto 4, 3) := by decide +kernel
theorem dL_isRead_144 : decode cL_isRead 144 = .ok (.iload_n 3, 1) := by decide +kernel
theorem dL_isRead_145 : decode cL_isRead 145 = .ok (.iastore, 1) := by decide +kernel
theorem dL_isRead_146 : decode cL_isRead 146 = .ok (.iinc 6 1, 3) := by decide +kernel
theorem dL_isRead_149 : decode cL_isRead 149 = .ok (.goto (-46), 3) := by decide +kernel
theorem dL_isRead_152 : decode cL_isRead 152 = .ok (.iload 4, 2) := by decide +kernel
theorem dL_isRead_154 : decode cL_isRead 154 = .ok (.ifCond .eq 36, 3) := by decide +kernel
theorem dL_isRead_157 : decode cL_isRead 157 = .ok (.aload_n 0, 1) := by decide +kernel
theorem dL_isRead_158 : decode cL_isRead 158 = .ok (.invokevirtual 107, 3) := by decide +kernel
theorem dL_isRead_161 : decode cL_isRead 161 = .ok (.bipush (-5), 2) := by decide +kernel
theorem dL_isRead_163 : decode cL_isRead 163 = .ok (.if_icmp .ne 27, 3) := by decide +kernel
theorem dL_isRead_166 : decode cL_isRead 166 = .ok (.aload_n 0, 1) := by decide +kernel
theorem dL_isRead_167 : decode cL_isRead 167 = .ok (.invokevirtual 110, 3) := by decide +kernel
theorem dL_isRead_170 : decode cL_isRead 170 = .ok (.iload 5, 2) := by decide +kernel
theorem dL_isRead_172 : decode cL_isRead 172 = .ok (.bipush 23, 2) := by decide +kernel
theorem dL_isRead_174 : decode cL_isRead 174 = .ok (.if_icmp .ge 7, 3) := by decide +kernel
theorem dL_isRead_177 : decode cL_isRead 177 = .ok (.iconst 2, 1) := by decide +kernel
theorem dL_isRead_178 : decode cL_isRead 178 = .ok (.goto 5, 3) := by decide +kernel
theorem dL_isRead_181 : decode cL_isRead 181 = .ok (.bipush (-3), 2) := by decide +kernel
theorem dL_isRead_183 : decode cL_isRead 183 = .ok (.if_icmp .ne 7, 3) := by decide +kernel
theorem dL_isRead_186 : decode cL_isRead 186 = .ok (.iconst 1, 1) := by decide +kernel
theorem dL_isRead_187 : decode cL_isRead 187 = .ok (.goto 4, 3) := by decide +kernel
theorem dL_isRead_190 : decode cL_isRead 190 = .ok (.iconst 0, 1) := by decide +kernel
theorem dL_isRead_191 : decode cL_isRead 191 = .ok (.ireturn, 1) := by decide +kernel
theorem dL_isActed_0 : decode cL_isActed 0 = .ok (.iload_n 2, 1) := by decide +kernel
theorem dL_isActed_1 : decode cL_isActed 1 = .ok (.bipush 9, 2) := by decide +kernel
theorem dL_isActed_3 : decode cL_isActed 3 = .ok (.if_icmp .ge 13, 3) := by decide +kernel
theorem dL_isActed_6 : decode cL_isActed 6 = .ok (.aload_n 0, 1) := by decide +kernel
theorem dL_isActed_7 : decode cL_isActed 7 = .ok (.aload_n 1, 1) := by decide +kernel
theorem dL_isActed_8 : decode cL_isActed 8 = .ok (.iload_n 3, 1) := by decide +kernel
theorem dL_isActed_9 : decode cL_isActed 9 = .ok (.invokestatic 113, 3) := by decide +kernel
theorem dL_isActed_12 : decode cL_isActed 12 = .ok (.invokestatic 116, 3) := by decide +kernel
theorem dL_isActed_15 : decode cL_isActed 15 = .ok (.ireturn, 1) := by decide +kernel
theorem dL_isActed_16 : decode cL_isActed 16 = .ok (.iload_n 2, 1) := by decide +kernel
theorem dL_isActed_17 : decode cL_isActed 17 = .ok (.bipush 12, 2) := by decide +kernel
theorem dL_isActed_19 : decode cL_isActed 19 = .ok (.if_icmp .ge 79, 3) := by decide +kernel
theorem dL_isActed_22 : decode cL_isActed 22 = .ok (.iload_n 3, 1) := by decide +kernel
theorem dL_isActed_23 : decode cL_isActed 23 = .ok (.bipush 25, 2) := by decide +kernel
theorem dL_isActed_25 : decode cL_isActed 25 = .ok (.irem, 1) := by decide +kernel
theorem dL_isActed_26 : decode cL_isActed 26 = .ok (.istore 4, 2) := by decide +kernel
theorem dL_isActed_28 : decode cL_isActed 28 = .ok (.iload 4, 2) := by decide +kernel
theorem dL_isActed_30 : decode cL_isActed 30 = .ok (.bipush 24, 2) := by decide +kernel
theorem dL_isActed_32 : decode cL_isActed 32 = .ok (.if_icmp .ge 25, 3) := by decide +kernel
theorem dL_isActed_35 : decode cL_isActed 35 = .ok (.aload_n 1, 1) := by decide +kernel
theorem dL_isActed_36 : decode cL_isActed 36 = .ok (.iload 4, 2) := by decide +kernel
theorem dL_isActed_38 : decode cL_isActed 38 = .ok (.bipush 24, 2) := by decide +kernel
theorem dL_isActed_40 : decode cL_isActed 40 = .ok (.if_icmp .ge 8, 3) := by decide +kernel
theorem dL_isActed_43 : decode cL_isActed 43 = .ok (.iload 4, 2) := by decide +kernel
theorem dL_isActed_45 : decode cL_isActed 45 = .ok (.goto 4, 3) := by decide +kernel
theorem dL_isActed_48 : decode cL_isActed 48 = .ok (.iconst 0, 1) := by decide +kernel
theorem dL_isActed_49 : decode cL_isActed 49 = .ok (.iaload, 1) := by decide +kernel
theorem dL_isActed_50 : decode cL_isActed 50 = .ok (.ifCond .lt 7, 3) := by decide +kernel
theorem dL_isActed_53 : decode cL_isActed 53 = .ok (.iconst 1, 1) := by decide +kernel
theorem dL_isActed_54 : decode cL_isActed 54 = .ok (.goto 4, 3) := by decide +kernel
theorem dL_isActed_57 : decode cL_isActed 57 = .ok (.iconst 0, 1) := by decide +kernel
theorem dL_isActed_58 : decode cL_isActed 58 = .ok (.istore 5, 2) := by decide +kernel
theorem dL_isActed_60 : decode cL_isActed 60 = .ok (.iload 5, 2) := by decide +kernel
theorem dL_isActed_62 : decode cL_isActed 62 = .ok (.ifCond .eq 8, 3) := by decide +kernel
theorem dL_isActed_65 : decode cL_isActed 65 = .ok (.aload_n 1, 1) := by decide +kernel
theorem dL_isActed_66 : decode cL_isActed 66 = .ok (.iload 4, 2) := by decide +kernel
theorem dL_isActed_68 : decode cL_isActed 68 = .ok (.iconst (-1), 1) := by decide +kernel
theorem dL_isActed_69 : decode cL_isActed 69 = .ok (.iastore, 1) := by decide +kernel
theorem dL_isActed_70 : decode cL_isActed 70 = .ok (.aload_n 0, 1) := by decide +kernel
theorem dL_isActed_71 : decode cL_isActed 71 = .ok (.iload 4, 2) := by decide +kernel
theorem dL_isActed_73 : decode cL_isActed 73 = .ok (.invokevirtual 120, 3) := by decide +kernel
theorem dL_isActed_76 : decode cL_isActed 76 = .ok (.iload 5, 2) := by decide +kernel
theorem dL_isActed_78 : decode cL_isActed 78 = .ok (.ifCond .eq 10, 3) := by decide +kernel
theorem dL_isActed_81 : decode cL_isActed 81 = .ok (.aload_n 1, 1) := by decide +kernel
theorem dL_isActed_82 : decode cL_isActed 82 = .ok (.invokestatic 42, 3) := by decide +kernel
theorem dL_isActed_85 : decode cL_isActed 85 = .ok (.goto 4, 3) := by decide +kernel
theorem dL_isActed_88 : decode cL_isActed 88 = .ok (.iconst (-1), 1) := by decide +kernel
theorem dL_isActed_89 : decode cL_isActed 89 = .ok (.if_icmp .ne 7, 3) := by decide +kernel
theorem dL_isActed_92 : decode cL_isActed 92 = .ok (.iconst 1, 1) := by decide +kernel
theorem dL_isActed_93 : decode cL_isActed 93 = .ok (.goto 4, 3) := by decide +kernel
theorem dL_isActed_96 : decode cL_isActed 96 = .ok (.iconst 0, 1) := by decide +kernel
theorem dL_isActed_97 : decode cL_isActed 97 = .ok (.ireturn, 1) := by decide +kernel
theorem dL_isActed_98 : decode cL_isActed 98 = .ok (.iload_n 2, 1) := by decide +kernel
theorem dL_isActed_99 : decode cL_isActed 99 = .ok (.bipush 12, 2) := by decide +kernel
theorem dL_isActed_101 : decode cL_isActed 101 = .ok (.if_icmp .ne 20, 3) := by decide +kernel
theorem dL_isActed_104 : decode cL_isActed 104 = .ok (.aload_n 0, 1) := by decide +kernel
theorem dL_isActed_105 : decode cL_isActed 105 = .ok (.invokevirtual 123, 3) := by decide +kernel
theorem dL_isActed_108 : decode cL_isActed 108 = .ok (.aload_n 0, 1) := by decide +kernel
theorem dL_isActed_109 : decode cL_isActed 109 = .ok (.invokevirtual 38, 3) := by decide +kernel
theorem dL_isActed_112 : decode cL_isActed 112 = .ok (.if_icmp .ne 7, 3) := by decide +kernel
theorem dL_isActed_115 : decode cL_isActed 115 = .ok (.iconst 1, 1) := by decide +kernel
theorem dL_isActed_116 : decode cL_isActed 116 = .ok (.goto 4, 3) := by decide +kernel
theorem dL_isActed_119 : decode cL_isActed 119 = .ok (.iconst 0, 1) := by decide +kernel
theorem dL_isActed_120 : decode cL_isActed 120 = .ok (.ireturn, 1) := by decide +kernel
theorem dL_isActed_121 : decode cL_isActed 121 = .ok (.iload_n 2, 1) := by decide +kernel
theorem dL_isActed_122 : decode cL_isActed 122 = .ok (.bipush 13, 2) := by decide +kernel
theorem dL_isActed_124 : decode cL_isActed 124 = .ok (.if_icmp .ne 19, 3) := by decide +kernel
theorem dL_isActed_127 : decode cL_isActed 127 = .ok (.aload_n 0, 1) := by decide +kernel
theorem dL_isActed_128 : decode cL_isActed 128 = .ok (.aload_n 1, 1) := by decide +kernel
theorem dL_isActed_129 : decode cL_isActed 129 = .ok (.iload_n 3, 1) := by decide +kernel
theorem dL_isActed_130 : decode cL_isActed 130 = .ok (.invokestatic 113, 3) := by decide +kernel
theorem dL_isActed_133 : decode cL_isActed 133 = .ok (.iload_n 3, 1) := by decide +kernel
theorem dL_isActed_134 : decode cL_isActed 134 = .ok (.iconst 3, 1) := by decide +kernel
theorem dL_isActed_135 : decode cL_isActed 135 = .ok (.idiv, 1) := by decide +kernel
theorem dL_isActed_136 : decode cL_isActed 136 = .ok (.invokestatic 113, 3) := by decide +kernel
theorem dL_isActed_139 : decode cL_isActed 139 = .ok (.invokestatic 126, 3) := by decide +kernel
theorem dL_isActed_142 : decode cL_isActed 142 = .ok (.ireturn, 1) := by decide +kernel
theorem dL_isActed_143 : decode cL_isActed 143 = .ok (.aload_n 0, 1) := by decide +kernel
theorem dL_isActed_144 : decode cL_isActed 144 = .ok (.iload_n 2, 1) := by decide +kernel
theorem dL_isActed_145 : decode cL_isActed 145 = .ok (.bipush 14, 2) := by decide +kernel
theorem dL_isActed_147 : decode cL_isActed 147 = .ok (.isub, 1) := by decide +kernel
theorem dL_isActed_148 : decode cL_isActed 148 = .ok (.invokevirtual 67, 3) := by decide +kernel
theorem dL_isActed_151 : decode cL_isActed 151 = .ok (.istore 4, 2) := by decide +kernel
theorem dL_isActed_153 : decode cL_isActed 153 = .ok (.iload_n 2, 1) := by decide +kernel
theorem dL_isActed_154 : decode cL_isActed 154 = .ok (.bipush 14, 2) := by decide +kernel
theorem dL_isActed_156 : decode cL_isActed 156 = .ok (.if_icmp .ne 11, 3) := by decide +kernel
theorem dL_isActed_159 : decode cL_isActed 159 = .ok (.iconst 3, 1) := by decide +kernel
theorem dL_isActed_160 : decode cL_isActed 160 = .ok (.iload_n 3, 1) := by decide +kernel
theorem dL_isActed_161 : decode cL_isActed 161 = .ok (.iconst 3, 1) := by decide +kernel
theorem dL_isActed_162 : decode cL_isActed 162 = .ok (.irem, 1) := by decide +kernel
theorem dL_isActed_163 : decode cL_isActed 163 = .ok (.iadd, 1) := by decide +kernel
theorem dL_isActed_164 : decode cL_isActed 164 = .ok (.goto 6, 3) := by decide +kernel
theorem dL_isActed_167 : decode cL_isActed 167 = .ok (.iload_n 3, 1) := by decide +kernel
theorem dL_isActed_168 : decode cL_isActed 168 = .ok (.iconst 2, 1) := by decide +kernel
theorem dL_isActed_169 : decode cL_isActed 169 = .ok (.irem, 1) := by decide +kernel
theorem dL_isActed_170 : decode cL_isActed 170 = .ok (.istore 5, 2) := by decide +kernel
theorem dL_isActed_172 : decode cL_isActed 172 = .ok (.aload_n 0, 1) := by decide +kernel
theorem dL_isActed_173 : decode cL_isActed 173 = .ok (.iload_n 2, 1) := by decide +kernel
theorem dL_isActed_174 : decode cL_isActed 174 = .ok (.bipush 14, 2) := by decide +kernel
theorem dL_isActed_176 : decode cL_isActed 176 = .ok (.isub, 1) := by decide +kernel
theorem dL_isActed_177 : decode cL_isActed 177 = .ok (.iload 5, 2) := by decide +kernel
theorem dL_isActed_179 : decode cL_isActed 179 = .ok (.invokevirtual 130, 3) := by decide +kernel
theorem dL_isActed_182 : decode cL_isActed 182 = .ok (.iload 4, 2) := by decide +kernel
theorem dL_isActed_184 : decode cL_isActed 184 = .ok (.if_icmp .ne 20, 3) := by decide +kernel
theorem dL_isActed_187 : decode cL_isActed 187 = .ok (.aload_n 0, 1) := by decide +kernel
theorem dL_isActed_188 : decode cL_isActed 188 = .ok (.iload_n 2, 1) := by decide +kernel
theorem dL_isActed_189 : decode cL_isActed 189 = .ok (.bipush 14, 2) := by decide +kernel
theorem dL_isActed_191 : decode cL_isActed 191 = .ok (.isub, 1) := by decide +kernel
theorem dL_isActed_192 : decode cL_isActed 192 = .ok (.invokevirtual 67, 3) := by decide +kernel
theorem dL_isActed_195 : decode cL_isActed 195 = .ok (.iload 5, 2) := by decide +kernel
theorem dL_isActed_197 : decode cL_isActed 197 = .ok (.if_icmp .ne 7, 3) := by decide +kernel
theorem dL_isActed_200 : decode cL_isActed 200 = .ok (.iconst 1, 1) := by decide +kernel
theorem dL_isActed_201 : decode cL_isActed 201 = .ok (.goto 4, 3) := by decide +kernel
theorem dL_isActed_204 : decode cL_isActed 204 = .ok (.iconst 0, 1) := by decide +kernel
theorem dL_isActed_205 : decode cL_isActed 205 = .ok (.ireturn, 1) := by decide +kernel
theorem dL_law_0 : decode cL_law 0 = .ok (.new 11, 3) := by decide +kernel
theorem dL_law_3 : decode cL_law 3 = .ok (.dup, 1) := by decide +kernel
theorem dL_law_4 : decode cL_law 4 = .ok (.invokespecial 133, 3) := by decide +kernel
theorem dL_law_7 : decode cL_law 7 = .ok (.astore_n 1, 1) := by decide +kernel
theorem dL_law_8 : decode cL_law 8 = .ok (.bipush 24, 2) := by decide +kernel
theorem dL_law_10 : decode cL_law 10 = .ok (.newarray .int, 2) := by decide +kernel
theorem dL_law_12 : decode cL_law 12 = .ok (.astore_n 2, 1) := by decide +kernel
theorem dL_law_13 : decode cL_law 13 = .ok (.iconst 0, 1) := by decide +kernel
theorem dL_law_14 : decode cL_law 14 = .ok (.istore_n 3, 1) := by decide +kernel
theorem dL_law_15 : decode cL_law 15 = .ok (.iload_n 3, 1) := by decide +kernel
theorem dL_law_16 : decode cL_law 16 = .ok (.bipush 24, 2) := by decide +kernel
theorem dL_law_18 : decode cL_law 18 = .ok (.if_icmp .ge 13, 3) := by decide +kernel
theorem dL_law_21 : decode cL_law 21 = .ok (.aload_n 2, 1) := by decide +kernel
theorem dL_law_22 : decode cL_law 22 = .ok (.iload_n 3, 1) := by decide +kernel
theorem dL_law_23 : decode cL_law 23 = .ok (.iconst (-1), 1) := by decide +kernel
theorem dL_law_24 : decode cL_law 24 = .ok (.iastore, 1) := by decide +kernel
theorem dL_law_25 : decode cL_law 25 = .ok (.iinc 3 1, 3) := by decide +kernel
theorem dL_law_28 : decode cL_law 28 = .ok (.goto (-13), 3) := by decide +kernel
theorem dL_law_31 : decode cL_law 31 = .ok (.iconst 0, 1) := by decide +kernel
theorem dL_law_32 : decode cL_law 32 = .ok (.istore_n 3, 1) := by decide +kernel
theorem dL_law_33 : decode cL_law 33 = .ok (.iload_n 3, 1) := by decide +kernel
theorem dL_law_34 : decode cL_law 34 = .ok (.bipush 48, 2) := by decide +kernel
theorem dL_law_36 : decode cL_law 36 = .ok (.if_icmp .ge 106, 3) := by decide +kernel
theorem dL_law_39 : decode cL_law 39 = .ok (.aload_n 0, 1) := by decide +kernel
theorem dL_law_40 : decode cL_law 40 = .ok (.iload_n 3, 1) := by decide +kernel
theorem dL_law_41 : decode cL_law 41 = .ok (.invokestatic 134, 3) := by decide +kernel
theorem dL_law_44 : decode cL_law 44 = .ok (.ldc 8, 2) := by decide +kernel
theorem dL_law_46 : decode cL_law 46 = .ok (.iand, 1) := by decide +kernel
theorem dL_law_47 : decode cL_law 47 = .ok (.istore 4, 2) := by decide +kernel
theorem dL_law_49 : decode cL_law 49 = .ok (.aload_n 1, 1) := by decide +kernel
theorem dL_law_50 : decode cL_law 50 = .ok (.invokevirtual 138, 3) := by decide +kernel
theorem dL_law_53 : decode cL_law 53 = .ok (.istore 5, 2) := by decide +kernel
theorem dL_law_55 : decode cL_law 55 = .ok (.aload_n 1, 1) := by decide +kernel
theorem dL_law_56 : decode cL_law 56 = .ok (.invokevirtual 141, 3) := by decide +kernel
theorem dL_law_59 : decode cL_law 59 = .ok (.istore 6, 2) := by decide +kernel
theorem dL_law_61 : decode cL_law 61 = .ok (.aload_n 1, 1) := by decide +kernel
theorem dL_law_62 : decode cL_law 62 = .ok (.aload_n 2, 1) := by decide +kernel
theorem dL_law_63 : decode cL_law 63 = .ok (.iload 4, 2) := by decide +kernel
theorem dL_law_65 : decode cL_law 65 = .ok (.bipush 16, 2) := by decide +kernel
theorem dL_law_67 : decode cL_law 67 = .ok (.irem, 1) := by decide +kernel
theorem dL_law_68 : decode cL_law 68 = .ok (.iload 4, 2) := by decide +kernel
theorem dL_law_70 : decode cL_law 70 = .ok (.bipush 16, 2) := by decide +kernel
theorem dL_law_72 : decode cL_law 72 = .ok (.idiv, 1) := by decide +kernel
theorem dL_law_73 : decode cL_law 73 = .ok (.invokestatic 144, 3) := by decide +kernel
theorem dL_law_76 : decode cL_law 76 = .ok (.ifCond .eq 58, 3) := by decide +kernel
theorem dL_law_79 : decode cL_law 79 = .ok (.aload_n 1, 1) := by decide +kernel
theorem dL_law_80 : decode cL_law 80 = .ok (.invokevirtual 138, 3) := by decide +kernel
theorem dL_law_83 : decode cL_law 83 = .ok (.iload 5, 2) := by decide +kernel
theorem dL_law_85 : decode cL_law 85 = .ok (.if_icmp .lt 49, 3) := by decide +kernel
theorem dL_law_88 : decode cL_law 88 = .ok (.aload_n 1, 1) := by decide +kernel
theorem dL_law_89 : decode cL_law 89 = .ok (.invokevirtual 141, 3) := by decide +kernel
theorem dL_law_92 : decode cL_law 92 = .ok (.iload 6, 2) := by decide +kernel
theorem dL_law_94 : decode cL_law 94 = .ok (.if_icmp .lt 40, 3) := by decide +kernel
theorem dL_law_97 : decode cL_law 97 = .ok (.aload_n 1, 1) := by decide +kernel
theorem dL_law_98 : decode cL_law 98 = .ok (.aload_n 2, 1) := by decide +kernel
theorem dL_law_99 : decode cL_law 99 = .ok (.invokestatic 147, 3) := by decide +kernel
theorem dL_law_102 : decode cL_law 102 = .ok (.ifCond .eq 32, 3) := by decide +kernel
theorem dL_law_105 : decode cL_law 105 = .ok (.aload_n 1, 1) := by decide +kernel
theorem dL_law_106 : decode cL_law 106 = .ok (.aload_n 2, 1) := by decide +kernel
theorem dL_law_107 : decode cL_law 107 = .ok (.iload 4, 2) := by decide +kernel
theorem dL_law_109 : decode cL_law 109 = .ok (.iconst 5, 1) := by decide +kernel
theorem dL_law_110 : decode cL_law 110 = .ok (.idiv, 1) := by decide +kernel
theorem dL_law_111 : decode cL_law 111 = .ok (.invokestatic 113, 3) := by decide +kernel
theorem dL_law_114 : decode cL_law 114 = .ok (.invokestatic 151, 3) := by decide +kernel
theorem dL_law_117 : decode cL_law 117 = .ok (.ifCond .eq 17, 3) := by decide +kernel
theorem dL_law_120 : decode cL_law 120 = .ok (.iload_n 3, 1) := by decide +kernel
theorem dL_law_121 : decode cL_law 121 = .ok (.iconst 4, 1) := by decide +kernel
theorem dL_law_122 : decode cL_law 122 = .ok (.irem, 1) := by decide +kernel
theorem dL_law_123 : decode cL_law 123 = .ok (.iconst 3, 1) := by decide +kernel
theorem dL_law_124 : decode cL_law 124 = .ok (.if_icmp .ne 12, 3) := by decide +kernel
theorem dL_law_127 : decode cL_law 127 = .ok (.aload_n 1, 1) := by decide +kernel
theorem dL_law_128 : decode cL_law 128 = .ok (.invokestatic 154, 3) := by decide +kernel
theorem dL_law_131 : decode cL_law 131 = .ok (.ifCond .ne 5, 3) := by decide +kernel
theorem dL_law_134 : decode cL_law 134 = .ok (.iconst 0, 1) := by decide +kernel
theorem dL_law_135 : decode cL_law 135 = .ok (.ireturn, 1) := by decide +kernel
theorem dL_law_136 : decode cL_law 136 = .ok (.iinc 3 1, 3) := by decide +kernel
theorem dL_law_139 : decode cL_law 139 = .ok (.goto (-106), 3) := by decide +kernel
theorem dL_law_142 : decode cL_law 142 = .ok (.iconst 1, 1) := by decide +kernel
theorem dL_law_143 : decode cL_law 143 = .ok (.ireturn, 1) := by decide +kernel
