/-! LonelyDotsLaw.law([I)Z -/
theorem lk_M174 : lk_mt[174]? = some (yL_law, cL_law, 4, (some .boolean)) := rfl
theorem lk_i174_0 : lk_ins 174 0 = some (.new 7, 3, (10, [], .null)) := lk_eqE_eq (by decide +kernel)
theorem lk_s174_3_1 : lk_seg 174 [(.dup, 1, (0, [], .null))] 3 = some 4 := by decide +kernel
theorem lk_i174_4 : lk_ins 174 4 = some (.invokespecial 9, 3, (3, [(0, 65)], .ref 112)) := lk_eqE_eq (by decide +kernel)
theorem lk_s174_7_1 : lk_seg 174 [(.astore_n 1, 1, (0, [], .null))] 7 = some 8 := by decide +kernel
theorem lk_i174_8 : lk_ins 174 8 = some (.new 10, 3, (11, [], .null)) := lk_eqE_eq (by decide +kernel)
theorem lk_s174_11_1 : lk_seg 174 [(.dup, 1, (0, [], .null))] 11 = some 12 := by decide +kernel
theorem lk_i174_12 : lk_ins 174 12 = some (.invokespecial 12, 3, (3, [(0, 111)], .ref 113)) := lk_eqE_eq (by decide +kernel)
theorem lk_s174_15_3 : lk_seg 174 [(.astore_n 2, 1, (0, [], .null)), (.iconst 0, 1, (0, [], .int (0))), (.istore_n 3, 1, (0, [], .null))] 15 = some 18 := by decide +kernel
theorem lk_s174_18_2 : lk_seg 174 [(.iload_n 3, 1, (0, [], .null)), (.aload_n 0, 1, (0, [], .null))] 18 = some 20 := by decide +kernel
theorem lk_i174_20 : lk_ins 174 20 = some (.arraylength, 1, (0, [], .null)) := lk_eqE_eq (by decide +kernel)
theorem lk_s174_21_2 : lk_seg 174 [(.bipush 6, 2, (0, [], .int (6))), (.isub, 1, (0, [], .null))] 21 = some 24 := by decide +kernel
theorem lk_i174_24 : lk_ins 174 24 = some (.if_icmp .gt 1196, 3, (1220, [], .null)) := lk_eqE_eq (by decide +kernel)
theorem lk_s174_1220_1 : lk_seg 174 [(.iconst 1, 1, (0, [], .int (1)))] 1220 = some 1221 := by decide +kernel
theorem lk_i174_1221 : lk_ins 174 1221 = some (.ireturn, 1, (0, [], .null)) := lk_eqE_eq (by decide +kernel)
theorem lk_s174_27_2 : lk_seg 174 [(.aload_n 0, 1, (0, [], .null)), (.iload_n 3, 1, (0, [], .null))] 27 = some 29 := by decide +kernel
theorem lk_i174_29 : lk_ins 174 29 = some (.iaload, 1, (0, [], .null)) := lk_eqE_eq (by decide +kernel)
theorem lk_s174_30_2 : lk_seg 174 [(.bipush 31, 2, (0, [], .int (31))), (.iand, 1, (0, [], .null))] 30 = some 33 := by decide +kernel
theorem lk_i174_33 : lk_ins 174 33 = some (.tableswitch 1181 0 27 #[127, 170, 213, 276, 299, 352, 405, 458, 511, 554, 597, 640, 683, 706, 729, 762, 795, 828, 851, 884, 917, 970, 993, 1026, 1089, 1122, 1145, 1168], 127, (1214, [(0, 160), (1, 203), (2, 246), (3, 309), (4, 332), (5, 385), (6, 438), (7, 491), (8, 544), (9, 587), (10, 630), (11, 673), (12, 716), (13, 739), (14, 762), (15, 795), (16, 828), (17, 861), (18, 884), (19, 917), (20, 950), (21, 1003), (22, 1026), (23, 1059), (24, 1122), (25, 1155), (26, 1178), (27, 1201)], .null)) := lk_eqE_eq (by decide +kernel)
theorem lk_s174_160_5 : lk_seg 174 [(.aload_n 1, 1, (0, [], .null)), (.aload_n 0, 1, (0, [], .null)), (.iload_n 3, 1, (0, [], .null)), (.iconst 1, 1, (0, [], .int (1))), (.iadd, 1, (0, [], .null))] 160 = some 165 := by decide +kernel
theorem lk_i174_165 : lk_ins 174 165 = some (.iaload, 1, (0, [], .null)) := lk_eqE_eq (by decide +kernel)
theorem lk_s174_166_4 : lk_seg 174 [(.aload_n 0, 1, (0, [], .null)), (.iload_n 3, 1, (0, [], .null)), (.iconst 2, 1, (0, [], .int (2))), (.iadd, 1, (0, [], .null))] 166 = some 170 := by decide +kernel
theorem lk_i174_170 : lk_ins 174 170 = some (.iaload, 1, (0, [], .null)) := lk_eqE_eq (by decide +kernel)
theorem lk_s174_171_4 : lk_seg 174 [(.aload_n 0, 1, (0, [], .null)), (.iload_n 3, 1, (0, [], .null)), (.iconst 3, 1, (0, [], .int (3))), (.iadd, 1, (0, [], .null))] 171 = some 175 := by decide +kernel
theorem lk_i174_175 : lk_ins 174 175 = some (.iaload, 1, (0, [], .null)) := lk_eqE_eq (by decide +kernel)
theorem lk_i174_176 : lk_ins 174 176 = some (.invokevirtual 13, 3, (1, [(10, 66)], .ref 114)) := lk_eqE_eq (by decide +kernel)
theorem lk_s174_179_5 : lk_seg 174 [(.aload_n 2, 1, (0, [], .null)), (.aload_n 0, 1, (0, [], .null)), (.iload_n 3, 1, (0, [], .null)), (.iconst 1, 1, (0, [], .int (1))), (.iadd, 1, (0, [], .null))] 179 = some 184 := by decide +kernel
theorem lk_i174_184 : lk_ins 174 184 = some (.iaload, 1, (0, [], .null)) := lk_eqE_eq (by decide +kernel)
theorem lk_s174_185_4 : lk_seg 174 [(.aload_n 0, 1, (0, [], .null)), (.iload_n 3, 1, (0, [], .null)), (.iconst 2, 1, (0, [], .int (2))), (.iadd, 1, (0, [], .null))] 185 = some 189 := by decide +kernel
theorem lk_i174_189 : lk_ins 174 189 = some (.iaload, 1, (0, [], .null)) := lk_eqE_eq (by decide +kernel)
theorem lk_s174_190_4 : lk_seg 174 [(.aload_n 0, 1, (0, [], .null)), (.iload_n 3, 1, (0, [], .null)), (.iconst 3, 1, (0, [], .int (3))), (.iadd, 1, (0, [], .null))] 190 = some 194 := by decide +kernel
theorem lk_i174_194 : lk_ins 174 194 = some (.iaload, 1, (0, [], .null)) := lk_eqE_eq (by decide +kernel)
theorem lk_i174_195 : lk_ins 174 195 = some (.invokevirtual 17, 3, (1, [(11, 116)], .ref 115)) := lk_eqE_eq (by decide +kernel)
theorem lk_i174_198 : lk_ins 174 198 = some (.if_icmp .eq 1016, 3, (1214, [], .null)) := lk_eqE_eq (by decide +kernel)
theorem lk_s174_1214_2 : lk_seg 174 [(.iinc 3 6, 3, (0, [], .int (6))), (.goto (-1199), 3, (18, [], .null))] 1214 = some 18 := by decide +kernel
theorem lk_s174_201_1 : lk_seg 174 [(.iconst 0, 1, (0, [], .int (0)))] 201 = some 202 := by decide +kernel
theorem lk_i174_202 : lk_ins 174 202 = some (.ireturn, 1, (0, [], .null)) := lk_eqE_eq (by decide +kernel)
theorem lk_s174_203_5 : lk_seg 174 [(.aload_n 1, 1, (0, [], .null)), (.aload_n 0, 1, (0, [], .null)), (.iload_n 3, 1, (0, [], .null)), (.iconst 1, 1, (0, [], .int (1))), (.iadd, 1, (0, [], .null))] 203 = some 208 := by decide +kernel
theorem lk_i174_208 : lk_ins 174 208 = some (.iaload, 1, (0, [], .null)) := lk_eqE_eq (by decide +kernel)
theorem lk_s174_209_4 : lk_seg 174 [(.aload_n 0, 1, (0, [], .null)), (.iload_n 3, 1, (0, [], .null)), (.iconst 2, 1, (0, [], .int (2))), (.iadd, 1, (0, [], .null))] 209 = some 213 := by decide +kernel
theorem lk_i174_213 : lk_ins 174 213 = some (.iaload, 1, (0, [], .null)) := lk_eqE_eq (by decide +kernel)
theorem lk_s174_214_4 : lk_seg 174 [(.aload_n 0, 1, (0, [], .null)), (.iload_n 3, 1, (0, [], .null)), (.iconst 3, 1, (0, [], .int (3))), (.iadd, 1, (0, [], .null))] 214 = some 218 := by decide +kernel
theorem lk_i174_218 : lk_ins 174 218 = some (.iaload, 1, (0, [], .null)) := lk_eqE_eq (by decide +kernel)
theorem lk_i174_219 : lk_ins 174 219 = some (.invokevirtual 18, 3, (1, [(10, 67)], .ref 116)) := lk_eqE_eq (by decide +kernel)
theorem lk_s174_222_5 : lk_seg 174 [(.aload_n 2, 1, (0, [], .null)), (.aload_n 0, 1, (0, [], .null)), (.iload_n 3, 1, (0, [], .null)), (.iconst 1, 1, (0, [], .int (1))), (.iadd, 1, (0, [], .null))] 222 = some 227 := by decide +kernel
theorem lk_i174_227 : lk_ins 174 227 = some (.iaload, 1, (0, [], .null)) := lk_eqE_eq (by decide +kernel)
theorem lk_s174_228_4 : lk_seg 174 [(.aload_n 0, 1, (0, [], .null)), (.iload_n 3, 1, (0, [], .null)), (.iconst 2, 1, (0, [], .int (2))), (.iadd, 1, (0, [], .null))] 228 = some 232 := by decide +kernel
theorem lk_i174_232 : lk_ins 174 232 = some (.iaload, 1, (0, [], .null)) := lk_eqE_eq (by decide +kernel)
theorem lk_s174_233_4 : lk_seg 174 [(.aload_n 0, 1, (0, [], .null)), (.iload_n 3, 1, (0, [], .null)), (.iconst 3, 1, (0, [], .int (3))), (.iadd, 1, (0, [], .null))] 233 = some 237 := by decide +kernel
theorem lk_i174_237 : lk_ins 174 237 = some (.iaload, 1, (0, [], .null)) := lk_eqE_eq (by decide +kernel)
theorem lk_i174_238 : lk_ins 174 238 = some (.invokevirtual 21, 3, (1, [(11, 117)], .ref 117)) := lk_eqE_eq (by decide +kernel)
theorem lk_i174_241 : lk_ins 174 241 = some (.if_icmp .eq 973, 3, (1214, [], .null)) := lk_eqE_eq (by decide +kernel)
theorem lk_s174_244_1 : lk_seg 174 [(.iconst 0, 1, (0, [], .int (0)))] 244 = some 245 := by decide +kernel
theorem lk_i174_245 : lk_ins 174 245 = some (.ireturn, 1, (0, [], .null)) := lk_eqE_eq (by decide +kernel)
theorem lk_s174_246_5 : lk_seg 174 [(.aload_n 1, 1, (0, [], .null)), (.aload_n 0, 1, (0, [], .null)), (.iload_n 3, 1, (0, [], .null)), (.iconst 1, 1, (0, [], .int (1))), (.iadd, 1, (0, [], .null))] 246 = some 251 := by decide +kernel
theorem lk_i174_251 : lk_ins 174 251 = some (.iaload, 1, (0, [], .null)) := lk_eqE_eq (by decide +kernel)
theorem lk_s174_252_4 : lk_seg 174 [(.aload_n 0, 1, (0, [], .null)), (.iload_n 3, 1, (0, [], .null)), (.iconst 2, 1, (0, [], .int (2))), (.iadd, 1, (0, [], .null))] 252 = some 256 := by decide +kernel
theorem lk_i174_256 : lk_ins 174 256 = some (.iaload, 1, (0, [], .null)) := lk_eqE_eq (by decide +kernel)
theorem lk_s174_257_4 : lk_seg 174 [(.aload_n 0, 1, (0, [], .null)), (.iload_n 3, 1, (0, [], .null)), (.iconst 3, 1, (0, [], .int (3))), (.iadd, 1, (0, [], .null))] 257 = some 261 := by decide +kernel
theorem lk_i174_261 : lk_ins 174 261 = some (.iaload, 1, (0, [], .null)) := lk_eqE_eq (by decide +kernel)
theorem lk_s174_262_4 : lk_seg 174 [(.aload_n 0, 1, (0, [], .null)), (.iload_n 3, 1, (0, [], .null)), (.iconst 4, 1, (0, [], .int (4))), (.iadd, 1, (0, [], .null))] 262 = some 266 := by decide +kernel
theorem lk_i174_266 : lk_ins 174 266 = some (.iaload, 1, (0, [], .null)) := lk_eqE_eq (by decide +kernel)
theorem lk_s174_267_4 : lk_seg 174 [(.aload_n 0, 1, (0, [], .null)), (.iload_n 3, 1, (0, [], .null)), (.iconst 5, 1, (0, [], .int (5))), (.iadd, 1, (0, [], .null))] 267 = some 271 := by decide +kernel
theorem lk_i174_271 : lk_ins 174 271 = some (.iaload, 1, (0, [], .null)) := lk_eqE_eq (by decide +kernel)
theorem lk_i174_272 : lk_ins 174 272 = some (.invokevirtual 22, 3, (1, [(10, 68)], .ref 118)) := lk_eqE_eq (by decide +kernel)
theorem lk_s174_275_5 : lk_seg 174 [(.aload_n 2, 1, (0, [], .null)), (.aload_n 0, 1, (0, [], .null)), (.iload_n 3, 1, (0, [], .null)), (.iconst 1, 1, (0, [], .int (1))), (.iadd, 1, (0, [], .null))] 275 = some 280 := by decide +kernel
theorem lk_i174_280 : lk_ins 174 280 = some (.iaload, 1, (0, [], .null)) := lk_eqE_eq (by decide +kernel)
theorem lk_s174_281_4 : lk_seg 174 [(.aload_n 0, 1, (0, [], .null)), (.iload_n 3, 1, (0, [], .null)), (.iconst 2, 1, (0, [], .int (2))), (.iadd, 1, (0, [], .null))] 281 = some 285 := by decide +kernel
theorem lk_i174_285 : lk_ins 174 285 = some (.iaload, 1, (0, [], .null)) := lk_eqE_eq (by decide +kernel)
theorem lk_s174_286_4 : lk_seg 174 [(.aload_n 0, 1, (0, [], .null)), (.iload_n 3, 1, (0, [], .null)), (.iconst 3, 1, (0, [], .int (3))), (.iadd, 1, (0, [], .null))] 286 = some 290 := by decide +kernel
theorem lk_i174_290 : lk_ins 174 290 = some (.iaload, 1, (0, [], .null)) := lk_eqE_eq (by decide +kernel)
theorem lk_s174_291_4 : lk_seg 174 [(.aload_n 0, 1, (0, [], .null)), (.iload_n 3, 1, (0, [], .null)), (.iconst 4, 1, (0, [], .int (4))), (.iadd, 1, (0, [], .null))] 291 = some 295 := by decide +kernel
theorem lk_i174_295 : lk_ins 174 295 = some (.iaload, 1, (0, [], .null)) := lk_eqE_eq (by decide +kernel)
theorem lk_s174_296_4 : lk_seg 174 [(.aload_n 0, 1, (0, [], .null)), (.iload_n 3, 1, (0, [], .null)), (.iconst 5, 1, (0, [], .int (5))), (.iadd, 1, (0, [], .null))] 296 = some 300 := by decide +kernel
theorem lk_i174_300 : lk_ins 174 300 = some (.iaload, 1, (0, [], .null)) := lk_eqE_eq (by decide +kernel)
theorem lk_i174_301 : lk_ins 174 301 = some (.invokevirtual 26, 3, (1, [(11, 118)], .ref 119)) := lk_eqE_eq (by decide +kernel)
theorem lk_i174_304 : lk_ins 174 304 = some (.if_icmp .eq 910, 3, (1214, [], .null)) := lk_eqE_eq (by decide +kernel)
theorem lk_s174_307_1 : lk_seg 174 [(.iconst 0, 1, (0, [], .int (0)))] 307 = some 308 := by decide +kernel
theorem lk_i174_308 : lk_ins 174 308 = some (.ireturn, 1, (0, [], .null)) := lk_eqE_eq (by decide +kernel)
theorem lk_s174_309_5 : lk_seg 174 [(.aload_n 1, 1, (0, [], .null)), (.aload_n 0, 1, (0, [], .null)), (.iload_n 3, 1, (0, [], .null)), (.iconst 1, 1, (0, [], .int (1))), (.iadd, 1, (0, [], .null))] 309 = some 314 := by decide +kernel
theorem lk_i174_314 : lk_ins 174 314 = some (.iaload, 1, (0, [], .null)) := lk_eqE_eq (by decide +kernel)
theorem lk_i174_315 : lk_ins 174 315 = some (.invokevirtual 27, 3, (1, [(10, 69)], .ref 120)) := lk_eqE_eq (by decide +kernel)
theorem lk_s174_318_5 : lk_seg 174 [(.aload_n 2, 1, (0, [], .null)), (.aload_n 0, 1, (0, [], .null)), (.iload_n 3, 1, (0, [], .null)), (.iconst 1, 1, (0, [], .int (1))), (.iadd, 1, (0, [], .null))] 318 = some 323 := by decide +kernel
theorem lk_i174_323 : lk_ins 174 323 = some (.iaload, 1, (0, [], .null)) := lk_eqE_eq (by decide +kernel)
theorem lk_i174_324 : lk_ins 174 324 = some (.invokevirtual 31, 3, (1, [(11, 119)], .ref 121)) := lk_eqE_eq (by decide +kernel)
theorem lk_i174_327 : lk_ins 174 327 = some (.if_icmp .eq 887, 3, (1214, [], .null)) := lk_eqE_eq (by decide +kernel)
theorem lk_s174_330_1 : lk_seg 174 [(.iconst 0, 1, (0, [], .int (0)))] 330 = some 331 := by decide +kernel
theorem lk_i174_331 : lk_ins 174 331 = some (.ireturn, 1, (0, [], .null)) := lk_eqE_eq (by decide +kernel)
theorem lk_s174_332_5 : lk_seg 174 [(.aload_n 1, 1, (0, [], .null)), (.aload_n 0, 1, (0, [], .null)), (.iload_n 3, 1, (0, [], .null)), (.iconst 1, 1, (0, [], .int (1))), (.iadd, 1, (0, [], .null))] 332 = some 337 := by decide +kernel
theorem lk_i174_337 : lk_ins 174 337 = some (.iaload, 1, (0, [], .null)) := lk_eqE_eq (by decide +kernel)
theorem lk_s174_338_4 : lk_seg 174 [(.aload_n 0, 1, (0, [], .null)), (.iload_n 3, 1, (0, [], .null)), (.iconst 2, 1, (0, [], .int (2))), (.iadd, 1, (0, [], .null))] 338 = some 342 := by decide +kernel
theorem lk_i174_342 : lk_ins 174 342 = some (.iaload, 1, (0, [], .null)) := lk_eqE_eq (by decide +kernel)
theorem lk_s174_343_4 : lk_seg 174 [(.aload_n 0, 1, (0, [], .null)), (.iload_n 3, 1, (0, [], .null)), (.iconst 3, 1, (0, [], .int (3))), (.iadd, 1, (0, [], .null))] 343 = some 347 := by decide +kernel
theorem lk_i174_347 : lk_ins 174 347 = some (.iaload, 1, (0, [], .null)) := lk_eqE_eq (by decide +kernel)
theorem lk_s174_348_4 : lk_seg 174 [(.aload_n 0, 1, (0, [], .null)), (.iload_n 3, 1, (0, [], .null)), (.iconst 4, 1, (0, [], .int (4))), (.iadd, 1, (0, [], .null))] 348 = some 352 := by decide +kernel
theorem lk_i174_352 : lk_ins 174 352 = some (.iaload, 1, (0, [], .null)) := lk_eqE_eq (by decide +kernel)
theorem lk_i174_353 : lk_ins 174 353 = some (.invokevirtual 32, 3, (1, [(10, 70)], .ref 122)) := lk_eqE_eq (by decide +kernel)
theorem lk_s174_356_5 : lk_seg 174 [(.aload_n 2, 1, (0, [], .null)), (.aload_n 0, 1, (0, [], .null)), (.iload_n 3, 1, (0, [], .null)), (.iconst 1, 1, (0, [], .int (1))), (.iadd, 1, (0, [], .null))] 356 = some 361 := by decide +kernel
theorem lk_i174_361 : lk_ins 174 361 = some (.iaload, 1, (0, [], .null)) := lk_eqE_eq (by decide +kernel)
theorem lk_s174_362_4 : lk_seg 174 [(.aload_n 0, 1, (0, [], .null)), (.iload_n 3, 1, (0, [], .null)), (.iconst 2, 1, (0, [], .int (2))), (.iadd, 1, (0, [], .null))] 362 = some 366 := by decide +kernel
theorem lk_i174_366 : lk_ins 174 366 = some (.iaload, 1, (0, [], .null)) := lk_eqE_eq (by decide +kernel)
theorem lk_s174_367_4 : lk_seg 174 [(.aload_n 0, 1, (0, [], .null)), (.iload_n 3, 1, (0, [], .null)), (.iconst 3, 1, (0, [], .int (3))), (.iadd, 1, (0, [], .null))] 367 = some 371 := by decide +kernel
theorem lk_i174_371 : lk_ins 174 371 = some (.iaload, 1, (0, [], .null)) := lk_eqE_eq (by decide +kernel)
theorem lk_s174_372_4 : lk_seg 174 [(.aload_n 0, 1, (0, [], .null)), (.iload_n 3, 1, (0, [], .null)), (.iconst 4, 1, (0, [], .int (4))), (.iadd, 1, (0, [], .null))] 372 = some 376 := by decide +kernel
theorem lk_i174_376 : lk_ins 174 376 = some (.iaload, 1, (0, [], .null)) := lk_eqE_eq (by decide +kernel)
theorem lk_i174_377 : lk_ins 174 377 = some (.invokevirtual 36, 3, (1, [(11, 129)], .ref 123)) := lk_eqE_eq (by decide +kernel)
theorem lk_i174_380 : lk_ins 174 380 = some (.if_icmp .eq 834, 3, (1214, [], .null)) := lk_eqE_eq (by decide +kernel)
theorem lk_s174_383_1 : lk_seg 174 [(.iconst 0, 1, (0, [], .int (0)))] 383 = some 384 := by decide +kernel
theorem lk_i174_384 : lk_ins 174 384 = some (.ireturn, 1, (0, [], .null)) := lk_eqE_eq (by decide +kernel)
theorem lk_s174_385_5 : lk_seg 174 [(.aload_n 1, 1, (0, [], .null)), (.aload_n 0, 1, (0, [], .null)), (.iload_n 3, 1, (0, [], .null)), (.iconst 1, 1, (0, [], .int (1))), (.iadd, 1, (0, [], .null))] 385 = some 390 := by decide +kernel
theorem lk_i174_390 : lk_ins 174 390 = some (.iaload, 1, (0, [], .null)) := lk_eqE_eq (by decide +kernel)
theorem lk_s174_391_4 : lk_seg 174 [(.aload_n 0, 1, (0, [], .null)), (.iload_n 3, 1, (0, [], .null)), (.iconst 2, 1, (0, [], .int (2))), (.iadd, 1, (0, [], .null))] 391 = some 395 := by decide +kernel
theorem lk_i174_395 : lk_ins 174 395 = some (.iaload, 1, (0, [], .null)) := lk_eqE_eq (by decide +kernel)
theorem lk_s174_396_4 : lk_seg 174 [(.aload_n 0, 1, (0, [], .null)), (.iload_n 3, 1, (0, [], .null)), (.iconst 3, 1, (0, [], .int (3))), (.iadd, 1, (0, [], .null))] 396 = some 400 := by decide +kernel
theorem lk_i174_400 : lk_ins 174 400 = some (.iaload, 1, (0, [], .null)) := lk_eqE_eq (by decide +kernel)
theorem lk_s174_401_4 : lk_seg 174 [(.aload_n 0, 1, (0, [], .null)), (.iload_n 3, 1, (0, [], .null)), (.iconst 4, 1, (0, [], .int (4))), (.iadd, 1, (0, [], .null))] 401 = some 405 := by decide +kernel
theorem lk_i174_405 : lk_ins 174 405 = some (.iaload, 1, (0, [], .null)) := lk_eqE_eq (by decide +kernel)
theorem lk_i174_406 : lk_ins 174 406 = some (.invokevirtual 37, 3, (1, [(10, 71)], .ref 124)) := lk_eqE_eq (by decide +kernel)
theorem lk_s174_409_5 : lk_seg 174 [(.aload_n 2, 1, (0, [], .null)), (.aload_n 0, 1, (0, [], .null)), (.iload_n 3, 1, (0, [], .null)), (.iconst 1, 1, (0, [], .int (1))), (.iadd, 1, (0, [], .null))] 409 = some 414 := by decide +kernel
theorem lk_i174_414 : lk_ins 174 414 = some (.iaload, 1, (0, [], .null)) := lk_eqE_eq (by decide +kernel)
theorem lk_s174_415_4 : lk_seg 174 [(.aload_n 0, 1, (0, [], .null)), (.iload_n 3, 1, (0, [], .null)), (.iconst 2, 1, (0, [], .int (2))), (.iadd, 1, (0, [], .null))] 415 = some 419 := by decide +kernel
theorem lk_i174_419 : lk_ins 174 419 = some (.iaload, 1, (0, [], .null)) := lk_eqE_eq (by decide +kernel)
theorem lk_s174_420_4 : lk_seg 174 [(.aload_n 0, 1, (0, [], .null)), (.iload_n 3, 1, (0, [], .null)), (.iconst 3, 1, (0, [], .int (3))), (.iadd, 1, (0, [], .null))] 420 = some 424 := by decide +kernel
theorem lk_i174_424 : lk_ins 174 424 = some (.iaload, 1, (0, [], .null)) := lk_eqE_eq (by decide +kernel)
theorem lk_s174_425_4 : lk_seg 174 [(.aload_n 0, 1, (0, [], .null)), (.iload_n 3, 1, (0, [], .null)), (.iconst 4, 1, (0, [], .int (4))), (.iadd, 1, (0, [], .null))] 425 = some 429 := by decide +kernel
theorem lk_i174_429 : lk_ins 174 429 = some (.iaload, 1, (0, [], .null)) := lk_eqE_eq (by decide +kernel)
theorem lk_i174_430 : lk_ins 174 430 = some (.invokevirtual 40, 3, (1, [(11, 130)], .ref 125)) := lk_eqE_eq (by decide +kernel)
theorem lk_i174_433 : lk_ins 174 433 = some (.if_icmp .eq 781, 3, (1214, [], .null)) := lk_eqE_eq (by decide +kernel)
theorem lk_s174_436_1 : lk_seg 174 [(.iconst 0, 1, (0, [], .int (0)))] 436 = some 437 := by decide +kernel
theorem lk_i174_437 : lk_ins 174 437 = some (.ireturn, 1, (0, [], .null)) := lk_eqE_eq (by decide +kernel)
theorem lk_s174_438_5 : lk_seg 174 [(.aload_n 1, 1, (0, [], .null)), (.aload_n 0, 1, (0, [], .null)), (.iload_n 3, 1, (0, [], .null)), (.iconst 1, 1, (0, [], .int (1))), (.iadd, 1, (0, [], .null))] 438 = some 443 := by decide +kernel
theorem lk_i174_443 : lk_ins 174 443 = some (.iaload, 1, (0, [], .null)) := lk_eqE_eq (by decide +kernel)
theorem lk_s174_444_4 : lk_seg 174 [(.aload_n 0, 1, (0, [], .null)), (.iload_n 3, 1, (0, [], .null)), (.iconst 2, 1, (0, [], .int (2))), (.iadd, 1, (0, [], .null))] 444 = some 448 := by decide +kernel
theorem lk_i174_448 : lk_ins 174 448 = some (.iaload, 1, (0, [], .null)) := lk_eqE_eq (by decide +kernel)
theorem lk_s174_449_4 : lk_seg 174 [(.aload_n 0, 1, (0, [], .null)), (.iload_n 3, 1, (0, [], .null)), (.iconst 3, 1, (0, [], .int (3))), (.iadd, 1, (0, [], .null))] 449 = some 453 := by decide +kernel
theorem lk_i174_453 : lk_ins 174 453 = some (.iaload, 1, (0, [], .null)) := lk_eqE_eq (by decide +kernel)
theorem lk_s174_454_4 : lk_seg 174 [(.aload_n 0, 1, (0, [], .null)), (.iload_n 3, 1, (0, [], .null)), (.iconst 4, 1, (0, [], .int (4))), (.iadd, 1, (0, [], .null))] 454 = some 458 := by decide +kernel
theorem lk_i174_458 : lk_ins 174 458 = some (.iaload, 1, (0, [], .null)) := lk_eqE_eq (by decide +kernel)
theorem lk_i174_459 : lk_ins 174 459 = some (.invokevirtual 41, 3, (1, [(10, 72)], .ref 126)) := lk_eqE_eq (by decide +kernel)
theorem lk_s174_462_5 : lk_seg 174 [(.aload_n 2, 1, (0, [], .null)), (.aload_n 0, 1, (0, [], .null)), (.iload_n 3, 1, (0, [], .null)), (.iconst 1, 1, (0, [], .int (1))), (.iadd, 1, (0, [], .null))] 462 = some 467 := by decide +kernel
theorem lk_i174_467 : lk_ins 174 467 = some (.iaload, 1, (0, [], .null)) := lk_eqE_eq (by decide +kernel)
theorem lk_s174_468_4 : lk_seg 174 [(.aload_n 0, 1, (0, [], .null)), (.iload_n 3, 1, (0, [], .null)), (.iconst 2, 1, (0, [], .int (2))), (.iadd, 1, (0, [], .null))] 468 = some 472 := by decide +kernel
theorem lk_i174_472 : lk_ins 174 472 = some (.iaload, 1, (0, [], .null)) := lk_eqE_eq (by decide +kernel)
theorem lk_s174_473_4 : lk_seg 174 [(.aload_n 0, 1, (0, [], .null)), (.iload_n 3, 1, (0, [], .null)), (.iconst 3, 1, (0, [], .int (3))), (.iadd, 1, (0, [], .null))] 473 = some 477 := by decide +kernel
theorem lk_i174_477 : lk_ins 174 477 = some (.iaload, 1, (0, [], .null)) := lk_eqE_eq (by decide +kernel)
theorem lk_s174_478_4 : lk_seg 174 [(.aload_n 0, 1, (0, [], .null)), (.iload_n 3, 1, (0, [], .null)), (.iconst 4, 1, (0, [], .int (4))), (.iadd, 1, (0, [], .null))] 478 = some 482 := by decide +kernel
theorem lk_i174_482 : lk_ins 174 482 = some (.iaload, 1, (0, [], .null)) := lk_eqE_eq (by decide +kernel)
theorem lk_i174_483 : lk_ins 174 483 = some (.invokevirtual 44, 3, (1, [(11, 134)], .ref 127)) := lk_eqE_eq (by decide +kernel)
theorem lk_i174_486 : lk_ins 174 486 = some (.if_icmp .eq 728, 3, (1214, [], .null)) := lk_eqE_eq (by decide +kernel)
theorem lk_s174_489_1 : lk_seg 174 [(.iconst 0, 1, (0, [], .int (0)))] 489 = some 490 := by decide +kernel
theorem lk_i174_490 : lk_ins 174 490 = some (.ireturn, 1, (0, [], .null)) := lk_eqE_eq (by decide +kernel)
theorem lk_s174_491_5 : lk_seg 174 [(.aload_n 1, 1, (0, [], .null)), (.aload_n 0, 1, (0, [], .null)), (.iload_n 3, 1, (0, [], .null)), (.iconst 1, 1, (0, [], .int (1))), (.iadd, 1, (0, [], .null))] 491 = some 496 := by decide +kernel
theorem lk_i174_496 : lk_ins 174 496 = some (.iaload, 1, (0, [], .null)) := lk_eqE_eq (by decide +kernel)
theorem lk_s174_497_4 : lk_seg 174 [(.aload_n 0, 1, (0, [], .null)), (.iload_n 3, 1, (0, [], .null)), (.iconst 2, 1, (0, [], .int (2))), (.iadd, 1, (0, [], .null))] 497 = some 501 := by decide +kernel
theorem lk_i174_501 : lk_ins 174 501 = some (.iaload, 1, (0, [], .null)) := lk_eqE_eq (by decide +kernel)
theorem lk_s174_502_4 : lk_seg 174 [(.aload_n 0, 1, (0, [], .null)), (.iload_n 3, 1, (0, [], .null)), (.iconst 3, 1, (0, [], .int (3))), (.iadd, 1, (0, [], .null))] 502 = some 506 := by decide +kernel
theorem lk_i174_506 : lk_ins 174 506 = some (.iaload, 1, (0, [], .null)) := lk_eqE_eq (by decide +kernel)
theorem lk_s174_507_4 : lk_seg 174 [(.aload_n 0, 1, (0, [], .null)), (.iload_n 3, 1, (0, [], .null)), (.iconst 4, 1, (0, [], .int (4))), (.iadd, 1, (0, [], .null))] 507 = some 511 := by decide +kernel
theorem lk_i174_511 : lk_ins 174 511 = some (.iaload, 1, (0, [], .null)) := lk_eqE_eq (by decide +kernel)
theorem lk_i174_512 : lk_ins 174 512 = some (.invokevirtual 45, 3, (1, [(10, 73)], .ref 128)) := lk_eqE_eq (by decide +kernel)
theorem lk_s174_515_5 : lk_seg 174 [(.aload_n 2, 1, (0, [], .null)), (.aload_n 0, 1, (0, [], .null)), (.iload_n 3, 1, (0, [], .null)), (.iconst 1, 1, (0, [], .int (1))), (.iadd, 1, (0, [], .null))] 515 = some 520 := by decide +kernel
theorem lk_i174_520 : lk_ins 174 520 = some (.iaload, 1, (0, [], .null)) := lk_eqE_eq (by decide +kernel)
theorem lk_s174_521_4 : lk_seg 174 [(.aload_n 0, 1, (0, [], .null)), (.iload_n 3, 1, (0, [], .null)), (.iconst 2, 1, (0, [], .int (2))), (.iadd, 1, (0, [], .null))] 521 = some 525 := by decide +kernel
theorem lk_i174_525 : lk_ins 174 525 = some (.iaload, 1, (0, [], .null)) := lk_eqE_eq (by decide +kernel)
theorem lk_s174_526_4 : lk_seg 174 [(.aload_n 0, 1, (0, [], .null)), (.iload_n 3, 1, (0, [], .null)), (.iconst 3, 1, (0, [], .int (3))), (.iadd, 1, (0, [], .null))] 526 = some 530 := by decide +kernel
theorem lk_i174_530 : lk_ins 174 530 = some (.iaload, 1, (0, [], .null)) := lk_eqE_eq (by decide +kernel)
theorem lk_s174_531_4 : lk_seg 174 [(.aload_n 0, 1, (0, [], .null)), (.iload_n 3, 1, (0, [], .null)), (.iconst 4, 1, (0, [], .int (4))), (.iadd, 1, (0, [], .null))] 531 = some 535 := by decide +kernel
theorem lk_i174_535 : lk_ins 174 535 = some (.iaload, 1, (0, [], .null)) := lk_eqE_eq (by decide +kernel)
theorem lk_i174_536 : lk_ins 174 536 = some (.invokevirtual 48, 3, (1, [(11, 135)], .ref 129)) := lk_eqE_eq (by decide +kernel)
theorem lk_i174_539 : lk_ins 174 539 = some (.if_icmp .eq 675, 3, (1214, [], .null)) := lk_eqE_eq (by decide +kernel)
theorem lk_s174_542_1 : lk_seg 174 [(.iconst 0, 1, (0, [], .int (0)))] 542 = some 543 := by decide +kernel
theorem lk_i174_543 : lk_ins 174 543 = some (.ireturn, 1, (0, [], .null)) := lk_eqE_eq (by decide +kernel)
theorem lk_s174_544_5 : lk_seg 174 [(.aload_n 1, 1, (0, [], .null)), (.aload_n 0, 1, (0, [], .null)), (.iload_n 3, 1, (0, [], .null)), (.iconst 1, 1, (0, [], .int (1))), (.iadd, 1, (0, [], .null))] 544 = some 549 := by decide +kernel
theorem lk_i174_549 : lk_ins 174 549 = some (.iaload, 1, (0, [], .null)) := lk_eqE_eq (by decide +kernel)
theorem lk_s174_550_4 : lk_seg 174 [(.aload_n 0, 1, (0, [], .null)), (.iload_n 3, 1, (0, [], .null)), (.iconst 2, 1, (0, [], .int (2))), (.iadd, 1, (0, [], .null))] 550 = some 554 := by decide +kernel
theorem lk_i174_554 : lk_ins 174 554 = some (.iaload, 1, (0, [], .null)) := lk_eqE_eq (by decide +kernel)
theorem lk_s174_555_4 : lk_seg 174 [(.aload_n 0, 1, (0, [], .null)), (.iload_n 3, 1, (0, [], .null)), (.iconst 3, 1, (0, [], .int (3))), (.iadd, 1, (0, [], .null))] 555 = some 559 := by decide +kernel
theorem lk_i174_559 : lk_ins 174 559 = some (.iaload, 1, (0, [], .null)) := lk_eqE_eq (by decide +kernel)
theorem lk_i174_560 : lk_ins 174 560 = some (.invokevirtual 49, 3, (1, [(10, 74)], .ref 130)) := lk_eqE_eq (by decide +kernel)
theorem lk_s174_563_5 : lk_seg 174 [(.aload_n 2, 1, (0, [], .null)), (.aload_n 0, 1, (0, [], .null)), (.iload_n 3, 1, (0, [], .null)), (.iconst 1, 1, (0, [], .int (1))), (.iadd, 1, (0, [], .null))] 563 = some 568 := by decide +kernel
theorem lk_i174_568 : lk_ins 174 568 = some (.iaload, 1, (0, [], .null)) := lk_eqE_eq (by decide +kernel)
theorem lk_s174_569_4 : lk_seg 174 [(.aload_n 0, 1, (0, [], .null)), (.iload_n 3, 1, (0, [], .null)), (.iconst 2, 1, (0, [], .int (2))), (.iadd, 1, (0, [], .null))] 569 = some 573 := by decide +kernel
theorem lk_i174_573 : lk_ins 174 573 = some (.iaload, 1, (0, [], .null)) := lk_eqE_eq (by decide +kernel)
theorem lk_s174_574_4 : lk_seg 174 [(.aload_n 0, 1, (0, [], .null)), (.iload_n 3, 1, (0, [], .null)), (.iconst 3, 1, (0, [], .int (3))), (.iadd, 1, (0, [], .null))] 574 = some 578 := by decide +kernel
theorem lk_i174_578 : lk_ins 174 578 = some (.iaload, 1, (0, [], .null)) := lk_eqE_eq (by decide +kernel)
theorem lk_i174_579 : lk_ins 174 579 = some (.invokevirtual 52, 3, (1, [(11, 137)], .ref 131)) := lk_eqE_eq (by decide +kernel)
theorem lk_i174_582 : lk_ins 174 582 = some (.if_icmp .eq 632, 3, (1214, [], .null)) := lk_eqE_eq (by decide +kernel)
theorem lk_s174_585_1 : lk_seg 174 [(.iconst 0, 1, (0, [], .int (0)))] 585 = some 586 := by decide +kernel
theorem lk_i174_586 : lk_ins 174 586 = some (.ireturn, 1, (0, [], .null)) := lk_eqE_eq (by decide +kernel)
theorem lk_s174_587_5 : lk_seg 174 [(.aload_n 1, 1, (0, [], .null)), (.aload_n 0, 1, (0, [], .null)), (.iload_n 3, 1, (0, [], .null)), (.iconst 1, 1, (0, [], .int (1))), (.iadd, 1, (0, [], .null))] 587 = some 592 := by decide +kernel
theorem lk_i174_592 : lk_ins 174 592 = some (.iaload, 1, (0, [], .null)) := lk_eqE_eq (by decide +kernel)
theorem lk_s174_593_4 : lk_seg 174 [(.aload_n 0, 1, (0, [], .null)), (.iload_n 3, 1, (0, [], .null)), (.iconst 2, 1, (0, [], .int (2))), (.iadd, 1, (0, [], .null))] 593 = some 597 := by decide +kernel
theorem lk_i174_597 : lk_ins 174 597 = some (.iaload, 1, (0, [], .null)) := lk_eqE_eq (by decide +kernel)
theorem lk_s174_598_4 : lk_seg 174 [(.aload_n 0, 1, (0, [], .null)), (.iload_n 3, 1, (0, [], .null)), (.iconst 3, 1, (0, [], .int (3))), (.iadd, 1, (0, [], .null))] 598 = some 602 := by decide +kernel
theorem lk_i174_602 : lk_ins 174 602 = some (.iaload, 1, (0, [], .null)) := lk_eqE_eq (by decide +kernel)
theorem lk_i174_603 : lk_ins 174 603 = some (.invokevirtual 53, 3, (1, [(10, 75)], .ref 132)) := lk_eqE_eq (by decide +kernel)
theorem lk_s174_606_5 : lk_seg 174 [(.aload_n 2, 1, (0, [], .null)), (.aload_n 0, 1, (0, [], .null)), (.iload_n 3, 1, (0, [], .null)), (.iconst 1, 1, (0, [], .int (1))), (.iadd, 1, (0, [], .null))] 606 = some 611 := by decide +kernel
theorem lk_i174_611 : lk_ins 174 611 = some (.iaload, 1, (0, [], .null)) := lk_eqE_eq (by decide +kernel)
theorem lk_s174_612_4 : lk_seg 174 [(.aload_n 0, 1, (0, [], .null)), (.iload_n 3, 1, (0, [], .null)), (.iconst 2, 1, (0, [], .int (2))), (.iadd, 1, (0, [], .null))] 612 = some 616 := by decide +kernel
theorem lk_i174_616 : lk_ins 174 616 = some (.iaload, 1, (0, [], .null)) := lk_eqE_eq (by decide +kernel)
theorem lk_s174_617_4 : lk_seg 174 [(.aload_n 0, 1, (0, [], .null)), (.iload_n 3, 1, (0, [], .null)), (.iconst 3, 1, (0, [], .int (3))), (.iadd, 1, (0, [], .null))] 617 = some 621 := by decide +kernel
theorem lk_i174_621 : lk_ins 174 621 = some (.iaload, 1, (0, [], .null)) := lk_eqE_eq (by decide +kernel)
theorem lk_i174_622 : lk_ins 174 622 = some (.invokevirtual 56, 3, (1, [(11, 138)], .ref 133)) := lk_eqE_eq (by decide +kernel)
theorem lk_i174_625 : lk_ins 174 625 = some (.if_icmp .eq 589, 3, (1214, [], .null)) := lk_eqE_eq (by decide +kernel)
theorem lk_s174_628_1 : lk_seg 174 [(.iconst 0, 1, (0, [], .int (0)))] 628 = some 629 := by decide +kernel
theorem lk_i174_629 : lk_ins 174 629 = some (.ireturn, 1, (0, [], .null)) := lk_eqE_eq (by decide +kernel)
theorem lk_s174_630_5 : lk_seg 174 [(.aload_n 1, 1, (0, [], .null)), (.aload_n 0, 1, (0, [], .null)), (.iload_n 3, 1, (0, [], .null)), (.iconst 1, 1, (0, [], .int (1))), (.iadd, 1, (0, [], .null))] 630 = some 635 := by decide +kernel
theorem lk_i174_635 : lk_ins 174 635 = some (.iaload, 1, (0, [], .null)) := lk_eqE_eq (by decide +kernel)
theorem lk_s174_636_4 : lk_seg 174 [(.aload_n 0, 1, (0, [], .null)), (.iload_n 3, 1, (0, [], .null)), (.iconst 2, 1, (0, [], .int (2))), (.iadd, 1, (0, [], .null))] 636 = some 640 := by decide +kernel
theorem lk_i174_640 : lk_ins 174 640 = some (.iaload, 1, (0, [], .null)) := lk_eqE_eq (by decide +kernel)
theorem lk_s174_641_4 : lk_seg 174 [(.aload_n 0, 1, (0, [], .null)), (.iload_n 3, 1, (0, [], .null)), (.iconst 3, 1, (0, [], .int (3))), (.iadd, 1, (0, [], .null))] 641 = some 645 := by decide +kernel
theorem lk_i174_645 : lk_ins 174 645 = some (.iaload, 1, (0, [], .null)) := lk_eqE_eq (by decide +kernel)
theorem lk_i174_646 : lk_ins 174 646 = some (.invokevirtual 57, 3, (1, [(10, 76)], .ref 134)) := lk_eqE_eq (by decide +kernel)
theorem lk_s174_649_5 : lk_seg 174 [(.aload_n 2, 1, (0, [], .null)), (.aload_n 0, 1, (0, [], .null)), (.iload_n 3, 1, (0, [], .null)), (.iconst 1, 1, (0, [], .int (1))), (.iadd, 1, (0, [], .null))] 649 = some 654 := by decide +kernel
theorem lk_i174_654 : lk_ins 174 654 = some (.iaload, 1, (0, [], .null)) := lk_eqE_eq (by decide +kernel)
theorem lk_s174_655_4 : lk_seg 174 [(.aload_n 0, 1, (0, [], .null)), (.iload_n 3, 1, (0, [], .null)), (.iconst 2, 1, (0, [], .int (2))), (.iadd, 1, (0, [], .null))] 655 = some 659 := by decide +kernel
theorem lk_i174_659 : lk_ins 174 659 = some (.iaload, 1, (0, [], .null)) := lk_eqE_eq (by decide +kernel)
theorem lk_s174_660_4 : lk_seg 174 [(.aload_n 0, 1, (0, [], .null)), (.iload_n 3, 1, (0, [], .null)), (.iconst 3, 1, (0, [], .int (3))), (.iadd, 1, (0, [], .null))] 660 = some 664 := by decide +kernel
theorem lk_i174_664 : lk_ins 174 664 = some (.iaload, 1, (0, [], .null)) := lk_eqE_eq (by decide +kernel)
theorem lk_i174_665 : lk_ins 174 665 = some (.invokevirtual 60, 3, (1, [(11, 141)], .ref 135)) := lk_eqE_eq (by decide +kernel)
theorem lk_i174_668 : lk_ins 174 668 = some (.if_icmp .eq 546, 3, (1214, [], .null)) := lk_eqE_eq (by decide +kernel)
theorem lk_s174_671_1 : lk_seg 174 [(.iconst 0, 1, (0, [], .int (0)))] 671 = some 672 := by decide +kernel
theorem lk_i174_672 : lk_ins 174 672 = some (.ireturn, 1, (0, [], .null)) := lk_eqE_eq (by decide +kernel)
theorem lk_s174_673_5 : lk_seg 174 [(.aload_n 1, 1, (0, [], .null)), (.aload_n 0, 1, (0, [], .null)), (.iload_n 3, 1, (0, [], .null)), (.iconst 1, 1, (0, [], .int (1))), (.iadd, 1, (0, [], .null))] 673 = some 678 := by decide +kernel
theorem lk_i174_678 : lk_ins 174 678 = some (.iaload, 1, (0, [], .null)) := lk_eqE_eq (by decide +kernel)
theorem lk_s174_679_4 : lk_seg 174 [(.aload_n 0, 1, (0, [], .null)), (.iload_n 3, 1, (0, [], .null)), (.iconst 2, 1, (0, [], .int (2))), (.iadd, 1, (0, [], .null))] 679 = some 683 := by decide +kernel
theorem lk_i174_683 : lk_ins 174 683 = some (.iaload, 1, (0, [], .null)) := lk_eqE_eq (by decide +kernel)
theorem lk_s174_684_4 : lk_seg 174 [(.aload_n 0, 1, (0, [], .null)), (.iload_n 3, 1, (0, [], .null)), (.iconst 3, 1, (0, [], .int (3))), (.iadd, 1, (0, [], .null))] 684 = some 688 := by decide +kernel
theorem lk_i174_688 : lk_ins 174 688 = some (.iaload, 1, (0, [], .null)) := lk_eqE_eq (by decide +kernel)
theorem lk_i174_689 : lk_ins 174 689 = some (.invokevirtual 61, 3, (1, [(10, 77)], .ref 136)) := lk_eqE_eq (by decide +kernel)
theorem lk_s174_692_5 : lk_seg 174 [(.aload_n 2, 1, (0, [], .null)), (.aload_n 0, 1, (0, [], .null)), (.iload_n 3, 1, (0, [], .null)), (.iconst 1, 1, (0, [], .int (1))), (.iadd, 1, (0, [], .null))] 692 = some 697 := by decide +kernel
theorem lk_i174_697 : lk_ins 174 697 = some (.iaload, 1, (0, [], .null)) := lk_eqE_eq (by decide +kernel)
theorem lk_s174_698_4 : lk_seg 174 [(.aload_n 0, 1, (0, [], .null)), (.iload_n 3, 1, (0, [], .null)), (.iconst 2, 1, (0, [], .int (2))), (.iadd, 1, (0, [], .null))] 698 = some 702 := by decide +kernel
theorem lk_i174_702 : lk_ins 174 702 = some (.iaload, 1, (0, [], .null)) := lk_eqE_eq (by decide +kernel)
theorem lk_s174_703_4 : lk_seg 174 [(.aload_n 0, 1, (0, [], .null)), (.iload_n 3, 1, (0, [], .null)), (.iconst 3, 1, (0, [], .int (3))), (.iadd, 1, (0, [], .null))] 703 = some 707 := by decide +kernel
theorem lk_i174_707 : lk_ins 174 707 = some (.iaload, 1, (0, [], .null)) := lk_eqE_eq (by decide +kernel)
theorem lk_i174_708 : lk_ins 174 708 = some (.invokevirtual 64, 3, (1, [(11, 144)], .ref 137)) := lk_eqE_eq (by decide +kernel)
theorem lk_i174_711 : lk_ins 174 711 = some (.if_icmp .eq 503, 3, (1214, [], .null)) := lk_eqE_eq (by decide +kernel)
theorem lk_s174_714_1 : lk_seg 174 [(.iconst 0, 1, (0, [], .int (0)))] 714 = some 715 := by decide +kernel
theorem lk_i174_715 : lk_ins 174 715 = some (.ireturn, 1, (0, [], .null)) := lk_eqE_eq (by decide +kernel)
theorem lk_s174_716_5 : lk_seg 174 [(.aload_n 1, 1, (0, [], .null)), (.aload_n 0, 1, (0, [], .null)), (.iload_n 3, 1, (0, [], .null)), (.iconst 1, 1, (0, [], .int (1))), (.iadd, 1, (0, [], .null))] 716 = some 721 := by decide +kernel
theorem lk_i174_721 : lk_ins 174 721 = some (.iaload, 1, (0, [], .null)) := lk_eqE_eq (by decide +kernel)
theorem lk_i174_722 : lk_ins 174 722 = some (.invokevirtual 65, 3, (1, [(10, 78)], .ref 138)) := lk_eqE_eq (by decide +kernel)
theorem lk_s174_725_5 : lk_seg 174 [(.aload_n 2, 1, (0, [], .null)), (.aload_n 0, 1, (0, [], .null)), (.iload_n 3, 1, (0, [], .null)), (.iconst 1, 1, (0, [], .int (1))), (.iadd, 1, (0, [], .null))] 725 = some 730 := by decide +kernel
theorem lk_i174_730 : lk_ins 174 730 = some (.iaload, 1, (0, [], .null)) := lk_eqE_eq (by decide +kernel)
theorem lk_i174_731 : lk_ins 174 731 = some (.invokevirtual 68, 3, (1, [(11, 145)], .ref 139)) := lk_eqE_eq (by decide +kernel)
theorem lk_i174_734 : lk_ins 174 734 = some (.if_icmp .eq 480, 3, (1214, [], .null)) := lk_eqE_eq (by decide +kernel)
theorem lk_s174_737_1 : lk_seg 174 [(.iconst 0, 1, (0, [], .int (0)))] 737 = some 738 := by decide +kernel
theorem lk_i174_738 : lk_ins 174 738 = some (.ireturn, 1, (0, [], .null)) := lk_eqE_eq (by decide +kernel)
theorem lk_s174_739_5 : lk_seg 174 [(.aload_n 1, 1, (0, [], .null)), (.aload_n 0, 1, (0, [], .null)), (.iload_n 3, 1, (0, [], .null)), (.iconst 1, 1, (0, [], .int (1))), (.iadd, 1, (0, [], .null))] 739 = some 744 := by decide +kernel
theorem lk_i174_744 : lk_ins 174 744 = some (.iaload, 1, (0, [], .null)) := lk_eqE_eq (by decide +kernel)
theorem lk_i174_745 : lk_ins 174 745 = some (.invokevirtual 69, 3, (1, [(10, 79)], .ref 140)) := lk_eqE_eq (by decide +kernel)
theorem lk_s174_748_5 : lk_seg 174 [(.aload_n 2, 1, (0, [], .null)), (.aload_n 0, 1, (0, [], .null)), (.iload_n 3, 1, (0, [], .null)), (.iconst 1, 1, (0, [], .int (1))), (.iadd, 1, (0, [], .null))] 748 = some 753 := by decide +kernel
theorem lk_i174_753 : lk_ins 174 753 = some (.iaload, 1, (0, [], .null)) := lk_eqE_eq (by decide +kernel)
theorem lk_i174_754 : lk_ins 174 754 = some (.invokevirtual 72, 3, (1, [(11, 146)], .ref 141)) := lk_eqE_eq (by decide +kernel)
theorem lk_i174_757 : lk_ins 174 757 = some (.if_icmp .eq 457, 3, (1214, [], .null)) := lk_eqE_eq (by decide +kernel)
theorem lk_s174_760_1 : lk_seg 174 [(.iconst 0, 1, (0, [], .int (0)))] 760 = some 761 := by decide +kernel
theorem lk_i174_761 : lk_ins 174 761 = some (.ireturn, 1, (0, [], .null)) := lk_eqE_eq (by decide +kernel)
theorem lk_s174_762_5 : lk_seg 174 [(.aload_n 1, 1, (0, [], .null)), (.aload_n 0, 1, (0, [], .null)), (.iload_n 3, 1, (0, [], .null)), (.iconst 1, 1, (0, [], .int (1))), (.iadd, 1, (0, [], .null))] 762 = some 767 := by decide +kernel
theorem lk_i174_767 : lk_ins 174 767 = some (.iaload, 1, (0, [], .null)) := lk_eqE_eq (by decide +kernel)
theorem lk_s174_768_4 : lk_seg 174 [(.aload_n 0, 1, (0, [], .null)), (.iload_n 3, 1, (0, [], .null)), (.iconst 2, 1, (0, [], .int (2))), (.iadd, 1, (0, [], .null))] 768 = some 772 := by decide +kernel
theorem lk_i174_772 : lk_ins 174 772 = some (.iaload, 1, (0, [], .null)) := lk_eqE_eq (by decide +kernel)
theorem lk_i174_773 : lk_ins 174 773 = some (.invokevirtual 73, 3, (1, [(10, 80)], .ref 142)) := lk_eqE_eq (by decide +kernel)
theorem lk_s174_776_5 : lk_seg 174 [(.aload_n 2, 1, (0, [], .null)), (.aload_n 0, 1, (0, [], .null)), (.iload_n 3, 1, (0, [], .null)), (.iconst 1, 1, (0, [], .int (1))), (.iadd, 1, (0, [], .null))] 776 = some 781 := by decide +kernel
theorem lk_i174_781 : lk_ins 174 781 = some (.iaload, 1, (0, [], .null)) := lk_eqE_eq (by decide +kernel)
theorem lk_s174_782_4 : lk_seg 174 [(.aload_n 0, 1, (0, [], .null)), (.iload_n 3, 1, (0, [], .null)), (.iconst 2, 1, (0, [], .int (2))), (.iadd, 1, (0, [], .null))] 782 = some 786 := by decide +kernel
theorem lk_i174_786 : lk_ins 174 786 = some (.iaload, 1, (0, [], .null)) := lk_eqE_eq (by decide +kernel)
theorem lk_i174_787 : lk_ins 174 787 = some (.invokevirtual 77, 3, (1, [(11, 147)], .ref 143)) := lk_eqE_eq (by decide +kernel)
theorem lk_i174_790 : lk_ins 174 790 = some (.if_icmp .eq 424, 3, (1214, [], .null)) := lk_eqE_eq (by decide +kernel)
theorem lk_s174_793_1 : lk_seg 174 [(.iconst 0, 1, (0, [], .int (0)))] 793 = some 794 := by decide +kernel
theorem lk_i174_794 : lk_ins 174 794 = some (.ireturn, 1, (0, [], .null)) := lk_eqE_eq (by decide +kernel)
theorem lk_s174_795_5 : lk_seg 174 [(.aload_n 1, 1, (0, [], .null)), (.aload_n 0, 1, (0, [], .null)), (.iload_n 3, 1, (0, [], .null)), (.iconst 1, 1, (0, [], .int (1))), (.iadd, 1, (0, [], .null))] 795 = some 800 := by decide +kernel
theorem lk_i174_800 : lk_ins 174 800 = some (.iaload, 1, (0, [], .null)) := lk_eqE_eq (by decide +kernel)
theorem lk_s174_801_4 : lk_seg 174 [(.aload_n 0, 1, (0, [], .null)), (.iload_n 3, 1, (0, [], .null)), (.iconst 2, 1, (0, [], .int (2))), (.iadd, 1, (0, [], .null))] 801 = some 805 := by decide +kernel
theorem lk_i174_805 : lk_ins 174 805 = some (.iaload, 1, (0, [], .null)) := lk_eqE_eq (by decide +kernel)
theorem lk_i174_806 : lk_ins 174 806 = some (.invokevirtual 78, 3, (1, [(10, 81)], .ref 144)) := lk_eqE_eq (by decide +kernel)
theorem lk_s174_809_5 : lk_seg 174 [(.aload_n 2, 1, (0, [], .null)), (.aload_n 0, 1, (0, [], .null)), (.iload_n 3, 1, (0, [], .null)), (.iconst 1, 1, (0, [], .int (1))), (.iadd, 1, (0, [], .null))] 809 = some 814 := by decide +kernel
theorem lk_i174_814 : lk_ins 174 814 = some (.iaload, 1, (0, [], .null)) := lk_eqE_eq (by decide +kernel)
theorem lk_s174_815_4 : lk_seg 174 [(.aload_n 0, 1, (0, [], .null)), (.iload_n 3, 1, (0, [], .null)), (.iconst 2, 1, (0, [], .int (2))), (.iadd, 1, (0, [], .null))] 815 = some 819 := by decide +kernel
theorem lk_i174_819 : lk_ins 174 819 = some (.iaload, 1, (0, [], .null)) := lk_eqE_eq (by decide +kernel)
theorem lk_i174_820 : lk_ins 174 820 = some (.invokevirtual 81, 3, (1, [(11, 148)], .ref 145)) := lk_eqE_eq (by decide +kernel)
theorem lk_i174_823 : lk_ins 174 823 = some (.if_icmp .eq 391, 3, (1214, [], .null)) := lk_eqE_eq (by decide +kernel)
theorem lk_s174_826_1 : lk_seg 174 [(.iconst 0, 1, (0, [], .int (0)))] 826 = some 827 := by decide +kernel
theorem lk_i174_827 : lk_ins 174 827 = some (.ireturn, 1, (0, [], .null)) := lk_eqE_eq (by decide +kernel)
theorem lk_s174_828_5 : lk_seg 174 [(.aload_n 1, 1, (0, [], .null)), (.aload_n 0, 1, (0, [], .null)), (.iload_n 3, 1, (0, [], .null)), (.iconst 1, 1, (0, [], .int (1))), (.iadd, 1, (0, [], .null))] 828 = some 833 := by decide +kernel
theorem lk_i174_833 : lk_ins 174 833 = some (.iaload, 1, (0, [], .null)) := lk_eqE_eq (by decide +kernel)
theorem lk_s174_834_4 : lk_seg 174 [(.aload_n 0, 1, (0, [], .null)), (.iload_n 3, 1, (0, [], .null)), (.iconst 2, 1, (0, [], .int (2))), (.iadd, 1, (0, [], .null))] 834 = some 838 := by decide +kernel
theorem lk_i174_838 : lk_ins 174 838 = some (.iaload, 1, (0, [], .null)) := lk_eqE_eq (by decide +kernel)
theorem lk_i174_839 : lk_ins 174 839 = some (.invokevirtual 82, 3, (1, [(10, 82)], .ref 146)) := lk_eqE_eq (by decide +kernel)
theorem lk_s174_842_5 : lk_seg 174 [(.aload_n 2, 1, (0, [], .null)), (.aload_n 0, 1, (0, [], .null)), (.iload_n 3, 1, (0, [], .null)), (.iconst 1, 1, (0, [], .int (1))), (.iadd, 1, (0, [], .null))] 842 = some 847 := by decide +kernel
theorem lk_i174_847 : lk_ins 174 847 = some (.iaload, 1, (0, [], .null)) := lk_eqE_eq (by decide +kernel)
theorem lk_s174_848_4 : lk_seg 174 [(.aload_n 0, 1, (0, [], .null)), (.iload_n 3, 1, (0, [], .null)), (.iconst 2, 1, (0, [], .int (2))), (.iadd, 1, (0, [], .null))] 848 = some 852 := by decide +kernel
theorem lk_i174_852 : lk_ins 174 852 = some (.iaload, 1, (0, [], .null)) := lk_eqE_eq (by decide +kernel)
theorem lk_i174_853 : lk_ins 174 853 = some (.invokevirtual 85, 3, (1, [(11, 153)], .ref 147)) := lk_eqE_eq (by decide +kernel)
theorem lk_i174_856 : lk_ins 174 856 = some (.if_icmp .eq 358, 3, (1214, [], .null)) := lk_eqE_eq (by decide +kernel)
theorem lk_s174_859_1 : lk_seg 174 [(.iconst 0, 1, (0, [], .int (0)))] 859 = some 860 := by decide +kernel
theorem lk_i174_860 : lk_ins 174 860 = some (.ireturn, 1, (0, [], .null)) := lk_eqE_eq (by decide +kernel)
theorem lk_s174_861_5 : lk_seg 174 [(.aload_n 1, 1, (0, [], .null)), (.aload_n 0, 1, (0, [], .null)), (.iload_n 3, 1, (0, [], .null)), (.iconst 1, 1, (0, [], .int (1))), (.iadd, 1, (0, [], .null))] 861 = some 866 := by decide +kernel
theorem lk_i174_866 : lk_ins 174 866 = some (.iaload, 1, (0, [], .null)) := lk_eqE_eq (by decide +kernel)
theorem lk_i174_867 : lk_ins 174 867 = some (.invokevirtual 86, 3, (1, [(10, 83)], .ref 148)) := lk_eqE_eq (by decide +kernel)
theorem lk_s174_870_5 : lk_seg 174 [(.aload_n 2, 1, (0, [], .null)), (.aload_n 0, 1, (0, [], .null)), (.iload_n 3, 1, (0, [], .null)), (.iconst 1, 1, (0, [], .int (1))), (.iadd, 1, (0, [], .null))] 870 = some 875 := by decide +kernel
theorem lk_i174_875 : lk_ins 174 875 = some (.iaload, 1, (0, [], .null)) := lk_eqE_eq (by decide +kernel)
theorem lk_i174_876 : lk_ins 174 876 = some (.invokevirtual 89, 3, (1, [(11, 154)], .ref 149)) := lk_eqE_eq (by decide +kernel)
theorem lk_i174_879 : lk_ins 174 879 = some (.if_icmp .eq 335, 3, (1214, [], .null)) := lk_eqE_eq (by decide +kernel)
theorem lk_s174_882_1 : lk_seg 174 [(.iconst 0, 1, (0, [], .int (0)))] 882 = some 883 := by decide +kernel
theorem lk_i174_883 : lk_ins 174 883 = some (.ireturn, 1, (0, [], .null)) := lk_eqE_eq (by decide +kernel)
theorem lk_s174_884_5 : lk_seg 174 [(.aload_n 1, 1, (0, [], .null)), (.aload_n 0, 1, (0, [], .null)), (.iload_n 3, 1, (0, [], .null)), (.iconst 1, 1, (0, [], .int (1))), (.iadd, 1, (0, [], .null))] 884 = some 889 := by decide +kernel
theorem lk_i174_889 : lk_ins 174 889 = some (.iaload, 1, (0, [], .null)) := lk_eqE_eq (by decide +kernel)
theorem lk_s174_890_4 : lk_seg 174 [(.aload_n 0, 1, (0, [], .null)), (.iload_n 3, 1, (0, [], .null)), (.iconst 2, 1, (0, [], .int (2))), (.iadd, 1, (0, [], .null))] 890 = some 894 := by decide +kernel
theorem lk_i174_894 : lk_ins 174 894 = some (.iaload, 1, (0, [], .null)) := lk_eqE_eq (by decide +kernel)
theorem lk_i174_895 : lk_ins 174 895 = some (.invokevirtual 90, 3, (1, [(10, 84)], .ref 150)) := lk_eqE_eq (by decide +kernel)
theorem lk_s174_898_5 : lk_seg 174 [(.aload_n 2, 1, (0, [], .null)), (.aload_n 0, 1, (0, [], .null)), (.iload_n 3, 1, (0, [], .null)), (.iconst 1, 1, (0, [], .int (1))), (.iadd, 1, (0, [], .null))] 898 = some 903 := by decide +kernel
theorem lk_i174_903 : lk_ins 174 903 = some (.iaload, 1, (0, [], .null)) := lk_eqE_eq (by decide +kernel)
theorem lk_s174_904_4 : lk_seg 174 [(.aload_n 0, 1, (0, [], .null)), (.iload_n 3, 1, (0, [], .null)), (.iconst 2, 1, (0, [], .int (2))), (.iadd, 1, (0, [], .null))] 904 = some 908 := by decide +kernel
theorem lk_i174_908 : lk_ins 174 908 = some (.iaload, 1, (0, [], .null)) := lk_eqE_eq (by decide +kernel)
theorem lk_i174_909 : lk_ins 174 909 = some (.invokevirtual 93, 3, (1, [(11, 155)], .ref 151)) := lk_eqE_eq (by decide +kernel)
theorem lk_i174_912 : lk_ins 174 912 = some (.if_icmp .eq 302, 3, (1214, [], .null)) := lk_eqE_eq (by decide +kernel)
theorem lk_s174_915_1 : lk_seg 174 [(.iconst 0, 1, (0, [], .int (0)))] 915 = some 916 := by decide +kernel
theorem lk_i174_916 : lk_ins 174 916 = some (.ireturn, 1, (0, [], .null)) := lk_eqE_eq (by decide +kernel)
theorem lk_s174_917_5 : lk_seg 174 [(.aload_n 1, 1, (0, [], .null)), (.aload_n 0, 1, (0, [], .null)), (.iload_n 3, 1, (0, [], .null)), (.iconst 1, 1, (0, [], .int (1))), (.iadd, 1, (0, [], .null))] 917 = some 922 := by decide +kernel
theorem lk_i174_922 : lk_ins 174 922 = some (.iaload, 1, (0, [], .null)) := lk_eqE_eq (by decide +kernel)
theorem lk_s174_923_4 : lk_seg 174 [(.aload_n 0, 1, (0, [], .null)), (.iload_n 3, 1, (0, [], .null)), (.iconst 2, 1, (0, [], .int (2))), (.iadd, 1, (0, [], .null))] 923 = some 927 := by decide +kernel
theorem lk_i174_927 : lk_ins 174 927 = some (.iaload, 1, (0, [], .null)) := lk_eqE_eq (by decide +kernel)
theorem lk_i174_928 : lk_ins 174 928 = some (.invokevirtual 94, 3, (1, [(10, 85)], .ref 152)) := lk_eqE_eq (by decide +kernel)
theorem lk_s174_931_5 : lk_seg 174 [(.aload_n 2, 1, (0, [], .null)), (.aload_n 0, 1, (0, [], .null)), (.iload_n 3, 1, (0, [], .null)), (.iconst 1, 1, (0, [], .int (1))), (.iadd, 1, (0, [], .null))] 931 = some 936 := by decide +kernel
theorem lk_i174_936 : lk_ins 174 936 = some (.iaload, 1, (0, [], .null)) := lk_eqE_eq (by decide +kernel)
theorem lk_s174_937_4 : lk_seg 174 [(.aload_n 0, 1, (0, [], .null)), (.iload_n 3, 1, (0, [], .null)), (.iconst 2, 1, (0, [], .int (2))), (.iadd, 1, (0, [], .null))] 937 = some 941 := by decide +kernel
theorem lk_i174_941 : lk_ins 174 941 = some (.iaload, 1, (0, [], .null)) := lk_eqE_eq (by decide +kernel)
theorem lk_i174_942 : lk_ins 174 942 = some (.invokevirtual 97, 3, (1, [(11, 156)], .ref 153)) := lk_eqE_eq (by decide +kernel)
theorem lk_i174_945 : lk_ins 174 945 = some (.if_icmp .eq 269, 3, (1214, [], .null)) := lk_eqE_eq (by decide +kernel)
theorem lk_s174_948_1 : lk_seg 174 [(.iconst 0, 1, (0, [], .int (0)))] 948 = some 949 := by decide +kernel
theorem lk_i174_949 : lk_ins 174 949 = some (.ireturn, 1, (0, [], .null)) := lk_eqE_eq (by decide +kernel)
theorem lk_s174_950_5 : lk_seg 174 [(.aload_n 1, 1, (0, [], .null)), (.aload_n 0, 1, (0, [], .null)), (.iload_n 3, 1, (0, [], .null)), (.iconst 1, 1, (0, [], .int (1))), (.iadd, 1, (0, [], .null))] 950 = some 955 := by decide +kernel
theorem lk_i174_955 : lk_ins 174 955 = some (.iaload, 1, (0, [], .null)) := lk_eqE_eq (by decide +kernel)
theorem lk_s174_956_4 : lk_seg 174 [(.aload_n 0, 1, (0, [], .null)), (.iload_n 3, 1, (0, [], .null)), (.iconst 2, 1, (0, [], .int (2))), (.iadd, 1, (0, [], .null))] 956 = some 960 := by decide +kernel
theorem lk_i174_960 : lk_ins 174 960 = some (.iaload, 1, (0, [], .null)) := lk_eqE_eq (by decide +kernel)
theorem lk_s174_961_4 : lk_seg 174 [(.aload_n 0, 1, (0, [], .null)), (.iload_n 3, 1, (0, [], .null)), (.iconst 3, 1, (0, [], .int (3))), (.iadd, 1, (0, [], .null))] 961 = some 965 := by decide +kernel
theorem lk_i174_965 : lk_ins 174 965 = some (.iaload, 1, (0, [], .null)) := lk_eqE_eq (by decide +kernel)
theorem lk_s174_966_4 : lk_seg 174 [(.aload_n 0, 1, (0, [], .null)), (.iload_n 3, 1, (0, [], .null)), (.iconst 4, 1, (0, [], .int (4))), (.iadd, 1, (0, [], .null))] 966 = some 970 := by decide +kernel
theorem lk_i174_970 : lk_ins 174 970 = some (.iaload, 1, (0, [], .null)) := lk_eqE_eq (by decide +kernel)
theorem lk_i174_971 : lk_ins 174 971 = some (.invokevirtual 98, 3, (1, [(10, 86)], .ref 154)) := lk_eqE_eq (by decide +kernel)
theorem lk_s174_974_5 : lk_seg 174 [(.aload_n 2, 1, (0, [], .null)), (.aload_n 0, 1, (0, [], .null)), (.iload_n 3, 1, (0, [], .null)), (.iconst 1, 1, (0, [], .int (1))), (.iadd, 1, (0, [], .null))] 974 = some 979 := by decide +kernel
theorem lk_i174_979 : lk_ins 174 979 = some (.iaload, 1, (0, [], .null)) := lk_eqE_eq (by decide +kernel)
theorem lk_s174_980_4 : lk_seg 174 [(.aload_n 0, 1, (0, [], .null)), (.iload_n 3, 1, (0, [], .null)), (.iconst 2, 1, (0, [], .int (2))), (.iadd, 1, (0, [], .null))] 980 = some 984 := by decide +kernel
theorem lk_i174_984 : lk_ins 174 984 = some (.iaload, 1, (0, [], .null)) := lk_eqE_eq (by decide +kernel)
theorem lk_s174_985_4 : lk_seg 174 [(.aload_n 0, 1, (0, [], .null)), (.iload_n 3, 1, (0, [], .null)), (.iconst 3, 1, (0, [], .int (3))), (.iadd, 1, (0, [], .null))] 985 = some 989 := by decide +kernel
theorem lk_i174_989 : lk_ins 174 989 = some (.iaload, 1, (0, [], .null)) := lk_eqE_eq (by decide +kernel)
theorem lk_s174_990_4 : lk_seg 174 [(.aload_n 0, 1, (0, [], .null)), (.iload_n 3, 1, (0, [], .null)), (.iconst 4, 1, (0, [], .int (4))), (.iadd, 1, (0, [], .null))] 990 = some 994 := by decide +kernel
theorem lk_i174_994 : lk_ins 174 994 = some (.iaload, 1, (0, [], .null)) := lk_eqE_eq (by decide +kernel)
theorem lk_i174_995 : lk_ins 174 995 = some (.invokevirtual 101, 3, (1, [(11, 159)], .ref 155)) := lk_eqE_eq (by decide +kernel)
theorem lk_i174_998 : lk_ins 174 998 = some (.if_icmp .eq 216, 3, (1214, [], .null)) := lk_eqE_eq (by decide +kernel)
theorem lk_s174_1001_1 : lk_seg 174 [(.iconst 0, 1, (0, [], .int (0)))] 1001 = some 1002 := by decide +kernel
theorem lk_i174_1002 : lk_ins 174 1002 = some (.ireturn, 1, (0, [], .null)) := lk_eqE_eq (by decide +kernel)
theorem lk_s174_1003_5 : lk_seg 174 [(.aload_n 1, 1, (0, [], .null)), (.aload_n 0, 1, (0, [], .null)), (.iload_n 3, 1, (0, [], .null)), (.iconst 1, 1, (0, [], .int (1))), (.iadd, 1, (0, [], .null))] 1003 = some 1008 := by decide +kernel
theorem lk_i174_1008 : lk_ins 174 1008 = some (.iaload, 1, (0, [], .null)) := lk_eqE_eq (by decide +kernel)
theorem lk_i174_1009 : lk_ins 174 1009 = some (.invokevirtual 102, 3, (1, [(10, 87)], .ref 156)) := lk_eqE_eq (by decide +kernel)
theorem lk_s174_1012_5 : lk_seg 174 [(.aload_n 2, 1, (0, [], .null)), (.aload_n 0, 1, (0, [], .null)), (.iload_n 3, 1, (0, [], .null)), (.iconst 1, 1, (0, [], .int (1))), (.iadd, 1, (0, [], .null))] 1012 = some 1017 := by decide +kernel
theorem lk_i174_1017 : lk_ins 174 1017 = some (.iaload, 1, (0, [], .null)) := lk_eqE_eq (by decide +kernel)
theorem lk_i174_1018 : lk_ins 174 1018 = some (.invokevirtual 105, 3, (1, [(11, 161)], .ref 157)) := lk_eqE_eq (by decide +kernel)
theorem lk_i174_1021 : lk_ins 174 1021 = some (.if_icmp .eq 193, 3, (1214, [], .null)) := lk_eqE_eq (by decide +kernel)
theorem lk_s174_1024_1 : lk_seg 174 [(.iconst 0, 1, (0, [], .int (0)))] 1024 = some 1025 := by decide +kernel
theorem lk_i174_1025 : lk_ins 174 1025 = some (.ireturn, 1, (0, [], .null)) := lk_eqE_eq (by decide +kernel)
theorem lk_s174_1026_5 : lk_seg 174 [(.aload_n 1, 1, (0, [], .null)), (.aload_n 0, 1, (0, [], .null)), (.iload_n 3, 1, (0, [], .null)), (.iconst 1, 1, (0, [], .int (1))), (.iadd, 1, (0, [], .null))] 1026 = some 1031 := by decide +kernel
theorem lk_i174_1031 : lk_ins 174 1031 = some (.iaload, 1, (0, [], .null)) := lk_eqE_eq (by decide +kernel)
theorem lk_s174_1032_4 : lk_seg 174 [(.aload_n 0, 1, (0, [], .null)), (.iload_n 3, 1, (0, [], .null)), (.iconst 2, 1, (0, [], .int (2))), (.iadd, 1, (0, [], .null))] 1032 = some 1036 := by decide +kernel
theorem lk_i174_1036 : lk_ins 174 1036 = some (.iaload, 1, (0, [], .null)) := lk_eqE_eq (by decide +kernel)
theorem lk_i174_1037 : lk_ins 174 1037 = some (.invokevirtual 106, 3, (1, [(10, 88)], .ref 158)) := lk_eqE_eq (by decide +kernel)
theorem lk_s174_1040_5 : lk_seg 174 [(.aload_n 2, 1, (0, [], .null)), (.aload_n 0, 1, (0, [], .null)), (.iload_n 3, 1, (0, [], .null)), (.iconst 1, 1, (0, [], .int (1))), (.iadd, 1, (0, [], .null))] 1040 = some 1045 := by decide +kernel
theorem lk_i174_1045 : lk_ins 174 1045 = some (.iaload, 1, (0, [], .null)) := lk_eqE_eq (by decide +kernel)
theorem lk_s174_1046_4 : lk_seg 174 [(.aload_n 0, 1, (0, [], .null)), (.iload_n 3, 1, (0, [], .null)), (.iconst 2, 1, (0, [], .int (2))), (.iadd, 1, (0, [], .null))] 1046 = some 1050 := by decide +kernel
theorem lk_i174_1050 : lk_ins 174 1050 = some (.iaload, 1, (0, [], .null)) := lk_eqE_eq (by decide +kernel)
theorem lk_i174_1051 : lk_ins 174 1051 = some (.invokevirtual 109, 3, (1, [(11, 162)], .ref 159)) := lk_eqE_eq (by decide +kernel)
theorem lk_i174_1054 : lk_ins 174 1054 = some (.if_icmp .eq 160, 3, (1214, [], .null)) := lk_eqE_eq (by decide +kernel)
theorem lk_s174_1057_1 : lk_seg 174 [(.iconst 0, 1, (0, [], .int (0)))] 1057 = some 1058 := by decide +kernel
theorem lk_i174_1058 : lk_ins 174 1058 = some (.ireturn, 1, (0, [], .null)) := lk_eqE_eq (by decide +kernel)
theorem lk_s174_1059_5 : lk_seg 174 [(.aload_n 1, 1, (0, [], .null)), (.aload_n 0, 1, (0, [], .null)), (.iload_n 3, 1, (0, [], .null)), (.iconst 1, 1, (0, [], .int (1))), (.iadd, 1, (0, [], .null))] 1059 = some 1064 := by decide +kernel
theorem lk_i174_1064 : lk_ins 174 1064 = some (.iaload, 1, (0, [], .null)) := lk_eqE_eq (by decide +kernel)
theorem lk_s174_1065_4 : lk_seg 174 [(.aload_n 0, 1, (0, [], .null)), (.iload_n 3, 1, (0, [], .null)), (.iconst 2, 1, (0, [], .int (2))), (.iadd, 1, (0, [], .null))] 1065 = some 1069 := by decide +kernel
theorem lk_i174_1069 : lk_ins 174 1069 = some (.iaload, 1, (0, [], .null)) := lk_eqE_eq (by decide +kernel)
theorem lk_s174_1070_4 : lk_seg 174 [(.aload_n 0, 1, (0, [], .null)), (.iload_n 3, 1, (0, [], .null)), (.iconst 3, 1, (0, [], .int (3))), (.iadd, 1, (0, [], .null))] 1070 = some 1074 := by decide +kernel
theorem lk_i174_1074 : lk_ins 174 1074 = some (.iaload, 1, (0, [], .null)) := lk_eqE_eq (by decide +kernel)
theorem lk_s174_1075_4 : lk_seg 174 [(.aload_n 0, 1, (0, [], .null)), (.iload_n 3, 1, (0, [], .null)), (.iconst 4, 1, (0, [], .int (4))), (.iadd, 1, (0, [], .null))] 1075 = some 1079 := by decide +kernel
theorem lk_i174_1079 : lk_ins 174 1079 = some (.iaload, 1, (0, [], .null)) := lk_eqE_eq (by decide +kernel)
theorem lk_s174_1080_4 : lk_seg 174 [(.aload_n 0, 1, (0, [], .null)), (.iload_n 3, 1, (0, [], .null)), (.iconst 5, 1, (0, [], .int (5))), (.iadd, 1, (0, [], .null))] 1080 = some 1084 := by decide +kernel
theorem lk_i174_1084 : lk_ins 174 1084 = some (.iaload, 1, (0, [], .null)) := lk_eqE_eq (by decide +kernel)
theorem lk_i174_1085 : lk_ins 174 1085 = some (.invokevirtual 110, 3, (1, [(10, 89)], .ref 160)) := lk_eqE_eq (by decide +kernel)
theorem lk_s174_1088_5 : lk_seg 174 [(.aload_n 2, 1, (0, [], .null)), (.aload_n 0, 1, (0, [], .null)), (.iload_n 3, 1, (0, [], .null)), (.iconst 1, 1, (0, [], .int (1))), (.iadd, 1, (0, [], .null))] 1088 = some 1093 := by decide +kernel
theorem lk_i174_1093 : lk_ins 174 1093 = some (.iaload, 1, (0, [], .null)) := lk_eqE_eq (by decide +kernel)
theorem lk_s174_1094_4 : lk_seg 174 [(.aload_n 0, 1, (0, [], .null)), (.iload_n 3, 1, (0, [], .null)), (.iconst 2, 1, (0, [], .int (2))), (.iadd, 1, (0, [], .null))] 1094 = some 1098 := by decide +kernel
theorem lk_i174_1098 : lk_ins 174 1098 = some (.iaload, 1, (0, [], .null)) := lk_eqE_eq (by decide +kernel)
theorem lk_s174_1099_4 : lk_seg 174 [(.aload_n 0, 1, (0, [], .null)), (.iload_n 3, 1, (0, [], .null)), (.iconst 3, 1, (0, [], .int (3))), (.iadd, 1, (0, [], .null))] 1099 = some 1103 := by decide +kernel
theorem lk_i174_1103 : lk_ins 174 1103 = some (.iaload, 1, (0, [], .null)) := lk_eqE_eq (by decide +kernel)
theorem lk_s174_1104_4 : lk_seg 174 [(.aload_n 0, 1, (0, [], .null)), (.iload_n 3, 1, (0, [], .null)), (.iconst 4, 1, (0, [], .int (4))), (.iadd, 1, (0, [], .null))] 1104 = some 1108 := by decide +kernel
theorem lk_i174_1108 : lk_ins 174 1108 = some (.iaload, 1, (0, [], .null)) := lk_eqE_eq (by decide +kernel)
theorem lk_s174_1109_4 : lk_seg 174 [(.aload_n 0, 1, (0, [], .null)), (.iload_n 3, 1, (0, [], .null)), (.iconst 5, 1, (0, [], .int (5))), (.iadd, 1, (0, [], .null))] 1109 = some 1113 := by decide +kernel
theorem lk_i174_1113 : lk_ins 174 1113 = some (.iaload, 1, (0, [], .null)) := lk_eqE_eq (by decide +kernel)
theorem lk_i174_1114 : lk_ins 174 1114 = some (.invokevirtual 113, 3, (1, [(11, 163)], .ref 161)) := lk_eqE_eq (by decide +kernel)
theorem lk_i174_1117 : lk_ins 174 1117 = some (.if_icmp .eq 97, 3, (1214, [], .null)) := lk_eqE_eq (by decide +kernel)
theorem lk_s174_1120_1 : lk_seg 174 [(.iconst 0, 1, (0, [], .int (0)))] 1120 = some 1121 := by decide +kernel
theorem lk_i174_1121 : lk_ins 174 1121 = some (.ireturn, 1, (0, [], .null)) := lk_eqE_eq (by decide +kernel)
theorem lk_s174_1122_5 : lk_seg 174 [(.aload_n 1, 1, (0, [], .null)), (.aload_n 0, 1, (0, [], .null)), (.iload_n 3, 1, (0, [], .null)), (.iconst 1, 1, (0, [], .int (1))), (.iadd, 1, (0, [], .null))] 1122 = some 1127 := by decide +kernel
theorem lk_i174_1127 : lk_ins 174 1127 = some (.iaload, 1, (0, [], .null)) := lk_eqE_eq (by decide +kernel)
theorem lk_s174_1128_4 : lk_seg 174 [(.aload_n 0, 1, (0, [], .null)), (.iload_n 3, 1, (0, [], .null)), (.iconst 2, 1, (0, [], .int (2))), (.iadd, 1, (0, [], .null))] 1128 = some 1132 := by decide +kernel
theorem lk_i174_1132 : lk_ins 174 1132 = some (.iaload, 1, (0, [], .null)) := lk_eqE_eq (by decide +kernel)
theorem lk_i174_1133 : lk_ins 174 1133 = some (.invokevirtual 114, 3, (1, [(10, 90)], .ref 162)) := lk_eqE_eq (by decide +kernel)
theorem lk_s174_1136_5 : lk_seg 174 [(.aload_n 2, 1, (0, [], .null)), (.aload_n 0, 1, (0, [], .null)), (.iload_n 3, 1, (0, [], .null)), (.iconst 1, 1, (0, [], .int (1))), (.iadd, 1, (0, [], .null))] 1136 = some 1141 := by decide +kernel
theorem lk_i174_1141 : lk_ins 174 1141 = some (.iaload, 1, (0, [], .null)) := lk_eqE_eq (by decide +kernel)
theorem lk_s174_1142_4 : lk_seg 174 [(.aload_n 0, 1, (0, [], .null)), (.iload_n 3, 1, (0, [], .null)), (.iconst 2, 1, (0, [], .int (2))), (.iadd, 1, (0, [], .null))] 1142 = some 1146 := by decide +kernel
theorem lk_i174_1146 : lk_ins 174 1146 = some (.iaload, 1, (0, [], .null)) := lk_eqE_eq (by decide +kernel)
theorem lk_i174_1147 : lk_ins 174 1147 = some (.invokevirtual 117, 3, (1, [(11, 165)], .ref 163)) := lk_eqE_eq (by decide +kernel)
theorem lk_i174_1150 : lk_ins 174 1150 = some (.if_icmp .eq 64, 3, (1214, [], .null)) := lk_eqE_eq (by decide +kernel)
theorem lk_s174_1153_1 : lk_seg 174 [(.iconst 0, 1, (0, [], .int (0)))] 1153 = some 1154 := by decide +kernel
theorem lk_i174_1154 : lk_ins 174 1154 = some (.ireturn, 1, (0, [], .null)) := lk_eqE_eq (by decide +kernel)
theorem lk_s174_1155_5 : lk_seg 174 [(.aload_n 1, 1, (0, [], .null)), (.aload_n 0, 1, (0, [], .null)), (.iload_n 3, 1, (0, [], .null)), (.iconst 1, 1, (0, [], .int (1))), (.iadd, 1, (0, [], .null))] 1155 = some 1160 := by decide +kernel
theorem lk_i174_1160 : lk_ins 174 1160 = some (.iaload, 1, (0, [], .null)) := lk_eqE_eq (by decide +kernel)
theorem lk_i174_1161 : lk_ins 174 1161 = some (.invokevirtual 118, 3, (1, [(10, 91)], .ref 164)) := lk_eqE_eq (by decide +kernel)
theorem lk_s174_1164_5 : lk_seg 174 [(.aload_n 2, 1, (0, [], .null)), (.aload_n 0, 1, (0, [], .null)), (.iload_n 3, 1, (0, [], .null)), (.iconst 1, 1, (0, [], .int (1))), (.iadd, 1, (0, [], .null))] 1164 = some 1169 := by decide +kernel
theorem lk_i174_1169 : lk_ins 174 1169 = some (.iaload, 1, (0, [], .null)) := lk_eqE_eq (by decide +kernel)
theorem lk_i174_1170 : lk_ins 174 1170 = some (.invokevirtual 121, 3, (1, [(11, 167)], .ref 165)) := lk_eqE_eq (by decide +kernel)
theorem lk_i174_1173 : lk_ins 174 1173 = some (.if_icmp .eq 41, 3, (1214, [], .null)) := lk_eqE_eq (by decide +kernel)
theorem lk_s174_1176_1 : lk_seg 174 [(.iconst 0, 1, (0, [], .int (0)))] 1176 = some 1177 := by decide +kernel
theorem lk_i174_1177 : lk_ins 174 1177 = some (.ireturn, 1, (0, [], .null)) := lk_eqE_eq (by decide +kernel)
theorem lk_s174_1178_5 : lk_seg 174 [(.aload_n 1, 1, (0, [], .null)), (.aload_n 0, 1, (0, [], .null)), (.iload_n 3, 1, (0, [], .null)), (.iconst 1, 1, (0, [], .int (1))), (.iadd, 1, (0, [], .null))] 1178 = some 1183 := by decide +kernel
theorem lk_i174_1183 : lk_ins 174 1183 = some (.iaload, 1, (0, [], .null)) := lk_eqE_eq (by decide +kernel)
theorem lk_i174_1184 : lk_ins 174 1184 = some (.invokevirtual 122, 3, (1, [(10, 92)], .ref 166)) := lk_eqE_eq (by decide +kernel)
theorem lk_s174_1187_5 : lk_seg 174 [(.aload_n 2, 1, (0, [], .null)), (.aload_n 0, 1, (0, [], .null)), (.iload_n 3, 1, (0, [], .null)), (.iconst 1, 1, (0, [], .int (1))), (.iadd, 1, (0, [], .null))] 1187 = some 1192 := by decide +kernel
theorem lk_i174_1192 : lk_ins 174 1192 = some (.iaload, 1, (0, [], .null)) := lk_eqE_eq (by decide +kernel)
theorem lk_i174_1193 : lk_ins 174 1193 = some (.invokevirtual 125, 3, (1, [(11, 168)], .ref 167)) := lk_eqE_eq (by decide +kernel)
theorem lk_i174_1196 : lk_ins 174 1196 = some (.if_icmp .eq 18, 3, (1214, [], .null)) := lk_eqE_eq (by decide +kernel)
theorem lk_s174_1199_1 : lk_seg 174 [(.iconst 0, 1, (0, [], .int (0)))] 1199 = some 1200 := by decide +kernel
theorem lk_i174_1200 : lk_ins 174 1200 = some (.ireturn, 1, (0, [], .null)) := lk_eqE_eq (by decide +kernel)
theorem lk_s174_1201_1 : lk_seg 174 [(.aload_n 1, 1, (0, [], .null))] 1201 = some 1202 := by decide +kernel
theorem lk_i174_1202 : lk_ins 174 1202 = some (.invokevirtual 126, 3, (1, [(10, 93)], .ref 168)) := lk_eqE_eq (by decide +kernel)
theorem lk_s174_1205_1 : lk_seg 174 [(.aload_n 2, 1, (0, [], .null))] 1205 = some 1206 := by decide +kernel
theorem lk_i174_1206 : lk_ins 174 1206 = some (.invokevirtual 130, 3, (1, [(11, 169)], .ref 169)) := lk_eqE_eq (by decide +kernel)
theorem lk_i174_1209 : lk_ins 174 1209 = some (.if_icmp .eq 5, 3, (1214, [], .null)) := lk_eqE_eq (by decide +kernel)
theorem lk_s174_1212_1 : lk_seg 174 [(.iconst 0, 1, (0, [], .int (0)))] 1212 = some 1213 := by decide +kernel
theorem lk_i174_1213 : lk_ins 174 1213 = some (.ireturn, 1, (0, [], .null)) := lk_eqE_eq (by decide +kernel)
set_option maxRecDepth 20000 in
theorem E_law_law {X : lk_X} {d : Nat} {h : lk_H} {Q : Option Value → lk_H → Prop} (H : lk_ob ((h ++ [.inr (10, [.null, .null, .null, .null, .null, .null, .int 0])])) h.length (lk_wxv X d 65 [.ref (h.length)] ((h ++ [.inr (10, [.null, .null, .null, .null, .null, .null, .int 0])])) (fun h1 => lk_ob ((h1 ++ [.inr (11, [.null, .null, .null, .null, .null, .null, .null, .int 0, .null, .int 0, .null, .null, .null, .null, .int 0, .null, .null])])) h1.length (lk_wxv X d 111 [.ref (h1.length)] ((h1 ++ [.inr (11, [.null, .null, .null, .null, .null, .null, .null, .int 0, .null, .int 0, .null, .null, .null, .null, .int 0, .null, .null])])) (fun h2 => lk_wp X (d + 1) 174 18 [.retAddr 1, .ref (h.length), .ref (h1.length), .int 0] [] h2 Q))))) : lk_wx X (d + 1) 174 [.retAddr 1] h Q := by
  refine lk_enter (lo := [.retAddr 1, .retAddr 0, .retAddr 0, .retAddr 0]) lk_M174 rfl (Nat.le_of_ble_eq_true rfl) ?_
  refine lk_wp_new lk_i174_0 lk_M174 rfl ?_
  refine lk_wp_seg (lo' := [.retAddr 1, .retAddr 0, .retAddr 0, .retAddr 0]) (st' := [.ref (h.length), .ref (h.length)]) lk_M174 lk_s174_3_1 rfl ?_
  refine lk_wp_cp (as := []) (r := [.ref (h.length)]) (a := h.length) lk_i174_4 lk_M174 rfl rfl rfl rfl (Nat.le_of_ble_eq_true rfl) H (fun H => lk_gv H (fun h1 H => ?_))
  refine lk_wp_seg (lo' := [.retAddr 1, .ref (h.length), .retAddr 0, .retAddr 0]) (st' := []) lk_M174 lk_s174_7_1 rfl ?_
  refine lk_wp_new lk_i174_8 lk_M174 rfl ?_
  refine lk_wp_seg (lo' := [.retAddr 1, .ref (h.length), .retAddr 0, .retAddr 0]) (st' := [.ref (h1.length), .ref (h1.length)]) lk_M174 lk_s174_11_1 rfl ?_
  refine lk_wp_cp (as := []) (r := [.ref (h1.length)]) (a := h1.length) lk_i174_12 lk_M174 rfl rfl rfl rfl (Nat.le_of_ble_eq_true rfl) H (fun H => lk_gv H (fun h2 H => ?_))
  refine lk_wp_seg (lo' := [.retAddr 1, .ref (h.length), .ref (h1.length), .int 0]) (st' := []) lk_M174 lk_s174_15_3 rfl ?_
  exact H
set_option maxRecDepth 20000 in
theorem F_law_law_18 {X : lk_X} {d : Nat} {x3 : Int32} {a1 a2 : Nat} {h : lk_H} {Q : Option Value → lk_H → Prop} (H : (((Int32.ofNat X.1) - 6) < x3 → Q (some (.int 1)) h) ∧ (¬ ((Int32.ofNat X.1) - 6) < x3 → vp_in (x3) X.1 ∧ ((((X.2 (x3).toNatClampNeg) &&& 31) = Int32.ofNat 0 → vp_in (x3 + 1) X.1 ∧ (vp_in (x3 + 2) X.1 ∧ (vp_in (x3 + 3) X.1 ∧ (lk_vc h a1 [(10, 66)] (fun k6 => lk_wxi X d k6 [.ref a1, .int (X.2 (x3 + 1).toNatClampNeg), .int (X.2 (x3 + 2).toNatClampNeg), .int (X.2 (x3 + 3).toNatClampNeg)] h (fun r2 h1 => vp_in (x3 + 1) X.1 ∧ (vp_in (x3 + 2) X.1 ∧ (vp_in (x3 + 3) X.1 ∧ (lk_vc h1 a2 [(11, 116)] (fun k5 => lk_wxi X d k5 [.ref a2, .int (X.2 (x3 + 1).toNatClampNeg), .int (X.2 (x3 + 2).toNatClampNeg), .int (X.2 (x3 + 3).toNatClampNeg)] h1 (fun r4 h3 => (r2 = r4 → lk_wp X (d + 1) 174 18 [.retAddr 1, .ref a1, .ref a2, .int (x3 + 6)] [] h3 Q) ∧ (¬ r2 = r4 → Q (some (.int 0)) h3)))))))))))) ∧ (¬ ((X.2 (x3).toNatClampNeg) &&& 31) = Int32.ofNat 0 → (((X.2 (x3).toNatClampNeg) &&& 31) = Int32.ofNat 1 → vp_in (x3 + 1) X.1 ∧ (vp_in (x3 + 2) X.1 ∧ (vp_in (x3 + 3) X.1 ∧ (lk_vc h a1 [(10, 67)] (fun k12 => lk_wxi X d k12 [.ref a1, .int (X.2 (x3 + 1).toNatClampNeg), .int (X.2 (x3 + 2).toNatClampNeg), .int (X.2 (x3 + 3).toNatClampNeg)] h (fun r8 h7 => vp_in (x3 + 1) X.1 ∧ (vp_in (x3 + 2) X.1 ∧ (vp_in (x3 + 3) X.1 ∧ (lk_vc h7 a2 [(11, 117)] (fun k11 => lk_wxi X d k11 [.ref a2, .int (X.2 (x3 + 1).toNatClampNeg), .int (X.2 (x3 + 2).toNatClampNeg), .int (X.2 (x3 + 3).toNatClampNeg)] h7 (fun r10 h9 => (r8 = r10 → lk_wp X (d + 1) 174 18 [.retAddr 1, .ref a1, .ref a2, .int (x3 + 6)] [] h9 Q) ∧ (¬ r8 = r10 → Q (some (.int 0)) h9)))))))))))) ∧ (¬ ((X.2 (x3).toNatClampNeg) &&& 31) = Int32.ofNat 1 → (((X.2 (x3).toNatClampNeg) &&& 31) = Int32.ofNat 2 → vp_in (x3 + 1) X.1 ∧ (vp_in (x3 + 2) X.1 ∧ (vp_in (x3 + 3) X.1 ∧ (vp_in (x3 + 4) X.1 ∧ (vp_in (x3 + 5) X.1 ∧ (lk_vc h a1 [(10, 68)] (fun k18 => lk_wxi X d k18 [.ref a1, .int (X.2 (x3 + 1).toNatClampNeg), .int (X.2 (x3 + 2).toNatClampNeg), .int (X.2 (x3 + 3).toNatClampNeg), .int (X.2 (x3 + 4).toNatClampNeg), .int (X.2 (x3 + 5).toNatClampNeg)] h (fun r14 h13 => vp_in (x3 + 1) X.1 ∧ (vp_in (x3 + 2) X.1 ∧ (vp_in (x3 + 3) X.1 ∧ (vp_in (x3 + 4) X.1 ∧ (vp_in (x3 + 5) X.1 ∧ (lk_vc h13 a2 [(11, 118)] (fun k17 => lk_wxi X d k17 [.ref a2, .int (X.2 (x3 + 1).toNatClampNeg), .int (X.2 (x3 + 2).toNatClampNeg), .int (X.2 (x3 + 3).toNatClampNeg), .int (X.2 (x3 + 4).toNatClampNeg), .int (X.2 (x3 + 5).toNatClampNeg)] h13 (fun r16 h15 => (r14 = r16 → lk_wp X (d + 1) 174 18 [.retAddr 1, .ref a1, .ref a2, .int (x3 + 6)] [] h15 Q) ∧ (¬ r14 = r16 → Q (some (.int 0)) h15)))))))))))))))) ∧ (¬ ((X.2 (x3).toNatClampNeg) &&& 31) = Int32.ofNat 2 → (((X.2 (x3).toNatClampNeg) &&& 31) = Int32.ofNat 3 → vp_in (x3 + 1) X.1 ∧ (lk_vc h a1 [(10, 69)] (fun k24 => lk_wxi X d k24 [.ref a1, .int (X.2 (x3 + 1).toNatClampNeg)] h (fun r20 h19 => vp_in (x3 + 1) X.1 ∧ (lk_vc h19 a2 [(11, 119)] (fun k23 => lk_wxi X d k23 [.ref a2, .int (X.2 (x3 + 1).toNatClampNeg)] h19 (fun r22 h21 => (r20 = r22 → lk_wp X (d + 1) 174 18 [.retAddr 1, .ref a1, .ref a2, .int (x3 + 6)] [] h21 Q) ∧ (¬ r20 = r22 → Q (some (.int 0)) h21)))))))) ∧ (¬ ((X.2 (x3).toNatClampNeg) &&& 31) = Int32.ofNat 3 → (((X.2 (x3).toNatClampNeg) &&& 31) = Int32.ofNat 4 → vp_in (x3 + 1) X.1 ∧ (vp_in (x3 + 2) X.1 ∧ (vp_in (x3 + 3) X.1 ∧ (vp_in (x3 + 4) X.1 ∧ (lk_vc h a1 [(10, 70)] (fun k30 => lk_wxi X d k30 [.ref a1, .int (X.2 (x3 + 1).toNatClampNeg), .int (X.2 (x3 + 2).toNatClampNeg), .int (X.2 (x3 + 3).toNatClampNeg), .int (X.2 (x3 + 4).toNatClampNeg)] h (fun r26 h25 => vp_in (x3 + 1) X.1 ∧ (vp_in (x3 + 2) X.1 ∧ (vp_in (x3 + 3) X.1 ∧ (vp_in (x3 + 4) X.1 ∧ (lk_vc h25 a2 [(11, 129)] (fun k29 => lk_wxi X d k29 [.ref a2, .int (X.2 (x3 + 1).toNatClampNeg), .int (X.2 (x3 + 2).toNatClampNeg), .int (X.2 (x3 + 3).toNatClampNeg), .int (X.2 (x3 + 4).toNatClampNeg)] h25 (fun r28 h27 => (r26 = r28 → lk_wp X (d + 1) 174 18 [.retAddr 1, .ref a1, .ref a2, .int (x3 + 6)] [] h27 Q) ∧ (¬ r26 = r28 → Q (some (.int 0)) h27)))))))))))))) ∧ (¬ ((X.2 (x3).toNatClampNeg) &&& 31) = Int32.ofNat 4 → (((X.2 (x3).toNatClampNeg) &&& 31) = Int32.ofNat 5 → vp_in (x3 + 1) X.1 ∧ (vp_in (x3 + 2) X.1 ∧ (vp_in (x3 + 3) X.1 ∧ (vp_in (x3 + 4) X.1 ∧ (lk_vc h a1 [(10, 71)] (fun k36 => lk_wxi X d k36 [.ref a1, .int (X.2 (x3 + 1).toNatClampNeg), .int (X.2 (x3 + 2).toNatClampNeg), .int (X.2 (x3 + 3).toNatClampNeg), .int (X.2 (x3 + 4).toNatClampNeg)] h (fun r32 h31 => vp_in (x3 + 1) X.1 ∧ (vp_in (x3 + 2) X.1 ∧ (vp_in (x3 + 3) X.1 ∧ (vp_in (x3 + 4) X.1 ∧ (lk_vc h31 a2 [(11, 130)] (fun k35 => lk_wxi X d k35 [.ref a2, .int (X.2 (x3 + 1).toNatClampNeg), .int (X.2 (x3 + 2).toNatClampNeg), .int (X.2 (x3 + 3).toNatClampNeg), .int (X.2 (x3 + 4).toNatClampNeg)] h31 (fun r34 h33 => (r32 = r34 → lk_wp X (d + 1) 174 18 [.retAddr 1, .ref a1, .ref a2, .int (x3 + 6)] [] h33 Q) ∧ (¬ r32 = r34 → Q (some (.int 0)) h33)))))))))))))) ∧ (¬ ((X.2 (x3).toNatClampNeg) &&& 31) = Int32.ofNat 5 → (((X.2 (x3).toNatClampNeg) &&& 31) = Int32.ofNat 6 → vp_in (x3 + 1) X.1 ∧ (vp_in (x3 + 2) X.1 ∧ (vp_in (x3 + 3) X.1 ∧ (vp_in (x3 + 4) X.1 ∧ (lk_vc h a1 [(10, 72)] (fun k42 => lk_wxi X d k42 [.ref a1, .int (X.2 (x3 + 1).toNatClampNeg), .int (X.2 (x3 + 2).toNatClampNeg), .int (X.2 (x3 + 3).toNatClampNeg), .int (X.2 (x3 + 4).toNatClampNeg)] h (fun r38 h37 => vp_in (x3 + 1) X.1 ∧ (vp_in (x3 + 2) X.1 ∧ (vp_in (x3 + 3) X.1 ∧ (vp_in (x3 + 4) X.1 ∧ (lk_vc h37 a2 [(11, 134)] (fun k41 => lk_wxi X d k41 [.ref a2, .int (X.2 (x3 + 1).toNatClampNeg), .int (X.2 (x3 + 2).toNatClampNeg), .int (X.2 (x3 + 3).toNatClampNeg), .int (X.2 (x3 + 4).toNatClampNeg)] h37 (fun r40 h39 => (r38 = r40 → lk_wp X (d + 1) 174 18 [.retAddr 1, .ref a1, .ref a2, .int (x3 + 6)] [] h39 Q) ∧ (¬ r38 = r40 → Q (some (.int 0)) h39)))))))))))))) ∧ (¬ ((X.2 (x3).toNatClampNeg) &&& 31) = Int32.ofNat 6 → (((X.2 (x3).toNatClampNeg) &&& 31) = Int32.ofNat 7 → vp_in (x3 + 1) X.1 ∧ (vp_in (x3 + 2) X.1 ∧ (vp_in (x3 + 3) X.1 ∧ (vp_in (x3 + 4) X.1 ∧ (lk_vc h a1 [(10, 73)] (fun k48 => lk_wxi X d k48 [.ref a1, .int (X.2 (x3 + 1).toNatClampNeg), .int (X.2 (x3 + 2).toNatClampNeg), .int (X.2 (x3 + 3).toNatClampNeg), .int (X.2 (x3 + 4).toNatClampNeg)] h (fun r44 h43 => vp_in (x3 + 1) X.1 ∧ (vp_in (x3 + 2) X.1 ∧ (vp_in (x3 + 3) X.1 ∧ (vp_in (x3 + 4) X.1 ∧ (lk_vc h43 a2 [(11, 135)] (fun k47 => lk_wxi X d k47 [.ref a2, .int (X.2 (x3 + 1).toNatClampNeg), .int (X.2 (x3 + 2).toNatClampNeg), .int (X.2 (x3 + 3).toNatClampNeg), .int (X.2 (x3 + 4).toNatClampNeg)] h43 (fun r46 h45 => (r44 = r46 → lk_wp X (d + 1) 174 18 [.retAddr 1, .ref a1, .ref a2, .int (x3 + 6)] [] h45 Q) ∧ (¬ r44 = r46 → Q (some (.int 0)) h45)))))))))))))) ∧ (¬ ((X.2 (x3).toNatClampNeg) &&& 31) = Int32.ofNat 7 → (((X.2 (x3).toNatClampNeg) &&& 31) = Int32.ofNat 8 → vp_in (x3 + 1) X.1 ∧ (vp_in (x3 + 2) X.1 ∧ (vp_in (x3 + 3) X.1 ∧ (lk_vc h a1 [(10, 74)] (fun k54 => lk_wxi X d k54 [.ref a1, .int (X.2 (x3 + 1).toNatClampNeg), .int (X.2 (x3 + 2).toNatClampNeg), .int (X.2 (x3 + 3).toNatClampNeg)] h (fun r50 h49 => vp_in (x3 + 1) X.1 ∧ (vp_in (x3 + 2) X.1 ∧ (vp_in (x3 + 3) X.1 ∧ (lk_vc h49 a2 [(11, 137)] (fun k53 => lk_wxi X d k53 [.ref a2, .int (X.2 (x3 + 1).toNatClampNeg), .int (X.2 (x3 + 2).toNatClampNeg), .int (X.2 (x3 + 3).toNatClampNeg)] h49 (fun r52 h51 => (r50 = r52 → lk_wp X (d + 1) 174 18 [.retAddr 1, .ref a1, .ref a2, .int (x3 + 6)] [] h51 Q) ∧ (¬ r50 = r52 → Q (some (.int 0)) h51)))))))))))) ∧ (¬ ((X.2 (x3).toNatClampNeg) &&& 31) = Int32.ofNat 8 → (((X.2 (x3).toNatClampNeg) &&& 31) = Int32.ofNat 9 → vp_in (x3 + 1) X.1 ∧ (vp_in (x3 + 2) X.1 ∧ (vp_in (x3 + 3) X.1 ∧ (lk_vc h a1 [(10, 75)] (fun k60 => lk_wxi X d k60 [.ref a1, .int (X.2 (x3 + 1).toNatClampNeg), .int (X.2 (x3 + 2).toNatClampNeg), .int (X.2 (x3 + 3).toNatClampNeg)] h (fun r56 h55 => vp_in (x3 + 1) X.1 ∧ (vp_in (x3 + 2) X.1 ∧ (vp_in (x3 + 3) X.1 ∧ (lk_vc h55 a2 [(11, 138)] (fun k59 => lk_wxi X d k59 [.ref a2, .int (X.2 (x3 + 1).toNatClampNeg), .int (X.2 (x3 + 2).toNatClampNeg), .int (X.2 (x3 + 3).toNatClampNeg)] h55 (fun r58 h57 => (r56 = r58 → lk_wp X (d + 1) 174 18 [.retAddr 1, .ref a1, .ref a2, .int (x3 + 6)] [] h57 Q) ∧ (¬ r56 = r58 → Q (some (.int 0)) h57)))))))))))) ∧ (¬ ((X.2 (x3).toNatClampNeg) &&& 31) = Int32.ofNat 9 → (((X.2 (x3).toNatClampNeg) &&& 31) = Int32.ofNat 10 → vp_in (x3 + 1) X.1 ∧ (vp_in (x3 + 2) X.1 ∧ (vp_in (x3 + 3) X.1 ∧ (lk_vc h a1 [(10, 76)] (fun k66 => lk_wxi X d k66 [.ref a1, .int (X.2 (x3 + 1).toNatClampNeg), .int (X.2 (x3 + 2).toNatClampNeg), .int (X.2 (x3 + 3).toNatClampNeg)] h (fun r62 h61 => vp_in (x3 + 1) X.1 ∧ (vp_in (x3 + 2) X.1 ∧ (vp_in (x3 + 3) X.1 ∧ (lk_vc h61 a2 [(11, 141)] (fun k65 => lk_wxi X d k65 [.ref a2, .int (X.2 (x3 + 1).toNatClampNeg), .int (X.2 (x3 + 2).toNatClampNeg), .int (X.2 (x3 + 3).toNatClampNeg)] h61 (fun r64 h63 => (r62 = r64 → lk_wp X (d + 1) 174 18 [.retAddr 1, .ref a1, .ref a2, .int (x3 + 6)] [] h63 Q) ∧ (¬ r62 = r64 → Q (some (.int 0)) h63)))))))))))) ∧ (¬ ((X.2 (x3).toNatClampNeg) &&& 31) = Int32.ofNat 10 → (((X.2 (x3).toNatClampNeg) &&& 31) = Int32.ofNat 11 → vp_in (x3 + 1) X.1 ∧ (vp_in (x3 + 2) X.1 ∧ (vp_in (x3 + 3) X.1 ∧ (lk_vc h a1 [(10, 77)] (fun k72 => lk_wxi X d k72 [.ref a1, .int (X.2 (x3 + 1).toNatClampNeg), .int (X.2 (x3 + 2).toNatClampNeg), .int (X.2 (x3 + 3).toNatClampNeg)] h (fun r68 h67 => vp_in (x3 + 1) X.1 ∧ (vp_in (x3 + 2) X.1 ∧ (vp_in (x3 + 3) X.1 ∧ (lk_vc h67 a2 [(11, 144)] (fun k71 => lk_wxi X d k71 [.ref a2, .int (X.2 (x3 + 1).toNatClampNeg), .int (X.2 (x3 + 2).toNatClampNeg), .int (X.2 (x3 + 3).toNatClampNeg)] h67 (fun r70 h69 => (r68 = r70 → lk_wp X (d + 1) 174 18 [.retAddr 1, .ref a1, .ref a2, .int (x3 + 6)] [] h69 Q) ∧ (¬ r68 = r70 → Q (some (.int 0)) h69)))))))))))) ∧ (¬ ((X.2 (x3).toNatClampNeg) &&& 31) = Int32.ofNat 11 → (((X.2 (x3).toNatClampNeg) &&& 31) = Int32.ofNat 12 → vp_in (x3 + 1) X.1 ∧ (lk_vc h a1 [(10, 78)] (fun k78 => lk_wxi X d k78 [.ref a1, .int (X.2 (x3 + 1).toNatClampNeg)] h (fun r74 h73 => vp_in (x3 + 1) X.1 ∧ (lk_vc h73 a2 [(11, 145)] (fun k77 => lk_wxi X d k77 [.ref a2, .int (X.2 (x3 + 1).toNatClampNeg)] h73 (fun r76 h75 => (r74 = r76 → lk_wp X (d + 1) 174 18 [.retAddr 1, .ref a1, .ref a2, .int (x3 + 6)] [] h75 Q) ∧ (¬ r74 = r76 → Q (some (.int 0)) h75)))))))) ∧ (¬ ((X.2 (x3).toNatClampNeg) &&& 31) = Int32.ofNat 12 → (((X.2 (x3).toNatClampNeg) &&& 31) = Int32.ofNat 13 → vp_in (x3 + 1) X.1 ∧ (lk_vc h a1 [(10, 79)] (fun k84 => lk_wxi X d k84 [.ref a1, .int (X.2 (x3 + 1).toNatClampNeg)] h (fun r80 h79 => vp_in (x3 + 1) X.1 ∧ (lk_vc h79 a2 [(11, 146)] (fun k83 => lk_wxi X d k83 [.ref a2, .int (X.2 (x3 + 1).toNatClampNeg)] h79 (fun r82 h81 => (r80 = r82 → lk_wp X (d + 1) 174 18 [.retAddr 1, .ref a1, .ref a2, .int (x3 + 6)] [] h81 Q) ∧ (¬ r80 = r82 → Q (some (.int 0)) h81)))))))) ∧ (¬ ((X.2 (x3).toNatClampNeg) &&& 31) = Int32.ofNat 13 → (((X.2 (x3).toNatClampNeg) &&& 31) = Int32.ofNat 14 → vp_in (x3 + 1) X.1 ∧ (vp_in (x3 + 2) X.1 ∧ (lk_vc h a1 [(10, 80)] (fun k90 => lk_wxi X d k90 [.ref a1, .int (X.2 (x3 + 1).toNatClampNeg), .int (X.2 (x3 + 2).toNatClampNeg)] h (fun r86 h85 => vp_in (x3 + 1) X.1 ∧ (vp_in (x3 + 2) X.1 ∧ (lk_vc h85 a2 [(11, 147)] (fun k89 => lk_wxi X d k89 [.ref a2, .int (X.2 (x3 + 1).toNatClampNeg), .int (X.2 (x3 + 2).toNatClampNeg)] h85 (fun r88 h87 => (r86 = r88 → lk_wp X (d + 1) 174 18 [.retAddr 1, .ref a1, .ref a2, .int (x3 + 6)] [] h87 Q) ∧ (¬ r86 = r88 → Q (some (.int 0)) h87)))))))))) ∧ (¬ ((X.2 (x3).toNatClampNeg) &&& 31) = Int32.ofNat 14 → (((X.2 (x3).toNatClampNeg) &&& 31) = Int32.ofNat 15 → vp_in (x3 + 1) X.1 ∧ (vp_in (x3 + 2) X.1 ∧ (lk_vc h a1 [(10, 81)] (fun k96 => lk_wxi X d k96 [.ref a1, .int (X.2 (x3 + 1).toNatClampNeg), .int (X.2 (x3 + 2).toNatClampNeg)] h (fun r92 h91 => vp_in (x3 + 1) X.1 ∧ (vp_in (x3 + 2) X.1 ∧ (lk_vc h91 a2 [(11, 148)] (fun k95 => lk_wxi X d k95 [.ref a2, .int (X.2 (x3 + 1).toNatClampNeg), .int (X.2 (x3 + 2).toNatClampNeg)] h91 (fun r94 h93 => (r92 = r94 → lk_wp X (d + 1) 174 18 [.retAddr 1, .ref a1, .ref a2, .int (x3 + 6)] [] h93 Q) ∧ (¬ r92 = r94 → Q (some (.int 0)) h93)))))))))) ∧ (¬ ((X.2 (x3).toNatClampNeg) &&& 31) = Int32.ofNat 15 → (((X.2 (x3).toNatClampNeg) &&& 31) = Int32.ofNat 16 → vp_in (x3 + 1) X.1 ∧ (vp_in (x3 + 2) X.1 ∧ (lk_vc h a1 [(10, 82)] (fun k102 => lk_wxi X d k102 [.ref a1, .int (X.2 (x3 + 1).toNatClampNeg), .int (X.2 (x3 + 2).toNatClampNeg)] h (fun r98 h97 => vp_in (x3 + 1) X.1 ∧ (vp_in (x3 + 2) X.1 ∧ (lk_vc h97 a2 [(11, 153)] (fun k101 => lk_wxi X d k101 [.ref a2, .int (X.2 (x3 + 1).toNatClampNeg), .int (X.2 (x3 + 2).toNatClampNeg)] h97 (fun r100 h99 => (r98 = r100 → lk_wp X (d + 1) 174 18 [.retAddr 1, .ref a1, .ref a2, .int (x3 + 6)] [] h99 Q) ∧ (¬ r98 = r100 → Q (some (.int 0)) h99)))))))))) ∧ (¬ ((X.2 (x3).toNatClampNeg) &&& 31) = Int32.ofNat 16 → (((X.2 (x3).toNatClampNeg) &&& 31) = Int32.ofNat 17 → vp_in (x3 + 1) X.1 ∧ (lk_vc h a1 [(10, 83)] (fun k108 => lk_wxi X d k108 [.ref a1, .int (X.2 (x3 + 1).toNatClampNeg)] h (fun r104 h103 => vp_in (x3 + 1) X.1 ∧ (lk_vc h103 a2 [(11, 154)] (fun k107 => lk_wxi X d k107 [.ref a2, .int (X.2 (x3 + 1).toNatClampNeg)] h103 (fun r106 h105 => (r104 = r106 → lk_wp X (d + 1) 174 18 [.retAddr 1, .ref a1, .ref a2, .int (x3 + 6)] [] h105 Q) ∧ (¬ r104 = r106 → Q (some (.int 0)) h105)))))))) ∧ (¬ ((X.2 (x3).toNatClampNeg) &&& 31) = Int32.ofNat 17 → (((X.2 (x3).toNatClampNeg) &&& 31) = Int32.ofNat 18 → vp_in (x3 + 1) X.1 ∧ (vp_in (x3 + 2) X.1 ∧ (lk_vc h a1 [(10, 84)] (fun k114 => lk_wxi X d k114 [.ref a1, .int (X.2 (x3 + 1).toNatClampNeg), .int (X.2 (x3 + 2).toNatClampNeg)] h (fun r110 h109 => vp_in (x3 + 1) X.1 ∧ (vp_in (x3 + 2) X.1 ∧ (lk_vc h109 a2 [(11, 155)] (fun k113 => lk_wxi X d k113 [.ref a2, .int (X.2 (x3 + 1).toNatClampNeg), .int (X.2 (x3 + 2).toNatClampNeg)] h109 (fun r112 h111 => (r110 = r112 → lk_wp X (d + 1) 174 18 [.retAddr 1, .ref a1, .ref a2, .int (x3 + 6)] [] h111 Q) ∧ (¬ r110 = r112 → Q (some (.int 0)) h111)))))))))) ∧ (¬ ((X.2 (x3).toNatClampNeg) &&& 31) = Int32.ofNat 18 → (((X.2 (x3).toNatClampNeg) &&& 31) = Int32.ofNat 19 → vp_in (x3 + 1) X.1 ∧ (vp_in (x3 + 2) X.1 ∧ (lk_vc h a1 [(10, 85)] (fun k120 => lk_wxi X d k120 [.ref a1, .int (X.2 (x3 + 1).toNatClampNeg), .int (X.2 (x3 + 2).toNatClampNeg)] h (fun r116 h115 => vp_in (x3 + 1) X.1 ∧ (vp_in (x3 + 2) X.1 ∧ (lk_vc h115 a2 [(11, 156)] (fun k119 => lk_wxi X d k119 [.ref a2, .int (X.2 (x3 + 1).toNatClampNeg), .int (X.2 (x3 + 2).toNatClampNeg)] h115 (fun r118 h117 => (r116 = r118 → lk_wp X (d + 1) 174 18 [.retAddr 1, .ref a1, .ref a2, .int (x3 + 6)] [] h117 Q) ∧ (¬ r116 = r118 → Q (some (.int 0)) h117)))))))))) ∧ (¬ ((X.2 (x3).toNatClampNeg) &&& 31) = Int32.ofNat 19 → (((X.2 (x3).toNatClampNeg) &&& 31) = Int32.ofNat 20 → vp_in (x3 + 1) X.1 ∧ (vp_in (x3 + 2) X.1 ∧ (vp_in (x3 + 3) X.1 ∧ (vp_in (x3 + 4) X.1 ∧ (lk_vc h a1 [(10, 86)] (fun k126 => lk_wxi X d k126 [.ref a1, .int (X.2 (x3 + 1).toNatClampNeg), .int (X.2 (x3 + 2).toNatClampNeg), .int (X.2 (x3 + 3).toNatClampNeg), .int (X.2 (x3 + 4).toNatClampNeg)] h (fun r122 h121 => vp_in (x3 + 1) X.1 ∧ (vp_in (x3 + 2) X.1 ∧ (vp_in (x3 + 3) X.1 ∧ (vp_in (x3 + 4) X.1 ∧ (lk_vc h121 a2 [(11, 159)] (fun k125 => lk_wxi X d k125 [.ref a2, .int (X.2 (x3 + 1).toNatClampNeg), .int (X.2 (x3 + 2).toNatClampNeg), .int (X.2 (x3 + 3).toNatClampNeg), .int (X.2 (x3 + 4).toNatClampNeg)] h121 (fun r124 h123 => (r122 = r124 → lk_wp X (d + 1) 174 18 [.retAddr 1, .ref a1, .ref a2, .int (x3 + 6)] [] h123 Q) ∧ (¬ r122 = r124 → Q (some (.int 0)) h123)))))))))))))) ∧ (¬ ((X.2 (x3).toNatClampNeg) &&& 31) = Int32.ofNat 20 → (((X.2 (x3).toNatClampNeg) &&& 31) = Int32.ofNat 21 → vp_in (x3 + 1) X.1 ∧ (lk_vc h a1 [(10, 87)] (fun k132 => lk_wxi X d k132 [.ref a1, .int (X.2 (x3 + 1).toNatClampNeg)] h (fun r128 h127 => vp_in (x3 + 1) X.1 ∧ (lk_vc h127 a2 [(11, 161)] (fun k131 => lk_wxi X d k131 [.ref a2, .int (X.2 (x3 + 1).toNatClampNeg)] h127 (fun r130 h129 => (r128 = r130 → lk_wp X (d + 1) 174 18 [.retAddr 1, .ref a1, .ref a2, .int (x3 + 6)] [] h129 Q) ∧ (¬ r128 = r130 → Q (some (.int 0)) h129)))))))) ∧ (¬ ((X.2 (x3).toNatClampNeg) &&& 31) = Int32.ofNat 21 → (((X.2 (x3).toNatClampNeg) &&& 31) = Int32.ofNat 22 → vp_in (x3 + 1) X.1 ∧ (vp_in (x3 + 2) X.1 ∧ (lk_vc h a1 [(10, 88)] (fun k138 => lk_wxi X d k138 [.ref a1, .int (X.2 (x3 + 1).toNatClampNeg), .int (X.2 (x3 + 2).toNatClampNeg)] h (fun r134 h133 => vp_in (x3 + 1) X.1 ∧ (vp_in (x3 + 2) X.1 ∧ (lk_vc h133 a2 [(11, 162)] (fun k137 => lk_wxi X d k137 [.ref a2, .int (X.2 (x3 + 1).toNatClampNeg), .int (X.2 (x3 + 2).toNatClampNeg)] h133 (fun r136 h135 => (r134 = r136 → lk_wp X (d + 1) 174 18 [.retAddr 1, .ref a1, .ref a2, .int (x3 + 6)] [] h135 Q) ∧ (¬ r134 = r136 → Q (some (.int 0)) h135)))))))))) ∧ (¬ ((X.2 (x3).toNatClampNeg) &&& 31) = Int32.ofNat 22 → (((X.2 (x3).toNatClampNeg) &&& 31) = Int32.ofNat 23 → vp_in (x3 + 1) X.1 ∧ (vp_in (x3 + 2) X.1 ∧ (vp_in (x3 + 3) X.1 ∧ (vp_in (x3 + 4) X.1 ∧ (vp_in (x3 + 5) X.1 ∧ (lk_vc h a1 [(10, 89)] (fun k144 => lk_wxi X d k144 [.ref a1, .int (X.2 (x3 + 1).toNatClampNeg), .int (X.2 (x3 + 2).toNatClampNeg), .int (X.2 (x3 + 3).toNatClampNeg), .int (X.2 (x3 + 4).toNatClampNeg), .int (X.2 (x3 + 5).toNatClampNeg)] h (fun r140 h139 => vp_in (x3 + 1) X.1 ∧ (vp_in (x3 + 2) X.1 ∧ (vp_in (x3 + 3) X.1 ∧ (vp_in (x3 + 4) X.1 ∧ (vp_in (x3 + 5) X.1 ∧ (lk_vc h139 a2 [(11, 163)] (fun k143 => lk_wxi X d k143 [.ref a2, .int (X.2 (x3 + 1).toNatClampNeg), .int (X.2 (x3 + 2).toNatClampNeg), .int (X.2 (x3 + 3).toNatClampNeg), .int (X.2 (x3 + 4).toNatClampNeg), .int (X.2 (x3 + 5).toNatClampNeg)] h139 (fun r142 h141 => (r140 = r142 → lk_wp X (d + 1) 174 18 [.retAddr 1, .ref a1, .ref a2, .int (x3 + 6)] [] h141 Q) ∧ (¬ r140 = r142 → Q (some (.int 0)) h141)))))))))))))))) ∧ (¬ ((X.2 (x3).toNatClampNeg) &&& 31) = Int32.ofNat 23 → (((X.2 (x3).toNatClampNeg) &&& 31) = Int32.ofNat 24 → vp_in (x3 + 1) X.1 ∧ (vp_in (x3 + 2) X.1 ∧ (lk_vc h a1 [(10, 90)] (fun k150 => lk_wxi X d k150 [.ref a1, .int (X.2 (x3 + 1).toNatClampNeg), .int (X.2 (x3 + 2).toNatClampNeg)] h (fun r146 h145 => vp_in (x3 + 1) X.1 ∧ (vp_in (x3 + 2) X.1 ∧ (lk_vc h145 a2 [(11, 165)] (fun k149 => lk_wxi X d k149 [.ref a2, .int (X.2 (x3 + 1).toNatClampNeg), .int (X.2 (x3 + 2).toNatClampNeg)] h145 (fun r148 h147 => (r146 = r148 → lk_wp X (d + 1) 174 18 [.retAddr 1, .ref a1, .ref a2, .int (x3 + 6)] [] h147 Q) ∧ (¬ r146 = r148 → Q (some (.int 0)) h147)))))))))) ∧ (¬ ((X.2 (x3).toNatClampNeg) &&& 31) = Int32.ofNat 24 → (((X.2 (x3).toNatClampNeg) &&& 31) = Int32.ofNat 25 → vp_in (x3 + 1) X.1 ∧ (lk_vc h a1 [(10, 91)] (fun k156 => lk_wxi X d k156 [.ref a1, .int (X.2 (x3 + 1).toNatClampNeg)] h (fun r152 h151 => vp_in (x3 + 1) X.1 ∧ (lk_vc h151 a2 [(11, 167)] (fun k155 => lk_wxi X d k155 [.ref a2, .int (X.2 (x3 + 1).toNatClampNeg)] h151 (fun r154 h153 => (r152 = r154 → lk_wp X (d + 1) 174 18 [.retAddr 1, .ref a1, .ref a2, .int (x3 + 6)] [] h153 Q) ∧ (¬ r152 = r154 → Q (some (.int 0)) h153)))))))) ∧ (¬ ((X.2 (x3).toNatClampNeg) &&& 31) = Int32.ofNat 25 → (((X.2 (x3).toNatClampNeg) &&& 31) = Int32.ofNat 26 → vp_in (x3 + 1) X.1 ∧ (lk_vc h a1 [(10, 92)] (fun k162 => lk_wxi X d k162 [.ref a1, .int (X.2 (x3 + 1).toNatClampNeg)] h (fun r158 h157 => vp_in (x3 + 1) X.1 ∧ (lk_vc h157 a2 [(11, 168)] (fun k161 => lk_wxi X d k161 [.ref a2, .int (X.2 (x3 + 1).toNatClampNeg)] h157 (fun r160 h159 => (r158 = r160 → lk_wp X (d + 1) 174 18 [.retAddr 1, .ref a1, .ref a2, .int (x3 + 6)] [] h159 Q) ∧ (¬ r158 = r160 → Q (some (.int 0)) h159)))))))) ∧ (¬ ((X.2 (x3).toNatClampNeg) &&& 31) = Int32.ofNat 26 → (((X.2 (x3).toNatClampNeg) &&& 31) = Int32.ofNat 27 → lk_vc h a1 [(10, 93)] (fun k168 => lk_wxi X d k168 [.ref a1] h (fun r164 h163 => lk_vc h163 a2 [(11, 169)] (fun k167 => lk_wxi X d k167 [.ref a2] h163 (fun r166 h165 => (r164 = r166 → lk_wp X (d + 1) 174 18 [.retAddr 1, .ref a1, .ref a2, .int (x3 + 6)] [] h165 Q) ∧ (¬ r164 = r166 → Q (some (.int 0)) h165)))))) ∧ (¬ ((X.2 (x3).toNatClampNeg) &&& 31) = Int32.ofNat 27 → lk_wp X (d + 1) 174 18 [.retAddr 1, .ref a1, .ref a2, .int (x3 + 6)] [] h Q))))))))))))))))))))))))))))))) : lk_wp X (d + 1) 174 18 [.retAddr 1, .ref a1, .ref a2, .int x3] [] h Q := by
  refine lk_wp_seg (lo' := [.retAddr 1, .ref a1, .ref a2, .int x3]) (st' := [.retAddr 1, .int x3]) lk_M174 lk_s174_18_2 rfl ?_
  refine lk_wp_sal lk_i174_20 lk_M174 H (fun H => ?_)
  refine lk_wp_seg (lo' := [.retAddr 1, .ref a1, .ref a2, .int x3]) (st' := [.int ((Int32.ofNat X.1) - 6), .int x3]) lk_M174 lk_s174_21_2 rfl ?_
  refine lk_wp_ic_gt lk_i174_24 lk_M174 H (fun H => ?_) (fun H => ?_)
  · refine lk_wp_seg (lo' := [.retAddr 1, .ref a1, .ref a2, .int x3]) (st' := [.int 1]) lk_M174 lk_s174_1220_1 rfl ?_
    exact lk_wp_ret lk_i174_1221 lk_M174 rfl H
  · refine lk_wp_seg (lo' := [.retAddr 1, .ref a1, .ref a2, .int x3]) (st' := [.int x3, .retAddr 1]) lk_M174 lk_s174_27_2 rfl ?_
    refine lk_wp_sai lk_i174_29 lk_M174 H (fun H => ?_)
    refine lk_wp_seg (lo' := [.retAddr 1, .ref a1, .ref a2, .int x3]) (st' := [.int ((X.2 (x3).toNatClampNeg) &&& 31)]) lk_M174 lk_s174_30_2 rfl ?_
    refine lk_wp_sw lk_i174_33 lk_M174 ?_
    refine lk_wp_swc H (fun H => ?_) (fun H => ?_)
    · refine lk_wp_seg (lo' := [.retAddr 1, .ref a1, .ref a2, .int x3]) (st' := [.int (x3 + 1), .retAddr 1, .ref a1]) lk_M174 lk_s174_160_5 rfl ?_
      refine lk_wp_sai lk_i174_165 lk_M174 H (fun H => ?_)
      refine lk_wp_seg (lo' := [.retAddr 1, .ref a1, .ref a2, .int x3]) (st' := [.int (x3 + 2), .retAddr 1, .int (X.2 (x3 + 1).toNatClampNeg), .ref a1]) lk_M174 lk_s174_166_4 rfl ?_
      refine lk_wp_sai lk_i174_170 lk_M174 H (fun H => ?_)
      refine lk_wp_seg (lo' := [.retAddr 1, .ref a1, .ref a2, .int x3]) (st' := [.int (x3 + 3), .retAddr 1, .int (X.2 (x3 + 2).toNatClampNeg), .int (X.2 (x3 + 1).toNatClampNeg), .ref a1]) lk_M174 lk_s174_171_4 rfl ?_
      refine lk_wp_sai lk_i174_175 lk_M174 H (fun H => ?_)
      refine lk_wp_cv (as := [.int (X.2 (x3 + 1).toNatClampNeg), .int (X.2 (x3 + 2).toNatClampNeg), .int (X.2 (x3 + 3).toNatClampNeg)]) (r := []) (a := a1) lk_i174_176 lk_M174 rfl rfl rfl (Nat.le_of_ble_eq_true rfl) H (fun k6 H => lk_gi H (fun r2 h1 H => ?_))
      refine lk_wp_seg (lo' := [.retAddr 1, .ref a1, .ref a2, .int x3]) (st' := [.int (x3 + 1), .retAddr 1, .ref a2, .int r2]) lk_M174 lk_s174_179_5 rfl ?_
      refine lk_wp_sai lk_i174_184 lk_M174 H (fun H => ?_)
      refine lk_wp_seg (lo' := [.retAddr 1, .ref a1, .ref a2, .int x3]) (st' := [.int (x3 + 2), .retAddr 1, .int (X.2 (x3 + 1).toNatClampNeg), .ref a2, .int r2]) lk_M174 lk_s174_185_4 rfl ?_
      refine lk_wp_sai lk_i174_189 lk_M174 H (fun H => ?_)
      refine lk_wp_seg (lo' := [.retAddr 1, .ref a1, .ref a2, .int x3]) (st' := [.int (x3 + 3), .retAddr 1, .int (X.2 (x3 + 2).toNatClampNeg), .int (X.2 (x3 + 1).toNatClampNeg), .ref a2, .int r2]) lk_M174 lk_s174_190_4 rfl ?_
      refine lk_wp_sai lk_i174_194 lk_M174 H (fun H => ?_)
      refine lk_wp_cv (as := [.int (X.2 (x3 + 1).toNatClampNeg), .int (X.2 (x3 + 2).toNatClampNeg), .int (X.2 (x3 + 3).toNatClampNeg)]) (r := [.int r2]) (a := a2) lk_i174_195 lk_M174 rfl rfl rfl (Nat.le_of_ble_eq_true rfl) H (fun k5 H => lk_gi H (fun r4 h3 H => ?_))
      refine lk_wp_ic_eq lk_i174_198 lk_M174 H (fun H => ?_) (fun H => ?_)
      · refine lk_wp_seg (lo' := [.retAddr 1, .ref a1, .ref a2, .int (x3 + 6)]) (st' := []) lk_M174 lk_s174_1214_2 rfl ?_
        exact H
      · refine lk_wp_seg (lo' := [.retAddr 1, .ref a1, .ref a2, .int x3]) (st' := [.int 0]) lk_M174 lk_s174_201_1 rfl ?_
        exact lk_wp_ret lk_i174_202 lk_M174 rfl H
    · refine lk_wp_swc H (fun H => ?_) (fun H => ?_)
      · refine lk_wp_seg (lo' := [.retAddr 1, .ref a1, .ref a2, .int x3]) (st' := [.int (x3 + 1), .retAddr 1, .ref a1]) lk_M174 lk_s174_203_5 rfl ?_
        refine lk_wp_sai lk_i174_208 lk_M174 H (fun H => ?_)
        refine lk_wp_seg (lo' := [.retAddr 1, .ref a1, .ref a2, .int x3]) (st' := [.int (x3 + 2), .retAddr 1, .int (X.2 (x3 + 1).toNatClampNeg), .ref a1]) lk_M174 lk_s174_209_4 rfl ?_
        refine lk_wp_sai lk_i174_213 lk_M174 H (fun H => ?_)
        refine lk_wp_seg (lo' := [.retAddr 1, .ref a1, .ref a2, .int x3]) (st' := [.int (x3 + 3), .retAddr 1, .int (X.2 (x3 + 2).toNatClampNeg), .int (X.2 (x3 + 1).toNatClampNeg), .ref a1]) lk_M174 lk_s174_214_4 rfl ?_
        refine lk_wp_sai lk_i174_218 lk_M174 H (fun H => ?_)
        refine lk_wp_cv (as := [.int (X.2 (x3 + 1).toNatClampNeg), .int (X.2 (x3 + 2).toNatClampNeg), .int (X.2 (x3 + 3).toNatClampNeg)]) (r := []) (a := a1) lk_i174_219 lk_M174 rfl rfl rfl (Nat.le_of_ble_eq_true rfl) H (fun k12 H => lk_gi H (fun r8 h7 H => ?_))
        refine lk_wp_seg (lo' := [.retAddr 1, .ref a1, .ref a2, .int x3]) (st' := [.int (x3 + 1), .retAddr 1, .ref a2, .int r8]) lk_M174 lk_s174_222_5 rfl ?_
        refine lk_wp_sai lk_i174_227 lk_M174 H (fun H => ?_)
        refine lk_wp_seg (lo' := [.retAddr 1, .ref a1, .ref a2, .int x3]) (st' := [.int (x3 + 2), .retAddr 1, .int (X.2 (x3 + 1).toNatClampNeg), .ref a2, .int r8]) lk_M174 lk_s174_228_4 rfl ?_
        refine lk_wp_sai lk_i174_232 lk_M174 H (fun H => ?_)
        refine lk_wp_seg (lo' := [.retAddr 1, .ref a1, .ref a2, .int x3]) (st' := [.int (x3 + 3), .retAddr 1, .int (X.2 (x3 + 2).toNatClampNeg), .int (X.2 (x3 + 1).toNatClampNeg), .ref a2, .int r8]) lk_M174 lk_s174_233_4 rfl ?_
        refine lk_wp_sai lk_i174_237 lk_M174 H (fun H => ?_)
        refine lk_wp_cv (as := [.int (X.2 (x3 + 1).toNatClampNeg), .int (X.2 (x3 + 2).toNatClampNeg), .int (X.2 (x3 + 3).toNatClampNeg)]) (r := [.int r8]) (a := a2) lk_i174_238 lk_M174 rfl rfl rfl (Nat.le_of_ble_eq_true rfl) H (fun k11 H => lk_gi H (fun r10 h9 H => ?_))
        refine lk_wp_ic_eq lk_i174_241 lk_M174 H (fun H => ?_) (fun H => ?_)
        · refine lk_wp_seg (lo' := [.retAddr 1, .ref a1, .ref a2, .int (x3 + 6)]) (st' := []) lk_M174 lk_s174_1214_2 rfl ?_
          exact H
        · refine lk_wp_seg (lo' := [.retAddr 1, .ref a1, .ref a2, .int x3]) (st' := [.int 0]) lk_M174 lk_s174_244_1 rfl ?_
          exact lk_wp_ret lk_i174_245 lk_M174 rfl H
      · refine lk_wp_swc H (fun H => ?_) (fun H => ?_)
        · refine lk_wp_seg (lo' := [.retAddr 1, .ref a1, .ref a2, .int x3]) (st' := [.int (x3 + 1), .retAddr 1, .ref a1]) lk_M174 lk_s174_246_5 rfl ?_
          refine lk_wp_sai lk_i174_251 lk_M174 H (fun H => ?_)
          refine lk_wp_seg (lo' := [.retAddr 1, .ref a1, .ref a2, .int x3]) (st' := [.int (x3 + 2), .retAddr 1, .int (X.2 (x3 + 1).toNatClampNeg), .ref a1]) lk_M174 lk_s174_252_4 rfl ?_
          refine lk_wp_sai lk_i174_256 lk_M174 H (fun H => ?_)
          refine lk_wp_seg (lo' := [.retAddr 1, .ref a1, .ref a2, .int x3]) (st' := [.int (x3 + 3), .retAddr 1, .int (X.2 (x3 + 2).toNatClampNeg), .int (X.2 (x3 + 1).toNatClampNeg), .ref a1]) lk_M174 lk_s174_257_4 rfl ?_
          refine lk_wp_sai lk_i174_261 lk_M174 H (fun H => ?_)
          refine lk_wp_seg (lo' := [.retAddr 1, .ref a1, .ref a2, .int x3]) (st' := [.int (x3 + 4), .retAddr 1, .int (X.2 (x3 + 3).toNatClampNeg), .int (X.2 (x3 + 2).toNatClampNeg), .int (X.2 (x3 + 1).toNatClampNeg), .ref a1]) lk_M174 lk_s174_262_4 rfl ?_
          refine lk_wp_sai lk_i174_266 lk_M174 H (fun H => ?_)
          refine lk_wp_seg (lo' := [.retAddr 1, .ref a1, .ref a2, .int x3]) (st' := [.int (x3 + 5), .retAddr 1, .int (X.2 (x3 + 4).toNatClampNeg), .int (X.2 (x3 + 3).toNatClampNeg), .int (X.2 (x3 + 2).toNatClampNeg), .int (X.2 (x3 + 1).toNatClampNeg), .ref a1]) lk_M174 lk_s174_267_4 rfl ?_
          refine lk_wp_sai lk_i174_271 lk_M174 H (fun H => ?_)
          refine lk_wp_cv (as := [.int (X.2 (x3 + 1).toNatClampNeg), .int (X.2 (x3 + 2).toNatClampNeg), .int (X.2 (x3 + 3).toNatClampNeg), .int (X.2 (x3 + 4).toNatClampNeg), .int (X.2 (x3 + 5).toNatClampNeg)]) (r := []) (a := a1) lk_i174_272 lk_M174 rfl rfl rfl (Nat.le_of_ble_eq_true rfl) H (fun k18 H => lk_gi H (fun r14 h13 H => ?_))
          refine lk_wp_seg (lo' := [.retAddr 1, .ref a1, .ref a2, .int x3]) (st' := [.int (x3 + 1), .retAddr 1, .ref a2, .int r14]) lk_M174 lk_s174_275_5 rfl ?_
          refine lk_wp_sai lk_i174_280 lk_M174 H (fun H => ?_)
          refine lk_wp_seg (lo' := [.retAddr 1, .ref a1, .ref a2, .int x3]) (st' := [.int (x3 + 2), .retAddr 1, .int (X.2 (x3 + 1).toNatClampNeg), .ref a2, .int r14]) lk_M174 lk_s174_281_4 rfl ?_
          refine lk_wp_sai lk_i174_285 lk_M174 H (fun H => ?_)
          refine lk_wp_seg (lo' := [.retAddr 1, .ref a1, .ref a2, .int x3]) (st' := [.int (x3 + 3), .retAddr 1, .int (X.2 (x3 + 2).toNatClampNeg), .int (X.2 (x3 + 1).toNatClampNeg), .ref a2, .int r14]) lk_M174 lk_s174_286_4 rfl ?_
          refine lk_wp_sai lk_i174_290 lk_M174 H (fun H => ?_)
          refine lk_wp_seg (lo' := [.retAddr 1, .ref a1, .ref a2, .int x3]) (st' := [.int (x3 + 4), .retAddr 1, .int (X.2 (x3 + 3).toNatClampNeg), .int (X.2 (x3 + 2).toNatClampNeg), .int (X.2 (x3 + 1).toNatClampNeg), .ref a2, .int r14]) lk_M174 lk_s174_291_4 rfl ?_
          refine lk_wp_sai lk_i174_295 lk_M174 H (fun H => ?_)
          refine lk_wp_seg (lo' := [.retAddr 1, .ref a1, .ref a2, .int x3]) (st' := [.int (x3 + 5), .retAddr 1, .int (X.2 (x3 + 4).toNatClampNeg), .int (X.2 (x3 + 3).toNatClampNeg), .int (X.2 (x3 + 2).toNatClampNeg), .int (X.2 (x3 + 1).toNatClampNeg), .ref a2, .int r14]) lk_M174 lk_s174_296_4 rfl ?_
          refine lk_wp_sai lk_i174_300 lk_M174 H (fun H => ?_)
          refine lk_wp_cv (as := [.int (X.2 (x3 + 1).toNatClampNeg), .int (X.2 (x3 + 2).toNatClampNeg), .int (X.2 (x3 + 3).toNatClampNeg), .int (X.2 (x3 + 4).toNatClampNeg), .int (X.2 (x3 + 5).toNatClampNeg)]) (r := [.int r14]) (a := a2) lk_i174_301 lk_M174 rfl rfl rfl (Nat.le_of_ble_eq_true rfl) H (fun k17 H => lk_gi H (fun r16 h15 H => ?_))
          refine lk_wp_ic_eq lk_i174_304 lk_M174 H (fun H => ?_) (fun H => ?_)
          · refine lk_wp_seg (lo' := [.retAddr 1, .ref a1, .ref a2, .int (x3 + 6)]) (st' := []) lk_M174 lk_s174_1214_2 rfl ?_
            exact H
          · refine lk_wp_seg (lo' := [.retAddr 1, .ref a1, .ref a2, .int x3]) (st' := [.int 0]) lk_M174 lk_s174_307_1 rfl ?_
            exact lk_wp_ret lk_i174_308 lk_M174 rfl H
        · refine lk_wp_swc H (fun H => ?_) (fun H => ?_)
          · refine lk_wp_seg (lo' := [.retAddr 1, .ref a1, .ref a2, .int x3]) (st' := [.int (x3 + 1), .retAddr 1, .ref a1]) lk_M174 lk_s174_309_5 rfl ?_
            refine lk_wp_sai lk_i174_314 lk_M174 H (fun H => ?_)
            refine lk_wp_cv (as := [.int (X.2 (x3 + 1).toNatClampNeg)]) (r := []) (a := a1) lk_i174_315 lk_M174 rfl rfl rfl (Nat.le_of_ble_eq_true rfl) H (fun k24 H => lk_gi H (fun r20 h19 H => ?_))
            refine lk_wp_seg (lo' := [.retAddr 1, .ref a1, .ref a2, .int x3]) (st' := [.int (x3 + 1), .retAddr 1, .ref a2, .int r20]) lk_M174 lk_s174_318_5 rfl ?_
            refine lk_wp_sai lk_i174_323 lk_M174 H (fun H => ?_)
            refine lk_wp_cv (as := [.int (X.2 (x3 + 1).toNatClampNeg)]) (r := [.int r20]) (a := a2) lk_i174_324 lk_M174 rfl rfl rfl (Nat.le_of_ble_eq_true rfl) H (fun k23 H => lk_gi H (fun r22 h21 H => ?_))
            refine lk_wp_ic_eq lk_i174_327 lk_M174 H (fun H => ?_) (fun H => ?_)
            · refine lk_wp_seg (lo' := [.retAddr 1, .ref a1, .ref a2, .int (x3 + 6)]) (st' := []) lk_M174 lk_s174_1214_2 rfl ?_
              exact H
            · refine lk_wp_seg (lo' := [.retAddr 1, .ref a1, .ref a2, .int x3]) (st' := [.int 0]) lk_M174 lk_s174_330_1 rfl ?_
              exact lk_wp_ret lk_i174_331 lk_M174 rfl H
          · refine lk_wp_swc H (fun H => ?_) (fun H => ?_)
            · refine lk_wp_seg (lo' := [.retAddr 1, .ref a1, .ref a2, .int x3]) (st' := [.int (x3 + 1), .retAddr 1, .ref a1]) lk_M174 lk_s174_332_5 rfl ?_
              refine lk_wp_sai lk_i174_337 lk_M174 H (fun H => ?_)
              refine lk_wp_seg (lo' := [.retAddr 1, .ref a1, .ref a2, .int x3]) (st' := [.int (x3 + 2), .retAddr 1, .int (X.2 (x3 + 1).toNatClampNeg), .ref a1]) lk_M174 lk_s174_338_4 rfl ?_
              refine lk_wp_sai lk_i174_342 lk_M174 H (fun H => ?_)
              refine lk_wp_seg (lo' := [.retAddr 1, .ref a1, .ref a2, .int x3]) (st' := [.int (x3 + 3), .retAddr 1, .int (X.2 (x3 + 2).toNatClampNeg), .int (X.2 (x3 + 1).toNatClampNeg), .ref a1]) lk_M174 lk_s174_343_4 rfl ?_
              refine lk_wp_sai lk_i174_347 lk_M174 H (fun H => ?_)
              refine lk_wp_seg (lo' := [.retAddr 1, .ref a1, .ref a2, .int x3]) (st' := [.int (x3 + 4), .retAddr 1, .int (X.2 (x3 + 3).toNatClampNeg), .int (X.2 (x3 + 2).toNatClampNeg), .int (X.2 (x3 + 1).toNatClampNeg), .ref a1]) lk_M174 lk_s174_348_4 rfl ?_
              refine lk_wp_sai lk_i174_352 lk_M174 H (fun H => ?_)
              refine lk_wp_cv (as := [.int (X.2 (x3 + 1).toNatClampNeg), .int (X.2 (x3 + 2).toNatClampNeg), .int (X.2 (x3 + 3).toNatClampNeg), .int (X.2 (x3 + 4).toNatClampNeg)]) (r := []) (a := a1) lk_i174_353 lk_M174 rfl rfl rfl (Nat.le_of_ble_eq_true rfl) H (fun k30 H => lk_gi H (fun r26 h25 H => ?_))
              refine lk_wp_seg (lo' := [.retAddr 1, .ref a1, .ref a2, .int x3]) (st' := [.int (x3 + 1), .retAddr 1, .ref a2, .int r26]) lk_M174 lk_s174_356_5 rfl ?_
              refine lk_wp_sai lk_i174_361 lk_M174 H (fun H => ?_)
              refine lk_wp_seg (lo' := [.retAddr 1, .ref a1, .ref a2, .int x3]) (st' := [.int (x3 + 2), .retAddr 1, .int (X.2 (x3 + 1).toNatClampNeg), .ref a2, .int r26]) lk_M174 lk_s174_362_4 rfl ?_
              refine lk_wp_sai lk_i174_366 lk_M174 H (fun H => ?_)
              refine lk_wp_seg (lo' := [.retAddr 1, .ref a1, .ref a2, .int x3]) (st' := [.int (x3 + 3), .retAddr 1, .int (X.2 (x3 + 2).toNatClampNeg), .int (X.2 (x3 + 1).toNatClampNeg), .ref a2, .int r26]) lk_M174 lk_s174_367_4 rfl ?_
              refine lk_wp_sai lk_i174_371 lk_M174 H (fun H => ?_)
              refine lk_wp_seg (lo' := [.retAddr 1, .ref a1, .ref a2, .int x3]) (st' := [.int (x3 + 4), .retAddr 1, .int (X.2 (x3 + 3).toNatClampNeg), .int (X.2 (x3 + 2).toNatClampNeg), .int (X.2 (x3 + 1).toNatClampNeg), .ref a2, .int r26]) lk_M174 lk_s174_372_4 rfl ?_
              refine lk_wp_sai lk_i174_376 lk_M174 H (fun H => ?_)
              refine lk_wp_cv (as := [.int (X.2 (x3 + 1).toNatClampNeg), .int (X.2 (x3 + 2).toNatClampNeg), .int (X.2 (x3 + 3).toNatClampNeg), .int (X.2 (x3 + 4).toNatClampNeg)]) (r := [.int r26]) (a := a2) lk_i174_377 lk_M174 rfl rfl rfl (Nat.le_of_ble_eq_true rfl) H (fun k29 H => lk_gi H (fun r28 h27 H => ?_))
              refine lk_wp_ic_eq lk_i174_380 lk_M174 H (fun H => ?_) (fun H => ?_)
              · refine lk_wp_seg (lo' := [.retAddr 1, .ref a1, .ref a2, .int (x3 + 6)]) (st' := []) lk_M174 lk_s174_1214_2 rfl ?_
                exact H
              · refine lk_wp_seg (lo' := [.retAddr 1, .ref a1, .ref a2, .int x3]) (st' := [.int 0]) lk_M174 lk_s174_383_1 rfl ?_
                exact lk_wp_ret lk_i174_384 lk_M174 rfl H
            · refine lk_wp_swc H (fun H => ?_) (fun H => ?_)
              · refine lk_wp_seg (lo' := [.retAddr 1, .ref a1, .ref a2, .int x3]) (st' := [.int (x3 + 1), .retAddr 1, .ref a1]) lk_M174 lk_s174_385_5 rfl ?_
                refine lk_wp_sai lk_i174_390 lk_M174 H (fun H => ?_)
                refine lk_wp_seg (lo' := [.retAddr 1, .ref a1, .ref a2, .int x3]) (st' := [.int (x3 + 2), .retAddr 1, .int (X.2 (x3 + 1).toNatClampNeg), .ref a1]) lk_M174 lk_s174_391_4 rfl ?_
                refine lk_wp_sai lk_i174_395 lk_M174 H (fun H => ?_)
                refine lk_wp_seg (lo' := [.retAddr 1, .ref a1, .ref a2, .int x3]) (st' := [.int (x3 + 3), .retAddr 1, .int (X.2 (x3 + 2).toNatClampNeg), .int (X.2 (x3 + 1).toNatClampNeg), .ref a1]) lk_M174 lk_s174_396_4 rfl ?_
                refine lk_wp_sai lk_i174_400 lk_M174 H (fun H => ?_)
                refine lk_wp_seg (lo' := [.retAddr 1, .ref a1, .ref a2, .int x3]) (st' := [.int (x3 + 4), .retAddr 1, .int (X.2 (x3 + 3).toNatClampNeg), .int (X.2 (x3 + 2).toNatClampNeg), .int (X.2 (x3 + 1).toNatClampNeg), .ref a1]) lk_M174 lk_s174_401_4 rfl ?_
                refine lk_wp_sai lk_i174_405 lk_M174 H (fun H => ?_)
                refine lk_wp_cv (as := [.int (X.2 (x3 + 1).toNatClampNeg), .int (X.2 (x3 + 2).toNatClampNeg), .int (X.2 (x3 + 3).toNatClampNeg), .int (X.2 (x3 + 4).toNatClampNeg)]) (r := []) (a := a1) lk_i174_406 lk_M174 rfl rfl rfl (Nat.le_of_ble_eq_true rfl) H (fun k36 H => lk_gi H (fun r32 h31 H => ?_))
                refine lk_wp_seg (lo' := [.retAddr 1, .ref a1, .ref a2, .int x3]) (st' := [.int (x3 + 1), .retAddr 1, .ref a2, .int r32]) lk_M174 lk_s174_409_5 rfl ?_
                refine lk_wp_sai lk_i174_414 lk_M174 H (fun H => ?_)
                refine lk_wp_seg (lo' := [.retAddr 1, .ref a1, .ref a2, .int x3]) (st' := [.int (x3 + 2), .retAddr 1, .int (X.2 (x3 + 1).toNatClampNeg), .ref a2, .int r32]) lk_M174 lk_s174_415_4 rfl ?_
                refine lk_wp_sai lk_i174_419 lk_M174 H (fun H => ?_)
                refine lk_wp_seg (lo' := [.retAddr 1, .ref a1, .ref a2, .int x3]) (st' := [.int (x3 + 3), .retAddr 1, .int (X.2 (x3 + 2).toNatClampNeg), .int (X.2 (x3 + 1).toNatClampNeg), .ref a2, .int r32]) lk_M174 lk_s174_420_4 rfl ?_
                refine lk_wp_sai lk_i174_424 lk_M174 H (fun H => ?_)
                refine lk_wp_seg (lo' := [.retAddr 1, .ref a1, .ref a2, .int x3]) (st' := [.int (x3 + 4), .retAddr 1, .int (X.2 (x3 + 3).toNatClampNeg), .int (X.2 (x3 + 2).toNatClampNeg), .int (X.2 (x3 + 1).toNatClampNeg), .ref a2, .int r32]) lk_M174 lk_s174_425_4 rfl ?_
                refine lk_wp_sai lk_i174_429 lk_M174 H (fun H => ?_)
                refine lk_wp_cv (as := [.int (X.2 (x3 + 1).toNatClampNeg), .int (X.2 (x3 + 2).toNatClampNeg), .int (X.2 (x3 + 3).toNatClampNeg), .int (X.2 (x3 + 4).toNatClampNeg)]) (r := [.int r32]) (a := a2) lk_i174_430 lk_M174 rfl rfl rfl (Nat.le_of_ble_eq_true rfl) H (fun k35 H => lk_gi H (fun r34 h33 H => ?_))
                refine lk_wp_ic_eq lk_i174_433 lk_M174 H (fun H => ?_) (fun H => ?_)
                · refine lk_wp_seg (lo' := [.retAddr 1, .ref a1, .ref a2, .int (x3 + 6)]) (st' := []) lk_M174 lk_s174_1214_2 rfl ?_
                  exact H
                · refine lk_wp_seg (lo' := [.retAddr 1, .ref a1, .ref a2, .int x3]) (st' := [.int 0]) lk_M174 lk_s174_436_1 rfl ?_
                  exact lk_wp_ret lk_i174_437 lk_M174 rfl H
              · refine lk_wp_swc H (fun H => ?_) (fun H => ?_)
                · refine lk_wp_seg (lo' := [.retAddr 1, .ref a1, .ref a2, .int x3]) (st' := [.int (x3 + 1), .retAddr 1, .ref a1]) lk_M174 lk_s174_438_5 rfl ?_
                  refine lk_wp_sai lk_i174_443 lk_M174 H (fun H => ?_)
                  refine lk_wp_seg (lo' := [.retAddr 1, .ref a1, .ref a2, .int x3]) (st' := [.int (x3 + 2), .retAddr 1, .int (X.2 (x3 + 1).toNatClampNeg), .ref a1]) lk_M174 lk_s174_444_4 rfl ?_
                  refine lk_wp_sai lk_i174_448 lk_M174 H (fun H => ?_)
                  refine lk_wp_seg (lo' := [.retAddr 1, .ref a1, .ref a2, .int x3]) (st' := [.int (x3 + 3), .retAddr 1, .int (X.2 (x3 + 2).toNatClampNeg), .int (X.2 (x3 + 1).toNatClampNeg), .ref a1]) lk_M174 lk_s174_449_4 rfl ?_
                  refine lk_wp_sai lk_i174_453 lk_M174 H (fun H => ?_)
                  refine lk_wp_seg (lo' := [.retAddr 1, .ref a1, .ref a2, .int x3]) (st' := [.int (x3 + 4), .retAddr 1, .int (X.2 (x3 + 3).toNatClampNeg), .int (X.2 (x3 + 2).toNatClampNeg), .int (X.2 (x3 + 1).toNatClampNeg), .ref a1]) lk_M174 lk_s174_454_4 rfl ?_
                  refine lk_wp_sai lk_i174_458 lk_M174 H (fun H => ?_)
                  refine lk_wp_cv (as := [.int (X.2 (x3 + 1).toNatClampNeg), .int (X.2 (x3 + 2).toNatClampNeg), .int (X.2 (x3 + 3).toNatClampNeg), .int (X.2 (x3 + 4).toNatClampNeg)]) (r := []) (a := a1) lk_i174_459 lk_M174 rfl rfl rfl (Nat.le_of_ble_eq_true rfl) H (fun k42 H => lk_gi H (fun r38 h37 H => ?_))
                  refine lk_wp_seg (lo' := [.retAddr 1, .ref a1, .ref a2, .int x3]) (st' := [.int (x3 + 1), .retAddr 1, .ref a2, .int r38]) lk_M174 lk_s174_462_5 rfl ?_
                  refine lk_wp_sai lk_i174_467 lk_M174 H (fun H => ?_)
                  refine lk_wp_seg (lo' := [.retAddr 1, .ref a1, .ref a2, .int x3]) (st' := [.int (x3 + 2), .retAddr 1, .int (X.2 (x3 + 1).toNatClampNeg), .ref a2, .int r38]) lk_M174 lk_s174_468_4 rfl ?_
                  refine lk_wp_sai lk_i174_472 lk_M174 H (fun H => ?_)
                  refine lk_wp_seg (lo' := [.retAddr 1, .ref a1, .ref a2, .int x3]) (st' := [.int (x3 + 3), .retAddr 1, .int (X.2 (x3 + 2).toNatClampNeg), .int (X.2 (x3 + 1).toNatClampNeg), .ref a2, .int r38]) lk_M174 lk_s174_473_4 rfl ?_
                  refine lk_wp_sai lk_i174_477 lk_M174 H (fun H => ?_)
                  refine lk_wp_seg (lo' := [.retAddr 1, .ref a1, .ref a2, .int x3]) (st' := [.int (x3 + 4), .retAddr 1, .int (X.2 (x3 + 3).toNatClampNeg), .int (X.2 (x3 + 2).toNatClampNeg), .int (X.2 (x3 + 1).toNatClampNeg), .ref a2, .int r38]) lk_M174 lk_s174_478_4 rfl ?_
                  refine lk_wp_sai lk_i174_482 lk_M174 H (fun H => ?_)
                  refine lk_wp_cv (as := [.int (X.2 (x3 + 1).toNatClampNeg), .int (X.2 (x3 + 2).toNatClampNeg), .int (X.2 (x3 + 3).toNatClampNeg), .int (X.2 (x3 + 4).toNatClampNeg)]) (r := [.int r38]) (a := a2) lk_i174_483 lk_M174 rfl rfl rfl (Nat.le_of_ble_eq_true rfl) H (fun k41 H => lk_gi H (fun r40 h39 H => ?_))
                  refine lk_wp_ic_eq lk_i174_486 lk_M174 H (fun H => ?_) (fun H => ?_)
                  · refine lk_wp_seg (lo' := [.retAddr 1, .ref a1, .ref a2, .int (x3 + 6)]) (st' := []) lk_M174 lk_s174_1214_2 rfl ?_
                    exact H
                  · refine lk_wp_seg (lo' := [.retAddr 1, .ref a1, .ref a2, .int x3]) (st' := [.int 0]) lk_M174 lk_s174_489_1 rfl ?_
                    exact lk_wp_ret lk_i174_490 lk_M174 rfl H
                · refine lk_wp_swc H (fun H => ?_) (fun H => ?_)
                  · refine lk_wp_seg (lo' := [.retAddr 1, .ref a1, .ref a2, .int x3]) (st' := [.int (x3 + 1), .retAddr 1, .ref a1]) lk_M174 lk_s174_491_5 rfl ?_
                    refine lk_wp_sai lk_i174_496 lk_M174 H (fun H => ?_)
                    refine lk_wp_seg (lo' := [.retAddr 1, .ref a1, .ref a2, .int x3]) (st' := [.int (x3 + 2), .retAddr 1, .int (X.2 (x3 + 1).toNatClampNeg), .ref a1]) lk_M174 lk_s174_497_4 rfl ?_
                    refine lk_wp_sai lk_i174_501 lk_M174 H (fun H => ?_)
                    refine lk_wp_seg (lo' := [.retAddr 1, .ref a1, .ref a2, .int x3]) (st' := [.int (x3 + 3), .retAddr 1, .int (X.2 (x3 + 2).toNatClampNeg), .int (X.2 (x3 + 1).toNatClampNeg), .ref a1]) lk_M174 lk_s174_502_4 rfl ?_
                    refine lk_wp_sai lk_i174_506 lk_M174 H (fun H => ?_)
                    refine lk_wp_seg (lo' := [.retAddr 1, .ref a1, .ref a2, .int x3]) (st' := [.int (x3 + 4), .retAddr 1, .int (X.2 (x3 + 3).toNatClampNeg), .int (X.2 (x3 + 2).toNatClampNeg), .int (X.2 (x3 + 1).toNatClampNeg), .ref a1]) lk_M174 lk_s174_507_4 rfl ?_
                    refine lk_wp_sai lk_i174_511 lk_M174 H (fun H => ?_)
                    refine lk_wp_cv (as := [.int (X.2 (x3 + 1).toNatClampNeg), .int (X.2 (x3 + 2).toNatClampNeg), .int (X.2 (x3 + 3).toNatClampNeg), .int (X.2 (x3 + 4).toNatClampNeg)]) (r := []) (a := a1) lk_i174_512 lk_M174 rfl rfl rfl (Nat.le_of_ble_eq_true rfl) H (fun k48 H => lk_gi H (fun r44 h43 H => ?_))
                    refine lk_wp_seg (lo' := [.retAddr 1, .ref a1, .ref a2, .int x3]) (st' := [.int (x3 + 1), .retAddr 1, .ref a2, .int r44]) lk_M174 lk_s174_515_5 rfl ?_
                    refine lk_wp_sai lk_i174_520 lk_M174 H (fun H => ?_)
                    refine lk_wp_seg (lo' := [.retAddr 1, .ref a1, .ref a2, .int x3]) (st' := [.int (x3 + 2), .retAddr 1, .int (X.2 (x3 + 1).toNatClampNeg), .ref a2, .int r44]) lk_M174 lk_s174_521_4 rfl ?_
                    refine lk_wp_sai lk_i174_525 lk_M174 H (fun H => ?_)
                    refine lk_wp_seg (lo' := [.retAddr 1, .ref a1, .ref a2, .int x3]) (st' := [.int (x3 + 3), .retAddr 1, .int (X.2 (x3 + 2).toNatClampNeg), .int (X.2 (x3 + 1).toNatClampNeg), .ref a2, .int r44]) lk_M174 lk_s174_526_4 rfl ?_
                    refine lk_wp_sai lk_i174_530 lk_M174 H (fun H => ?_)
                    refine lk_wp_seg (lo' := [.retAddr 1, .ref a1, .ref a2, .int x3]) (st' := [.int (x3 + 4), .retAddr 1, .int (X.2 (x3 + 3).toNatClampNeg), .int (X.2 (x3 + 2).toNatClampNeg), .int (X.2 (x3 + 1).toNatClampNeg), .ref a2, .int r44]) lk_M174 lk_s174_531_4 rfl ?_
                    refine lk_wp_sai lk_i174_535 lk_M174 H (fun H => ?_)
                    refine lk_wp_cv (as := [.int (X.2 (x3 + 1).toNatClampNeg), .int (X.2 (x3 + 2).toNatClampNeg), .int (X.2 (x3 + 3).toNatClampNeg), .int (X.2 (x3 + 4).toNatClampNeg)]) (r := [.int r44]) (a := a2) lk_i174_536 lk_M174 rfl rfl rfl (Nat.le_of_ble_eq_true rfl) H (fun k47 H => lk_gi H (fun r46 h45 H => ?_))
                    refine lk_wp_ic_eq lk_i174_539 lk_M174 H (fun H => ?_) (fun H => ?_)
                    · refine lk_wp_seg (lo' := [.retAddr 1, .ref a1, .ref a2, .int (x3 + 6)]) (st' := []) lk_M174 lk_s174_1214_2 rfl ?_
                      exact H
                    · refine lk_wp_seg (lo' := [.retAddr 1, .ref a1, .ref a2, .int x3]) (st' := [.int 0]) lk_M174 lk_s174_542_1 rfl ?_
                      exact lk_wp_ret lk_i174_543 lk_M174 rfl H
                  · refine lk_wp_swc H (fun H => ?_) (fun H => ?_)
                    · refine lk_wp_seg (lo' := [.retAddr 1, .ref a1, .ref a2, .int x3]) (st' := [.int (x3 + 1), .retAddr 1, .ref a1]) lk_M174 lk_s174_544_5 rfl ?_
                      refine lk_wp_sai lk_i174_549 lk_M174 H (fun H => ?_)
                      refine lk_wp_seg (lo' := [.retAddr 1, .ref a1, .ref a2, .int x3]) (st' := [.int (x3 + 2), .retAddr 1, .int (X.2 (x3 + 1).toNatClampNeg), .ref a1]) lk_M174 lk_s174_550_4 rfl ?_
                      refine lk_wp_sai lk_i174_554 lk_M174 H (fun H => ?_)
                      refine lk_wp_seg (lo' := [.retAddr 1, .ref a1, .ref a2, .int x3]) (st' := [.int (x3 + 3), .retAddr 1, .int (X.2 (x3 + 2).toNatClampNeg), .int (X.2 (x3 + 1).toNatClampNeg), .ref a1]) lk_M174 lk_s174_555_4 rfl ?_
                      refine lk_wp_sai lk_i174_559 lk_M174 H (fun H => ?_)
                      refine lk_wp_cv (as := [.int (X.2 (x3 + 1).toNatClampNeg), .int (X.2 (x3 + 2).toNatClampNeg), .int (X.2 (x3 + 3).toNatClampNeg)]) (r := []) (a := a1) lk_i174_560 lk_M174 rfl rfl rfl (Nat.le_of_ble_eq_true rfl) H (fun k54 H => lk_gi H (fun r50 h49 H => ?_))
                      refine lk_wp_seg (lo' := [.retAddr 1, .ref a1, .ref a2, .int x3]) (st' := [.int (x3 + 1), .retAddr 1, .ref a2, .int r50]) lk_M174 lk_s174_563_5 rfl ?_
                      refine lk_wp_sai lk_i174_568 lk_M174 H (fun H => ?_)
                      refine lk_wp_seg (lo' := [.retAddr 1, .ref a1, .ref a2, .int x3]) (st' := [.int (x3 + 2), .retAddr 1, .int (X.2 (x3 + 1).toNatClampNeg), .ref a2, .int r50]) lk_M174 lk_s174_569_4 rfl ?_
                      refine lk_wp_sai lk_i174_573 lk_M174 H (fun H => ?_)
                      refine lk_wp_seg (lo' := [.retAddr 1, .ref a1, .ref a2, .int x3]) (st' := [.int (x3 + 3), .retAddr 1, .int (X.2 (x3 + 2).toNatClampNeg), .int (X.2 (x3 + 1).toNatClampNeg), .ref a2, .int r50]) lk_M174 lk_s174_574_4 rfl ?_
                      refine lk_wp_sai lk_i174_578 lk_M174 H (fun H => ?_)
                      refine lk_wp_cv (as := [.int (X.2 (x3 + 1).toNatClampNeg), .int (X.2 (x3 + 2).toNatClampNeg), .int (X.2 (x3 + 3).toNatClampNeg)]) (r := [.int r50]) (a := a2) lk_i174_579 lk_M174 rfl rfl rfl (Nat.le_of_ble_eq_true rfl) H (fun k53 H => lk_gi H (fun r52 h51 H => ?_))
                      refine lk_wp_ic_eq lk_i174_582 lk_M174 H (fun H => ?_) (fun H => ?_)
                      · refine lk_wp_seg (lo' := [.retAddr 1, .ref a1, .ref a2, .int (x3 + 6)]) (st' := []) lk_M174 lk_s174_1214_2 rfl ?_
                        exact H
                      · refine lk_wp_seg (lo' := [.retAddr 1, .ref a1, .ref a2, .int x3]) (st' := [.int 0]) lk_M174 lk_s174_585_1 rfl ?_
                        exact lk_wp_ret lk_i174_586 lk_M174 rfl H
                    · refine lk_wp_swc H (fun H => ?_) (fun H => ?_)
                      · refine lk_wp_seg (lo' := [.retAddr 1, .ref a1, .ref a2, .int x3]) (st' := [.int (x3 + 1), .retAddr 1, .ref a1]) lk_M174 lk_s174_587_5 rfl ?_
                        refine lk_wp_sai lk_i174_592 lk_M174 H (fun H => ?_)
                        refine lk_wp_seg (lo' := [.retAddr 1, .ref a1, .ref a2, .int x3]) (st' := [.int (x3 + 2), .retAddr 1, .int (X.2 (x3 + 1).toNatClampNeg), .ref a1]) lk_M174 lk_s174_593_4 rfl ?_
                        refine lk_wp_sai lk_i174_597 lk_M174 H (fun H => ?_)
                        refine lk_wp_seg (lo' := [.retAddr 1, .ref a1, .ref a2, .int x3]) (st' := [.int (x3 + 3), .retAddr 1, .int (X.2 (x3 + 2).toNatClampNeg), .int (X.2 (x3 + 1).toNatClampNeg), .ref a1]) lk_M174 lk_s174_598_4 rfl ?_
                        refine lk_wp_sai lk_i174_602 lk_M174 H (fun H => ?_)
                        refine lk_wp_cv (as := [.int (X.2 (x3 + 1).toNatClampNeg), .int (X.2 (x3 + 2).toNatClampNeg), .int (X.2 (x3 + 3).toNatClampNeg)]) (r := []) (a := a1) lk_i174_603 lk_M174 rfl rfl rfl (Nat.le_of_ble_eq_true rfl) H (fun k60 H => lk_gi H (fun r56 h55 H => ?_))
                        refine lk_wp_seg (lo' := [.retAddr 1, .ref a1, .ref a2, .int x3]) (st' := [.int (x3 + 1), .retAddr 1, .ref a2, .int r56]) lk_M174 lk_s174_606_5 rfl ?_
                        refine lk_wp_sai lk_i174_611 lk_M174 H (fun H => ?_)
                        refine lk_wp_seg (lo' := [.retAddr 1, .ref a1, .ref a2, .int x3]) (st' := [.int (x3 + 2), .retAddr 1, .int (X.2 (x3 + 1).toNatClampNeg), .ref a2, .int r56]) lk_M174 lk_s174_612_4 rfl ?_
                        refine lk_wp_sai lk_i174_616 lk_M174 H (fun H => ?_)
                        refine lk_wp_seg (lo' := [.retAddr 1, .ref a1, .ref a2, .int x3]) (st' := [.int (x3 + 3), .retAddr 1, .int (X.2 (x3 + 2).toNatClampNeg), .int (X.2 (x3 + 1).toNatClampNeg), .ref a2, .int r56]) lk_M174 lk_s174_617_4 rfl ?_
                        refine lk_wp_sai lk_i174_621 lk_M174 H (fun H => ?_)
                        refine lk_wp_cv (as := [.int (X.2 (x3 + 1).toNatClampNeg), .int (X.2 (x3 + 2).toNatClampNeg), .int (X.2 (x3 + 3).toNatClampNeg)]) (r := [.int r56]) (a := a2) lk_i174_622 lk_M174 rfl rfl rfl (Nat.le_of_ble_eq_true rfl) H (fun k59 H => lk_gi H (fun r58 h57 H => ?_))
                        refine lk_wp_ic_eq lk_i174_625 lk_M174 H (fun H => ?_) (fun H => ?_)
                        · refine lk_wp_seg (lo' := [.retAddr 1, .ref a1, .ref a2, .int (x3 + 6)]) (st' := []) lk_M174 lk_s174_1214_2 rfl ?_
                          exact H
                        · refine lk_wp_seg (lo' := [.retAddr 1, .ref a1, .ref a2, .int x3]) (st' := [.int 0]) lk_M174 lk_s174_628_1 rfl ?_
                          exact lk_wp_ret lk_i174_629 lk_M174 rfl H
                      · refine lk_wp_swc H (fun H => ?_) (fun H => ?_)
                        · refine lk_wp_seg (lo' := [.retAddr 1, .ref a1, .ref a2, .int x3]) (st' := [.int (x3 + 1), .retAddr 1, .ref a1]) lk_M174 lk_s174_630_5 rfl ?_
                          refine lk_wp_sai lk_i174_635 lk_M174 H (fun H => ?_)
                          refine lk_wp_seg (lo' := [.retAddr 1, .ref a1, .ref a2, .int x3]) (st' := [.int (x3 + 2), .retAddr 1, .int (X.2 (x3 + 1).toNatClampNeg), .ref a1]) lk_M174 lk_s174_636_4 rfl ?_
                          refine lk_wp_sai lk_i174_640 lk_M174 H (fun H => ?_)
                          refine lk_wp_seg (lo' := [.retAddr 1, .ref a1, .ref a2, .int x3]) (st' := [.int (x3 + 3), .retAddr 1, .int (X.2 (x3 + 2).toNatClampNeg), .int (X.2 (x3 + 1).toNatClampNeg), .ref a1]) lk_M174 lk_s174_641_4 rfl ?_
                          refine lk_wp_sai lk_i174_645 lk_M174 H (fun H => ?_)
                          refine lk_wp_cv (as := [.int (X.2 (x3 + 1).toNatClampNeg), .int (X.2 (x3 + 2).toNatClampNeg), .int (X.2 (x3 + 3).toNatClampNeg)]) (r := []) (a := a1) lk_i174_646 lk_M174 rfl rfl rfl (Nat.le_of_ble_eq_true rfl) H (fun k66 H => lk_gi H (fun r62 h61 H => ?_))
                          refine lk_wp_seg (lo' := [.retAddr 1, .ref a1, .ref a2, .int x3]) (st' := [.int (x3 + 1), .retAddr 1, .ref a2, .int r62]) lk_M174 lk_s174_649_5 rfl ?_
                          refine lk_wp_sai lk_i174_654 lk_M174 H (fun H => ?_)
                          refine lk_wp_seg (lo' := [.retAddr 1, .ref a1, .ref a2, .int x3]) (st' := [.int (x3 + 2), .retAddr 1, .int (X.2 (x3 + 1).toNatClampNeg), .ref a2, .int r62]) lk_M174 lk_s174_655_4 rfl ?_
                          refine lk_wp_sai lk_i174_659 lk_M174 H (fun H => ?_)
                          refine lk_wp_seg (lo' := [.retAddr 1, .ref a1, .ref a2, .int x3]) (st' := [.int (x3 + 3), .retAddr 1, .int (X.2 (x3 + 2).toNatClampNeg), .int (X.2 (x3 + 1).toNatClampNeg), .ref a2, .int r62]) lk_M174 lk_s174_660_4 rfl ?_
                          refine lk_wp_sai lk_i174_664 lk_M174 H (fun H => ?_)
                          refine lk_wp_cv (as := [.int (X.2 (x3 + 1).toNatClampNeg), .int (X.2 (x3 + 2).toNatClampNeg), .int (X.2 (x3 + 3).toNatClampNeg)]) (r := [.int r62]) (a := a2) lk_i174_665 lk_M174 rfl rfl rfl (Nat.le_of_ble_eq_true rfl) H (fun k65 H => lk_gi H (fun r64 h63 H => ?_))
                          refine lk_wp_ic_eq lk_i174_668 lk_M174 H (fun H => ?_) (fun H => ?_)
                          · refine lk_wp_seg (lo' := [.retAddr 1, .ref a1, .ref a2, .int (x3 + 6)]) (st' := []) lk_M174 lk_s174_1214_2 rfl ?_
                            exact H
                          · refine lk_wp_seg (lo' := [.retAddr 1, .ref a1, .ref a2, .int x3]) (st' := [.int 0]) lk_M174 lk_s174_671_1 rfl ?_
                            exact lk_wp_ret lk_i174_672 lk_M174 rfl H
                        · refine lk_wp_swc H (fun H => ?_) (fun H => ?_)
                          · refine lk_wp_seg (lo' := [.retAddr 1, .ref a1, .ref a2, .int x3]) (st' := [.int (x3 + 1), .retAddr 1, .ref a1]) lk_M174 lk_s174_673_5 rfl ?_
                            refine lk_wp_sai lk_i174_678 lk_M174 H (fun H => ?_)
                            refine lk_wp_seg (lo' := [.retAddr 1, .ref a1, .ref a2, .int x3]) (st' := [.int (x3 + 2), .retAddr 1, .int (X.2 (x3 + 1).toNatClampNeg), .ref a1]) lk_M174 lk_s174_679_4 rfl ?_
                            refine lk_wp_sai lk_i174_683 lk_M174 H (fun H => ?_)
                            refine lk_wp_seg (lo' := [.retAddr 1, .ref a1, .ref a2, .int x3]) (st' := [.int (x3 + 3), .retAddr 1, .int (X.2 (x3 + 2).toNatClampNeg), .int (X.2 (x3 + 1).toNatClampNeg), .ref a1]) lk_M174 lk_s174_684_4 rfl ?_
                            refine lk_wp_sai lk_i174_688 lk_M174 H (fun H => ?_)
                            refine lk_wp_cv (as := [.int (X.2 (x3 + 1).toNatClampNeg), .int (X.2 (x3 + 2).toNatClampNeg), .int (X.2 (x3 + 3).toNatClampNeg)]) (r := []) (a := a1) lk_i174_689 lk_M174 rfl rfl rfl (Nat.le_of_ble_eq_true rfl) H (fun k72 H => lk_gi H (fun r68 h67 H => ?_))
                            refine lk_wp_seg (lo' := [.retAddr 1, .ref a1, .ref a2, .int x3]) (st' := [.int (x3 + 1), .retAddr 1, .ref a2, .int r68]) lk_M174 lk_s174_692_5 rfl ?_
                            refine lk_wp_sai lk_i174_697 lk_M174 H (fun H => ?_)
                            refine lk_wp_seg (lo' := [.retAddr 1, .ref a1, .ref a2, .int x3]) (st' := [.int (x3 + 2), .retAddr 1, .int (X.2 (x3 + 1).toNatClampNeg), .ref a2, .int r68]) lk_M174 lk_s174_698_4 rfl ?_
                            refine lk_wp_sai lk_i174_702 lk_M174 H (fun H => ?_)
                            refine lk_wp_seg (lo' := [.retAddr 1, .ref a1, .ref a2, .int x3]) (st' := [.int (x3 + 3), .retAddr 1, .int (X.2 (x3 + 2).toNatClampNeg), .int (X.2 (x3 + 1).toNatClampNeg), .ref a2, .int r68]) lk_M174 lk_s174_703_4 rfl ?_
                            refine lk_wp_sai lk_i174_707 lk_M174 H (fun H => ?_)
                            refine lk_wp_cv (as := [.int (X.2 (x3 + 1).toNatClampNeg), .int (X.2 (x3 + 2).toNatClampNeg), .int (X.2 (x3 + 3).toNatClampNeg)]) (r := [.int r68]) (a := a2) lk_i174_708 lk_M174 rfl rfl rfl (Nat.le_of_ble_eq_true rfl) H (fun k71 H => lk_gi H (fun r70 h69 H => ?_))
                            refine lk_wp_ic_eq lk_i174_711 lk_M174 H (fun H => ?_) (fun H => ?_)
                            · refine lk_wp_seg (lo' := [.retAddr 1, .ref a1, .ref a2, .int (x3 + 6)]) (st' := []) lk_M174 lk_s174_1214_2 rfl ?_
                              exact H
                            · refine lk_wp_seg (lo' := [.retAddr 1, .ref a1, .ref a2, .int x3]) (st' := [.int 0]) lk_M174 lk_s174_714_1 rfl ?_
                              exact lk_wp_ret lk_i174_715 lk_M174 rfl H
                          · refine lk_wp_swc H (fun H => ?_) (fun H => ?_)
                            · refine lk_wp_seg (lo' := [.retAddr 1, .ref a1, .ref a2, .int x3]) (st' := [.int (x3 + 1), .retAddr 1, .ref a1]) lk_M174 lk_s174_716_5 rfl ?_
                              refine lk_wp_sai lk_i174_721 lk_M174 H (fun H => ?_)
                              refine lk_wp_cv (as := [.int (X.2 (x3 + 1).toNatClampNeg)]) (r := []) (a := a1) lk_i174_722 lk_M174 rfl rfl rfl (Nat.le_of_ble_eq_true rfl) H (fun k78 H => lk_gi H (fun r74 h73 H => ?_))
                              refine lk_wp_seg (lo' := [.retAddr 1, .ref a1, .ref a2, .int x3]) (st' := [.int (x3 + 1), .retAddr 1, .ref a2, .int r74]) lk_M174 lk_s174_725_5 rfl ?_
                              refine lk_wp_sai lk_i174_730 lk_M174 H (fun H => ?_)
                              refine lk_wp_cv (as := [.int (X.2 (x3 + 1).toNatClampNeg)]) (r := [.int r74]) (a := a2) lk_i174_731 lk_M174 rfl rfl rfl (Nat.le_of_ble_eq_true rfl) H (fun k77 H => lk_gi H (fun r76 h75 H => ?_))
                              refine lk_wp_ic_eq lk_i174_734 lk_M174 H (fun H => ?_) (fun H => ?_)
                              · refine lk_wp_seg (lo' := [.retAddr 1, .ref a1, .ref a2, .int (x3 + 6)]) (st' := []) lk_M174 lk_s174_1214_2 rfl ?_
                                exact H
                              · refine lk_wp_seg (lo' := [.retAddr 1, .ref a1, .ref a2, .int x3]) (st' := [.int 0]) lk_M174 lk_s174_737_1 rfl ?_
                                exact lk_wp_ret lk_i174_738 lk_M174 rfl H
                            · refine lk_wp_swc H (fun H => ?_) (fun H => ?_)
                              · refine lk_wp_seg (lo' := [.retAddr 1, .ref a1, .ref a2, .int x3]) (st' := [.int (x3 + 1), .retAddr 1, .ref a1]) lk_M174 lk_s174_739_5 rfl ?_
                                refine lk_wp_sai lk_i174_744 lk_M174 H (fun H => ?_)
                                refine lk_wp_cv (as := [.int (X.2 (x3 + 1).toNatClampNeg)]) (r := []) (a := a1) lk_i174_745 lk_M174 rfl rfl rfl (Nat.le_of_ble_eq_true rfl) H (fun k84 H => lk_gi H (fun r80 h79 H => ?_))
                                refine lk_wp_seg (lo' := [.retAddr 1, .ref a1, .ref a2, .int x3]) (st' := [.int (x3 + 1), .retAddr 1, .ref a2, .int r80]) lk_M174 lk_s174_748_5 rfl ?_
                                refine lk_wp_sai lk_i174_753 lk_M174 H (fun H => ?_)
                                refine lk_wp_cv (as := [.int (X.2 (x3 + 1).toNatClampNeg)]) (r := [.int r80]) (a := a2) lk_i174_754 lk_M174 rfl rfl rfl (Nat.le_of_ble_eq_true rfl) H (fun k83 H => lk_gi H (fun r82 h81 H => ?_))
                                refine lk_wp_ic_eq lk_i174_757 lk_M174 H (fun H => ?_) (fun H => ?_)
                                · refine lk_wp_seg (lo' := [.retAddr 1, .ref a1, .ref a2, .int (x3 + 6)]) (st' := []) lk_M174 lk_s174_1214_2 rfl ?_
                                  exact H
                                · refine lk_wp_seg (lo' := [.retAddr 1, .ref a1, .ref a2, .int x3]) (st' := [.int 0]) lk_M174 lk_s174_760_1 rfl ?_
                                  exact lk_wp_ret lk_i174_761 lk_M174 rfl H
                              · refine lk_wp_swc H (fun H => ?_) (fun H => ?_)
                                · refine lk_wp_seg (lo' := [.retAddr 1, .ref a1, .ref a2, .int x3]) (st' := [.int (x3 + 1), .retAddr 1, .ref a1]) lk_M174 lk_s174_762_5 rfl ?_
                                  refine lk_wp_sai lk_i174_767 lk_M174 H (fun H => ?_)
                                  refine lk_wp_seg (lo' := [.retAddr 1, .ref a1, .ref a2, .int x3]) (st' := [.int (x3 + 2), .retAddr 1, .int (X.2 (x3 + 1).toNatClampNeg), .ref a1]) lk_M174 lk_s174_768_4 rfl ?_
                                  refine lk_wp_sai lk_i174_772 lk_M174 H (fun H => ?_)
                                  refine lk_wp_cv (as := [.int (X.2 (x3 + 1).toNatClampNeg), .int (X.2 (x3 + 2).toNatClampNeg)]) (r := []) (a := a1) lk_i174_773 lk_M174 rfl rfl rfl (Nat.le_of_ble_eq_true rfl) H (fun k90 H => lk_gi H (fun r86 h85 H => ?_))
                                  refine lk_wp_seg (lo' := [.retAddr 1, .ref a1, .ref a2, .int x3]) (st' := [.int (x3 + 1), .retAddr 1, .ref a2, .int r86]) lk_M174 lk_s174_776_5 rfl ?_
                                  refine lk_wp_sai lk_i174_781 lk_M174 H (fun H => ?_)
                                  refine lk_wp_seg (lo' := [.retAddr 1, .ref a1, .ref a2, .int x3]) (st' := [.int (x3 + 2), .retAddr 1, .int (X.2 (x3 + 1).toNatClampNeg), .ref a2, .int r86]) lk_M174 lk_s174_782_4 rfl ?_
                                  refine lk_wp_sai lk_i174_786 lk_M174 H (fun H => ?_)
                                  refine lk_wp_cv (as := [.int (X.2 (x3 + 1).toNatClampNeg), .int (X.2 (x3 + 2).toNatClampNeg)]) (r := [.int r86]) (a := a2) lk_i174_787 lk_M174 rfl rfl rfl (Nat.le_of_ble_eq_true rfl) H (fun k89 H => lk_gi H (fun r88 h87 H => ?_))
                                  refine lk_wp_ic_eq lk_i174_790 lk_M174 H (fun H => ?_) (fun H => ?_)
                                  · refine lk_wp_seg (lo' := [.retAddr 1, .ref a1, .ref a2, .int (x3 + 6)]) (st' := []) lk_M174 lk_s174_1214_2 rfl ?_
                                    exact H
                                  · refine lk_wp_seg (lo' := [.retAddr 1, .ref a1, .ref a2, .int x3]) (st' := [.int 0]) lk_M174 lk_s174_793_1 rfl ?_
                                    exact lk_wp_ret lk_i174_794 lk_M174 rfl H
                                · refine lk_wp_swc H (fun H => ?_) (fun H => ?_)
                                  · refine lk_wp_seg (lo' := [.retAddr 1, .ref a1, .ref a2, .int x3]) (st' := [.int (x3 + 1), .retAddr 1, .ref a1]) lk_M174 lk_s174_795_5 rfl ?_
                                    refine lk_wp_sai lk_i174_800 lk_M174 H (fun H => ?_)
                                    refine lk_wp_seg (lo' := [.retAddr 1, .ref a1, .ref a2, .int x3]) (st' := [.int (x3 + 2), .retAddr 1, .int (X.2 (x3 + 1).toNatClampNeg), .ref a1]) lk_M174 lk_s174_801_4 rfl ?_
                                    refine lk_wp_sai lk_i174_805 lk_M174 H (fun H => ?_)
                                    refine lk_wp_cv (as := [.int (X.2 (x3 + 1).toNatClampNeg), .int (X.2 (x3 + 2).toNatClampNeg)]) (r := []) (a := a1) lk_i174_806 lk_M174 rfl rfl rfl (Nat.le_of_ble_eq_true rfl) H (fun k96 H => lk_gi H (fun r92 h91 H => ?_))
                                    refine lk_wp_seg (lo' := [.retAddr 1, .ref a1, .ref a2, .int x3]) (st' := [.int (x3 + 1), .retAddr 1, .ref a2, .int r92]) lk_M174 lk_s174_809_5 rfl ?_
                                    refine lk_wp_sai lk_i174_814 lk_M174 H (fun H => ?_)
                                    refine lk_wp_seg (lo' := [.retAddr 1, .ref a1, .ref a2, .int x3]) (st' := [.int (x3 + 2), .retAddr 1, .int (X.2 (x3 + 1).toNatClampNeg), .ref a2, .int r92]) lk_M174 lk_s174_815_4 rfl ?_
                                    refine lk_wp_sai lk_i174_819 lk_M174 H (fun H => ?_)
                                    refine lk_wp_cv (as := [.int (X.2 (x3 + 1).toNatClampNeg), .int (X.2 (x3 + 2).toNatClampNeg)]) (r := [.int r92]) (a := a2) lk_i174_820 lk_M174 rfl rfl rfl (Nat.le_of_ble_eq_true rfl) H (fun k95 H => lk_gi H (fun r94 h93 H => ?_))
                                    refine lk_wp_ic_eq lk_i174_823 lk_M174 H (fun H => ?_) (fun H => ?_)
                                    · refine lk_wp_seg (lo' := [.retAddr 1, .ref a1, .ref a2, .int (x3 + 6)]) (st' := []) lk_M174 lk_s174_1214_2 rfl ?_
                                      exact H
                                    · refine lk_wp_seg (lo' := [.retAddr 1, .ref a1, .ref a2, .int x3]) (st' := [.int 0]) lk_M174 lk_s174_826_1 rfl ?_
                                      exact lk_wp_ret lk_i174_827 lk_M174 rfl H
                                  · refine lk_wp_swc H (fun H => ?_) (fun H => ?_)
                                    · refine lk_wp_seg (lo' := [.retAddr 1, .ref a1, .ref a2, .int x3]) (st' := [.int (x3 + 1), .retAddr 1, .ref a1]) lk_M174 lk_s174_828_5 rfl ?_
                                      refine lk_wp_sai lk_i174_833 lk_M174 H (fun H => ?_)
                                      refine lk_wp_seg (lo' := [.retAddr 1, .ref a1, .ref a2, .int x3]) (st' := [.int (x3 + 2), .retAddr 1, .int (X.2 (x3 + 1).toNatClampNeg), .ref a1]) lk_M174 lk_s174_834_4 rfl ?_
                                      refine lk_wp_sai lk_i174_838 lk_M174 H (fun H => ?_)
                                      refine lk_wp_cv (as := [.int (X.2 (x3 + 1).toNatClampNeg), .int (X.2 (x3 + 2).toNatClampNeg)]) (r := []) (a := a1) lk_i174_839 lk_M174 rfl rfl rfl (Nat.le_of_ble_eq_true rfl) H (fun k102 H => lk_gi H (fun r98 h97 H => ?_))
                                      refine lk_wp_seg (lo' := [.retAddr 1, .ref a1, .ref a2, .int x3]) (st' := [.int (x3 + 1), .retAddr 1, .ref a2, .int r98]) lk_M174 lk_s174_842_5 rfl ?_
                                      refine lk_wp_sai lk_i174_847 lk_M174 H (fun H => ?_)
                                      refine lk_wp_seg (lo' := [.retAddr 1, .ref a1, .ref a2, .int x3]) (st' := [.int (x3 + 2), .retAddr 1, .int (X.2 (x3 + 1).toNatClampNeg), .ref a2, .int r98]) lk_M174 lk_s174_848_4 rfl ?_
                                      refine lk_wp_sai lk_i174_852 lk_M174 H (fun H => ?_)
                                      refine lk_wp_cv (as := [.int (X.2 (x3 + 1).toNatClampNeg), .int (X.2 (x3 + 2).toNatClampNeg)]) (r := [.int r98]) (a := a2) lk_i174_853 lk_M174 rfl rfl rfl (Nat.le_of_ble_eq_true rfl) H (fun k101 H => lk_gi H (fun r100 h99 H => ?_))
                                      refine lk_wp_ic_eq lk_i174_856 lk_M174 H (fun H => ?_) (fun H => ?_)
                                      · refine lk_wp_seg (lo' := [.retAddr 1, .ref a1, .ref a2, .int (x3 + 6)]) (st' := []) lk_M174 lk_s174_1214_2 rfl ?_
                                        exact H
                                      · refine lk_wp_seg (lo' := [.retAddr 1, .ref a1, .ref a2, .int x3]) (st' := [.int 0]) lk_M174 lk_s174_859_1 rfl ?_
                                        exact lk_wp_ret lk_i174_860 lk_M174 rfl H
                                    · refine lk_wp_swc H (fun H => ?_) (fun H => ?_)
                                      · refine lk_wp_seg (lo' := [.retAddr 1, .ref a1, .ref a2, .int x3]) (st' := [.int (x3 + 1), .retAddr 1, .ref a1]) lk_M174 lk_s174_861_5 rfl ?_
                                        refine lk_wp_sai lk_i174_866 lk_M174 H (fun H => ?_)
                                        refine lk_wp_cv (as := [.int (X.2 (x3 + 1).toNatClampNeg)]) (r := []) (a := a1) lk_i174_867 lk_M174 rfl rfl rfl (Nat.le_of_ble_eq_true rfl) H (fun k108 H => lk_gi H (fun r104 h103 H => ?_))
                                        refine lk_wp_seg (lo' := [.retAddr 1, .ref a1, .ref a2, .int x3]) (st' := [.int (x3 + 1), .retAddr 1, .ref a2, .int r104]) lk_M174 lk_s174_870_5 rfl ?_
                                        refine lk_wp_sai lk_i174_875 lk_M174 H (fun H => ?_)
                                        refine lk_wp_cv (as := [.int (X.2 (x3 + 1).toNatClampNeg)]) (r := [.int r104]) (a := a2) lk_i174_876 lk_M174 rfl rfl rfl (Nat.le_of_ble_eq_true rfl) H (fun k107 H => lk_gi H (fun r106 h105 H => ?_))
                                        refine lk_wp_ic_eq lk_i174_879 lk_M174 H (fun H => ?_) (fun H => ?_)
                                        · refine lk_wp_seg (lo' := [.retAddr 1, .ref a1, .ref a2, .int (x3 + 6)]) (st' := []) lk_M174 lk_s174_1214_2 rfl ?_
                                          exact H
                                        · refine lk_wp_seg (lo' := [.retAddr 1, .ref a1, .ref a2, .int x3]) (st' := [.int 0]) lk_M174 lk_s174_882_1 rfl ?_
                                          exact lk_wp_ret lk_i174_883 lk_M174 rfl H
                                      · refine lk_wp_swc H (fun H => ?_) (fun H => ?_)
                                        · refine lk_wp_seg (lo' := [.retAddr 1, .ref a1, .ref a2, .int x3]) (st' := [.int (x3 + 1), .retAddr 1, .ref a1]) lk_M174 lk_s174_884_5 rfl ?_
                                          refine lk_wp_sai lk_i174_889 lk_M174 H (fun H => ?_)
                                          refine lk_wp_seg (lo' := [.retAddr 1, .ref a1, .ref a2, .int x3]) (st' := [.int (x3 + 2), .retAddr 1, .int (X.2 (x3 + 1).toNatClampNeg), .ref a1]) lk_M174 lk_s174_890_4 rfl ?_
                                          refine lk_wp_sai lk_i174_894 lk_M174 H (fun H => ?_)
                                          refine lk_wp_cv (as := [.int (X.2 (x3 + 1).toNatClampNeg), .int (X.2 (x3 + 2).toNatClampNeg)]) (r := []) (a := a1) lk_i174_895 lk_M174 rfl rfl rfl (Nat.le_of_ble_eq_true rfl) H (fun k114 H => lk_gi H (fun r110 h109 H => ?_))
                                          refine lk_wp_seg (lo' := [.retAddr 1, .ref a1, .ref a2, .int x3]) (st' := [.int (x3 + 1), .retAddr 1, .ref a2, .int r110]) lk_M174 lk_s174_898_5 rfl ?_
                                          refine lk_wp_sai lk_i174_903 lk_M174 H (fun H => ?_)
                                          refine lk_wp_seg (lo' := [.retAddr 1, .ref a1, .ref a2, .int x3]) (st' := [.int (x3 + 2), .retAddr 1, .int (X.2 (x3 + 1).toNatClampNeg), .ref a2, .int r110]) lk_M174 lk_s174_904_4 rfl ?_
                                          refine lk_wp_sai lk_i174_908 lk_M174 H (fun H => ?_)
                                          refine lk_wp_cv (as := [.int (X.2 (x3 + 1).toNatClampNeg), .int (X.2 (x3 + 2).toNatClampNeg)]) (r := [.int r110]) (a := a2) lk_i174_909 lk_M174 rfl rfl rfl (Nat.le_of_ble_eq_true rfl) H (fun k113 H => lk_gi H (fun r112 h111 H => ?_))
                                          refine lk_wp_ic_eq lk_i174_912 lk_M174 H (fun H => ?_) (fun H => ?_)
                                          · refine lk_wp_seg (lo' := [.retAddr 1, .ref a1, .ref a2, .int (x3 + 6)]) (st' := []) lk_M174 lk_s174_1214_2 rfl ?_
                                            exact H
                                          · refine lk_wp_seg (lo' := [.retAddr 1, .ref a1, .ref a2, .int x3]) (st' := [.int 0]) lk_M174 lk_s174_915_1 rfl ?_
                                            exact lk_wp_ret lk_i174_916 lk_M174 rfl H
                                        · refine lk_wp_swc H (fun H => ?_) (fun H => ?_)
                                          · refine lk_wp_seg (lo' := [.retAddr 1, .ref a1, .ref a2, .int x3]) (st' := [.int (x3 + 1), .retAddr 1, .ref a1]) lk_M174 lk_s174_917_5 rfl ?_
                                            refine lk_wp_sai lk_i174_922 lk_M174 H (fun H => ?_)
                                            refine lk_wp_seg (lo' := [.retAddr 1, .ref a1, .ref a2, .int x3]) (st' := [.int (x3 + 2), .retAddr 1, .int (X.2 (x3 + 1).toNatClampNeg), .ref a1]) lk_M174 lk_s174_923_4 rfl ?_
                                            refine lk_wp_sai lk_i174_927 lk_M174 H (fun H => ?_)
                                            refine lk_wp_cv (as := [.int (X.2 (x3 + 1).toNatClampNeg), .int (X.2 (x3 + 2).toNatClampNeg)]) (r := []) (a := a1) lk_i174_928 lk_M174 rfl rfl rfl (Nat.le_of_ble_eq_true rfl) H (fun k120 H => lk_gi H (fun r116 h115 H => ?_))
                                            refine lk_wp_seg (lo' := [.retAddr 1, .ref a1, .ref a2, .int x3]) (st' := [.int (x3 + 1), .retAddr 1, .ref a2, .int r116]) lk_M174 lk_s174_931_5 rfl ?_
                                            refine lk_wp_sai lk_i174_936 lk_M174 H (fun H => ?_)
                                            refine lk_wp_seg (lo' := [.retAddr 1, .ref a1, .ref a2, .int x3]) (st' := [.int (x3 + 2), .retAddr 1, .int (X.2 (x3 + 1).toNatClampNeg), .ref a2, .int r116]) lk_M174 lk_s174_937_4 rfl ?_
                                            refine lk_wp_sai lk_i174_941 lk_M174 H (fun H => ?_)
                                            refine lk_wp_cv (as := [.int (X.2 (x3 + 1).toNatClampNeg), .int (X.2 (x3 + 2).toNatClampNeg)]) (r := [.int r116]) (a := a2) lk_i174_942 lk_M174 rfl rfl rfl (Nat.le_of_ble_eq_true rfl) H (fun k119 H => lk_gi H (fun r118 h117 H => ?_))
                                            refine lk_wp_ic_eq lk_i174_945 lk_M174 H (fun H => ?_) (fun H => ?_)
                                            · refine lk_wp_seg (lo' := [.retAddr 1, .ref a1, .ref a2, .int (x3 + 6)]) (st' := []) lk_M174 lk_s174_1214_2 rfl ?_
                                              exact H
                                            · refine lk_wp_seg (lo' := [.retAddr 1, .ref a1, .ref a2, .int x3]) (st' := [.int 0]) lk_M174 lk_s174_948_1 rfl ?_
                                              exact lk_wp_ret lk_i174_949 lk_M174 rfl H
                                          · refine lk_wp_swc H (fun H => ?_) (fun H => ?_)
                                            · refine lk_wp_seg (lo' := [.retAddr 1, .ref a1, .ref a2, .int x3]) (st' := [.int (x3 + 1), .retAddr 1, .ref a1]) lk_M174 lk_s174_950_5 rfl ?_
                                              refine lk_wp_sai lk_i174_955 lk_M174 H (fun H => ?_)
                                              refine lk_wp_seg (lo' := [.retAddr 1, .ref a1, .ref a2, .int x3]) (st' := [.int (x3 + 2), .retAddr 1, .int (X.2 (x3 + 1).toNatClampNeg), .ref a1]) lk_M174 lk_s174_956_4 rfl ?_
                                              refine lk_wp_sai lk_i174_960 lk_M174 H (fun H => ?_)
                                              refine lk_wp_seg (lo' := [.retAddr 1, .ref a1, .ref a2, .int x3]) (st' := [.int (x3 + 3), .retAddr 1, .int (X.2 (x3 + 2).toNatClampNeg), .int (X.2 (x3 + 1).toNatClampNeg), .ref a1]) lk_M174 lk_s174_961_4 rfl ?_
                                              refine lk_wp_sai lk_i174_965 lk_M174 H (fun H => ?_)
                                              refine lk_wp_seg (lo' := [.retAddr 1, .ref a1, .ref a2, .int x3]) (st' := [.int (x3 + 4), .retAddr 1, .int (X.2 (x3 + 3).toNatClampNeg), .int (X.2 (x3 + 2).toNatClampNeg), .int (X.2 (x3 + 1).toNatClampNeg), .ref a1]) lk_M174 lk_s174_966_4 rfl ?_
                                              refine lk_wp_sai lk_i174_970 lk_M174 H (fun H => ?_)
                                              refine lk_wp_cv (as := [.int (X.2 (x3 + 1).toNatClampNeg), .int (X.2 (x3 + 2).toNatClampNeg), .int (X.2 (x3 + 3).toNatClampNeg), .int (X.2 (x3 + 4).toNatClampNeg)]) (r := []) (a := a1) lk_i174_971 lk_M174 rfl rfl rfl (Nat.le_of_ble_eq_true rfl) H (fun k126 H => lk_gi H (fun r122 h121 H => ?_))
                                              refine lk_wp_seg (lo' := [.retAddr 1, .ref a1, .ref a2, .int x3]) (st' := [.int (x3 + 1), .retAddr 1, .ref a2, .int r122]) lk_M174 lk_s174_974_5 rfl ?_
                                              refine lk_wp_sai lk_i174_979 lk_M174 H (fun H => ?_)
                                              refine lk_wp_seg (lo' := [.retAddr 1, .ref a1, .ref a2, .int x3]) (st' := [.int (x3 + 2), .retAddr 1, .int (X.2 (x3 + 1).toNatClampNeg), .ref a2, .int r122]) lk_M174 lk_s174_980_4 rfl ?_
                                              refine lk_wp_sai lk_i174_984 lk_M174 H (fun H => ?_)
                                              refine lk_wp_seg (lo' := [.retAddr 1, .ref a1, .ref a2, .int x3]) (st' := [.int (x3 + 3), .retAddr 1, .int (X.2 (x3 + 2).toNatClampNeg), .int (X.2 (x3 + 1).toNatClampNeg), .ref a2, .int r122]) lk_M174 lk_s174_985_4 rfl ?_
                                              refine lk_wp_sai lk_i174_989 lk_M174 H (fun H => ?_)
                                              refine lk_wp_seg (lo' := [.retAddr 1, .ref a1, .ref a2, .int x3]) (st' := [.int (x3 + 4), .retAddr 1, .int (X.2 (x3 + 3).toNatClampNeg), .int (X.2 (x3 + 2).toNatClampNeg), .int (X.2 (x3 + 1).toNatClampNeg), .ref a2, .int r122]) lk_M174 lk_s174_990_4 rfl ?_
                                              refine lk_wp_sai lk_i174_994 lk_M174 H (fun H => ?_)
                                              refine lk_wp_cv (as := [.int (X.2 (x3 + 1).toNatClampNeg), .int (X.2 (x3 + 2).toNatClampNeg), .int (X.2 (x3 + 3).toNatClampNeg), .int (X.2 (x3 + 4).toNatClampNeg)]) (r := [.int r122]) (a := a2) lk_i174_995 lk_M174 rfl rfl rfl (Nat.le_of_ble_eq_true rfl) H (fun k125 H => lk_gi H (fun r124 h123 H => ?_))
                                              refine lk_wp_ic_eq lk_i174_998 lk_M174 H (fun H => ?_) (fun H => ?_)
                                              · refine lk_wp_seg (lo' := [.retAddr 1, .ref a1, .ref a2, .int (x3 + 6)]) (st' := []) lk_M174 lk_s174_1214_2 rfl ?_
                                                exact H
                                              · refine lk_wp_seg (lo' := [.retAddr 1, .ref a1, .ref a2, .int x3]) (st' := [.int 0]) lk_M174 lk_s174_1001_1 rfl ?_
                                                exact lk_wp_ret lk_i174_1002 lk_M174 rfl H
                                            · refine lk_wp_swc H (fun H => ?_) (fun H => ?_)
                                              · refine lk_wp_seg (lo' := [.retAddr 1, .ref a1, .ref a2, .int x3]) (st' := [.int (x3 + 1), .retAddr 1, .ref a1]) lk_M174 lk_s174_1003_5 rfl ?_
                                                refine lk_wp_sai lk_i174_1008 lk_M174 H (fun H => ?_)
                                                refine lk_wp_cv (as := [.int (X.2 (x3 + 1).toNatClampNeg)]) (r := []) (a := a1) lk_i174_1009 lk_M174 rfl rfl rfl (Nat.le_of_ble_eq_true rfl) H (fun k132 H => lk_gi H (fun r128 h127 H => ?_))
                                                refine lk_wp_seg (lo' := [.retAddr 1, .ref a1, .ref a2, .int x3]) (st' := [.int (x3 + 1), .retAddr 1, .ref a2, .int r128]) lk_M174 lk_s174_1012_5 rfl ?_
                                                refine lk_wp_sai lk_i174_1017 lk_M174 H (fun H => ?_)
                                                refine lk_wp_cv (as := [.int (X.2 (x3 + 1).toNatClampNeg)]) (r := [.int r128]) (a := a2) lk_i174_1018 lk_M174 rfl rfl rfl (Nat.le_of_ble_eq_true rfl) H (fun k131 H => lk_gi H (fun r130 h129 H => ?_))
                                                refine lk_wp_ic_eq lk_i174_1021 lk_M174 H (fun H => ?_) (fun H => ?_)
                                                · refine lk_wp_seg (lo' := [.retAddr 1, .ref a1, .ref a2, .int (x3 + 6)]) (st' := []) lk_M174 lk_s174_1214_2 rfl ?_
                                                  exact H
                                                · refine lk_wp_seg (lo' := [.retAddr 1, .ref a1, .ref a2, .int x3]) (st' := [.int 0]) lk_M174 lk_s174_1024_1 rfl ?_
                                                  exact lk_wp_ret lk_i174_1025 lk_M174 rfl H
                                              · refine lk_wp_swc H (fun H => ?_) (fun H => ?_)
                                                · refine lk_wp_seg (lo' := [.retAddr 1, .ref a1, .ref a2, .int x3]) (st' := [.int (x3 + 1), .retAddr 1, .ref a1]) lk_M174 lk_s174_1026_5 rfl ?_
                                                  refine lk_wp_sai lk_i174_1031 lk_M174 H (fun H => ?_)
                                                  refine lk_wp_seg (lo' := [.retAddr 1, .ref a1, .ref a2, .int x3]) (st' := [.int (x3 + 2), .retAddr 1, .int (X.2 (x3 + 1).toNatClampNeg), .ref a1]) lk_M174 lk_s174_1032_4 rfl ?_
                                                  refine lk_wp_sai lk_i174_1036 lk_M174 H (fun H => ?_)
                                                  refine lk_wp_cv (as := [.int (X.2 (x3 + 1).toNatClampNeg), .int (X.2 (x3 + 2).toNatClampNeg)]) (r := []) (a := a1) lk_i174_1037 lk_M174 rfl rfl rfl (Nat.le_of_ble_eq_true rfl) H (fun k138 H => lk_gi H (fun r134 h133 H => ?_))
                                                  refine lk_wp_seg (lo' := [.retAddr 1, .ref a1, .ref a2, .int x3]) (st' := [.int (x3 + 1), .retAddr 1, .ref a2, .int r134]) lk_M174 lk_s174_1040_5 rfl ?_
                                                  refine lk_wp_sai lk_i174_1045 lk_M174 H (fun H => ?_)
                                                  refine lk_wp_seg (lo' := [.retAddr 1, .ref a1, .ref a2, .int x3]) (st' := [.int (x3 + 2), .retAddr 1, .int (X.2 (x3 + 1).toNatClampNeg), .ref a2, .int r134]) lk_M174 lk_s174_1046_4 rfl ?_
                                                  refine lk_wp_sai lk_i174_1050 lk_M174 H (fun H => ?_)
                                                  refine lk_wp_cv (as := [.int (X.2 (x3 + 1).toNatClampNeg), .int (X.2 (x3 + 2).toNatClampNeg)]) (r := [.int r134]) (a := a2) lk_i174_1051 lk_M174 rfl rfl rfl (Nat.le_of_ble_eq_true rfl) H (fun k137 H => lk_gi H (fun r136 h135 H => ?_))
                                                  refine lk_wp_ic_eq lk_i174_1054 lk_M174 H (fun H => ?_) (fun H => ?_)
                                                  · refine lk_wp_seg (lo' := [.retAddr 1, .ref a1, .ref a2, .int (x3 + 6)]) (st' := []) lk_M174 lk_s174_1214_2 rfl ?_
                                                    exact H
                                                  · refine lk_wp_seg (lo' := [.retAddr 1, .ref a1, .ref a2, .int x3]) (st' := [.int 0]) lk_M174 lk_s174_1057_1 rfl ?_
                                                    exact lk_wp_ret lk_i174_1058 lk_M174 rfl H
                                                · refine lk_wp_swc H (fun H => ?_) (fun H => ?_)
                                                  · refine lk_wp_seg (lo' := [.retAddr 1, .ref a1, .ref a2, .int x3]) (st' := [.int (x3 + 1), .retAddr 1, .ref a1]) lk_M174 lk_s174_1059_5 rfl ?_
                                                    refine lk_wp_sai lk_i174_1064 lk_M174 H (fun H => ?_)
                                                    refine lk_wp_seg (lo' := [.retAddr 1, .ref a1, .ref a2, .int x3]) (st' := [.int (x3 + 2), .retAddr 1, .int (X.2 (x3 + 1).toNatClampNeg), .ref a1]) lk_M174 lk_s174_1065_4 rfl ?_
                                                    refine lk_wp_sai lk_i174_1069 lk_M174 H (fun H => ?_)
                                                    refine lk_wp_seg (lo' := [.retAddr 1, .ref a1, .ref a2, .int x3]) (st' := [.int (x3 + 3), .retAddr 1, .int (X.2 (x3 + 2).toNatClampNeg), .int (X.2 (x3 + 1).toNatClampNeg), .ref a1]) lk_M174 lk_s174_1070_4 rfl ?_
                                                    refine lk_wp_sai lk_i174_1074 lk_M174 H (fun H => ?_)
                                                    refine lk_wp_seg (lo' := [.retAddr 1, .ref a1, .ref a2, .int x3]) (st' := [.int (x3 + 4), .retAddr 1, .int (X.2 (x3 + 3).toNatClampNeg), .int (X.2 (x3 + 2).toNatClampNeg), .int (X.2 (x3 + 1).toNatClampNeg), .ref a1]) lk_M174 lk_s174_1075_4 rfl ?_
                                                    refine lk_wp_sai lk_i174_1079 lk_M174 H (fun H => ?_)
                                                    refine lk_wp_seg (lo' := [.retAddr 1, .ref a1, .ref a2, .int x3]) (st' := [.int (x3 + 5), .retAddr 1, .int (X.2 (x3 + 4).toNatClampNeg), .int (X.2 (x3 + 3).toNatClampNeg), .int (X.2 (x3 + 2).toNatClampNeg), .int (X.2 (x3 + 1).toNatClampNeg), .ref a1]) lk_M174 lk_s174_1080_4 rfl ?_
                                                    refine lk_wp_sai lk_i174_1084 lk_M174 H (fun H => ?_)
                                                    refine lk_wp_cv (as := [.int (X.2 (x3 + 1).toNatClampNeg), .int (X.2 (x3 + 2).toNatClampNeg), .int (X.2 (x3 + 3).toNatClampNeg), .int (X.2 (x3 + 4).toNatClampNeg), .int (X.2 (x3 + 5).toNatClampNeg)]) (r := []) (a := a1) lk_i174_1085 lk_M174 rfl rfl rfl (Nat.le_of_ble_eq_true rfl) H (fun k144 H => lk_gi H (fun r140 h139 H => ?_))
                                                    refine lk_wp_seg (lo' := [.retAddr 1, .ref a1, .ref a2, .int x3]) (st' := [.int (x3 + 1), .retAddr 1, .ref a2, .int r140]) lk_M174 lk_s174_1088_5 rfl ?_
                                                    refine lk_wp_sai lk_i174_1093 lk_M174 H (fun H => ?_)
                                                    refine lk_wp_seg (lo' := [.retAddr 1, .ref a1, .ref a2, .int x3]) (st' := [.int (x3 + 2), .retAddr 1, .int (X.2 (x3 + 1).toNatClampNeg), .ref a2, .int r140]) lk_M174 lk_s174_1094_4 rfl ?_
                                                    refine lk_wp_sai lk_i174_1098 lk_M174 H (fun H => ?_)
                                                    refine lk_wp_seg (lo' := [.retAddr 1, .ref a1, .ref a2, .int x3]) (st' := [.int (x3 + 3), .retAddr 1, .int (X.2 (x3 + 2).toNatClampNeg), .int (X.2 (x3 + 1).toNatClampNeg), .ref a2, .int r140]) lk_M174 lk_s174_1099_4 rfl ?_
                                                    refine lk_wp_sai lk_i174_1103 lk_M174 H (fun H => ?_)
                                                    refine lk_wp_seg (lo' := [.retAddr 1, .ref a1, .ref a2, .int x3]) (st' := [.int (x3 + 4), .retAddr 1, .int (X.2 (x3 + 3).toNatClampNeg), .int (X.2 (x3 + 2).toNatClampNeg), .int (X.2 (x3 + 1).toNatClampNeg), .ref a2, .int r140]) lk_M174 lk_s174_1104_4 rfl ?_
                                                    refine lk_wp_sai lk_i174_1108 lk_M174 H (fun H => ?_)
                                                    refine lk_wp_seg (lo' := [.retAddr 1, .ref a1, .ref a2, .int x3]) (st' := [.int (x3 + 5), .retAddr 1, .int (X.2 (x3 + 4).toNatClampNeg), .int (X.2 (x3 + 3).toNatClampNeg), .int (X.2 (x3 + 2).toNatClampNeg), .int (X.2 (x3 + 1).toNatClampNeg), .ref a2, .int r140]) lk_M174 lk_s174_1109_4 rfl ?_
                                                    refine lk_wp_sai lk_i174_1113 lk_M174 H (fun H => ?_)
                                                    refine lk_wp_cv (as := [.int (X.2 (x3 + 1).toNatClampNeg), .int (X.2 (x3 + 2).toNatClampNeg), .int (X.2 (x3 + 3).toNatClampNeg), .int (X.2 (x3 + 4).toNatClampNeg), .int (X.2 (x3 + 5).toNatClampNeg)]) (r := [.int r140]) (a := a2) lk_i174_1114 lk_M174 rfl rfl rfl (Nat.le_of_ble_eq_true rfl) H (fun k143 H => lk_gi H (fun r142 h141 H => ?_))
                                                    refine lk_wp_ic_eq lk_i174_1117 lk_M174 H (fun H => ?_) (fun H => ?_)
                                                    · refine lk_wp_seg (lo' := [.retAddr 1, .ref a1, .ref a2, .int (x3 + 6)]) (st' := []) lk_M174 lk_s174_1214_2 rfl ?_
                                                      exact H
                                                    · refine lk_wp_seg (lo' := [.retAddr 1, .ref a1, .ref a2, .int x3]) (st' := [.int 0]) lk_M174 lk_s174_1120_1 rfl ?_
                                                      exact lk_wp_ret lk_i174_1121 lk_M174 rfl H
                                                  · refine lk_wp_swc H (fun H => ?_) (fun H => ?_)
                                                    · refine lk_wp_seg (lo' := [.retAddr 1, .ref a1, .ref a2, .int x3]) (st' := [.int (x3 + 1), .retAddr 1, .ref a1]) lk_M174 lk_s174_1122_5 rfl ?_
                                                      refine lk_wp_sai lk_i174_1127 lk_M174 H (fun H => ?_)
                                                      refine lk_wp_seg (lo' := [.retAddr 1, .ref a1, .ref a2, .int x3]) (st' := [.int (x3 + 2), .retAddr 1, .int (X.2 (x3 + 1).toNatClampNeg), .ref a1]) lk_M174 lk_s174_1128_4 rfl ?_
                                                      refine lk_wp_sai lk_i174_1132 lk_M174 H (fun H => ?_)
                                                      refine lk_wp_cv (as := [.int (X.2 (x3 + 1).toNatClampNeg), .int (X.2 (x3 + 2).toNatClampNeg)]) (r := []) (a := a1) lk_i174_1133 lk_M174 rfl rfl rfl (Nat.le_of_ble_eq_true rfl) H (fun k150 H => lk_gi H (fun r146 h145 H => ?_))
                                                      refine lk_wp_seg (lo' := [.retAddr 1, .ref a1, .ref a2, .int x3]) (st' := [.int (x3 + 1), .retAddr 1, .ref a2, .int r146]) lk_M174 lk_s174_1136_5 rfl ?_
                                                      refine lk_wp_sai lk_i174_1141 lk_M174 H (fun H => ?_)
                                                      refine lk_wp_seg (lo' := [.retAddr 1, .ref a1, .ref a2, .int x3]) (st' := [.int (x3 + 2), .retAddr 1, .int (X.2 (x3 + 1).toNatClampNeg), .ref a2, .int r146]) lk_M174 lk_s174_1142_4 rfl ?_
                                                      refine lk_wp_sai lk_i174_1146 lk_M174 H (fun H => ?_)
                                                      refine lk_wp_cv (as := [.int (X.2 (x3 + 1).toNatClampNeg), .int (X.2 (x3 + 2).toNatClampNeg)]) (r := [.int r146]) (a := a2) lk_i174_1147 lk_M174 rfl rfl rfl (Nat.le_of_ble_eq_true rfl) H (fun k149 H => lk_gi H (fun r148 h147 H => ?_))
                                                      refine lk_wp_ic_eq lk_i174_1150 lk_M174 H (fun H => ?_) (fun H => ?_)
                                                      · refine lk_wp_seg (lo' := [.retAddr 1, .ref a1, .ref a2, .int (x3 + 6)]) (st' := []) lk_M174 lk_s174_1214_2 rfl ?_
                                                        exact H
                                                      · refine lk_wp_seg (lo' := [.retAddr 1, .ref a1, .ref a2, .int x3]) (st' := [.int 0]) lk_M174 lk_s174_1153_1 rfl ?_
                                                        exact lk_wp_ret lk_i174_1154 lk_M174 rfl H
                                                    · refine lk_wp_swc H (fun H => ?_) (fun H => ?_)
                                                      · refine lk_wp_seg (lo' := [.retAddr 1, .ref a1, .ref a2, .int x3]) (st' := [.int (x3 + 1), .retAddr 1, .ref a1]) lk_M174 lk_s174_1155_5 rfl ?_
                                                        refine lk_wp_sai lk_i174_1160 lk_M174 H (fun H => ?_)
                                                        refine lk_wp_cv (as := [.int (X.2 (x3 + 1).toNatClampNeg)]) (r := []) (a := a1) lk_i174_1161 lk_M174 rfl rfl rfl (Nat.le_of_ble_eq_true rfl) H (fun k156 H => lk_gi H (fun r152 h151 H => ?_))
                                                        refine lk_wp_seg (lo' := [.retAddr 1, .ref a1, .ref a2, .int x3]) (st' := [.int (x3 + 1), .retAddr 1, .ref a2, .int r152]) lk_M174 lk_s174_1164_5 rfl ?_
                                                        refine lk_wp_sai lk_i174_1169 lk_M174 H (fun H => ?_)
                                                        refine lk_wp_cv (as := [.int (X.2 (x3 + 1).toNatClampNeg)]) (r := [.int r152]) (a := a2) lk_i174_1170 lk_M174 rfl rfl rfl (Nat.le_of_ble_eq_true rfl) H (fun k155 H => lk_gi H (fun r154 h153 H => ?_))
                                                        refine lk_wp_ic_eq lk_i174_1173 lk_M174 H (fun H => ?_) (fun H => ?_)
                                                        · refine lk_wp_seg (lo' := [.retAddr 1, .ref a1, .ref a2, .int (x3 + 6)]) (st' := []) lk_M174 lk_s174_1214_2 rfl ?_
                                                          exact H
                                                        · refine lk_wp_seg (lo' := [.retAddr 1, .ref a1, .ref a2, .int x3]) (st' := [.int 0]) lk_M174 lk_s174_1176_1 rfl ?_
                                                          exact lk_wp_ret lk_i174_1177 lk_M174 rfl H
                                                      · refine lk_wp_swc H (fun H => ?_) (fun H => ?_)
                                                        · refine lk_wp_seg (lo' := [.retAddr 1, .ref a1, .ref a2, .int x3]) (st' := [.int (x3 + 1), .retAddr 1, .ref a1]) lk_M174 lk_s174_1178_5 rfl ?_
                                                          refine lk_wp_sai lk_i174_1183 lk_M174 H (fun H => ?_)
                                                          refine lk_wp_cv (as := [.int (X.2 (x3 + 1).toNatClampNeg)]) (r := []) (a := a1) lk_i174_1184 lk_M174 rfl rfl rfl (Nat.le_of_ble_eq_true rfl) H (fun k162 H => lk_gi H (fun r158 h157 H => ?_))
                                                          refine lk_wp_seg (lo' := [.retAddr 1, .ref a1, .ref a2, .int x3]) (st' := [.int (x3 + 1), .retAddr 1, .ref a2, .int r158]) lk_M174 lk_s174_1187_5 rfl ?_
                                                          refine lk_wp_sai lk_i174_1192 lk_M174 H (fun H => ?_)
                                                          refine lk_wp_cv (as := [.int (X.2 (x3 + 1).toNatClampNeg)]) (r := [.int r158]) (a := a2) lk_i174_1193 lk_M174 rfl rfl rfl (Nat.le_of_ble_eq_true rfl) H (fun k161 H => lk_gi H (fun r160 h159 H => ?_))
                                                          refine lk_wp_ic_eq lk_i174_1196 lk_M174 H (fun H => ?_) (fun H => ?_)
                                                          · refine lk_wp_seg (lo' := [.retAddr 1, .ref a1, .ref a2, .int (x3 + 6)]) (st' := []) lk_M174 lk_s174_1214_2 rfl ?_
                                                            exact H
                                                          · refine lk_wp_seg (lo' := [.retAddr 1, .ref a1, .ref a2, .int x3]) (st' := [.int 0]) lk_M174 lk_s174_1199_1 rfl ?_
                                                            exact lk_wp_ret lk_i174_1200 lk_M174 rfl H
                                                        · refine lk_wp_swc H (fun H => ?_) (fun H => ?_)
                                                          · refine lk_wp_seg (lo' := [.retAddr 1, .ref a1, .ref a2, .int x3]) (st' := [.ref a1]) lk_M174 lk_s174_1201_1 rfl ?_
                                                            refine lk_wp_cv (as := []) (r := []) (a := a1) lk_i174_1202 lk_M174 rfl rfl rfl (Nat.le_of_ble_eq_true rfl) H (fun k168 H => lk_gi H (fun r164 h163 H => ?_))
                                                            refine lk_wp_seg (lo' := [.retAddr 1, .ref a1, .ref a2, .int x3]) (st' := [.ref a2, .int r164]) lk_M174 lk_s174_1205_1 rfl ?_
                                                            refine lk_wp_cv (as := []) (r := [.int r164]) (a := a2) lk_i174_1206 lk_M174 rfl rfl rfl (Nat.le_of_ble_eq_true rfl) H (fun k167 H => lk_gi H (fun r166 h165 H => ?_))
                                                            refine lk_wp_ic_eq lk_i174_1209 lk_M174 H (fun H => ?_) (fun H => ?_)
                                                            · refine lk_wp_seg (lo' := [.retAddr 1, .ref a1, .ref a2, .int (x3 + 6)]) (st' := []) lk_M174 lk_s174_1214_2 rfl ?_
                                                              exact H
                                                            · refine lk_wp_seg (lo' := [.retAddr 1, .ref a1, .ref a2, .int x3]) (st' := [.int 0]) lk_M174 lk_s174_1212_1 rfl ?_
                                                              exact lk_wp_ret lk_i174_1213 lk_M174 rfl H
                                                          · refine lk_wp_seg (lo' := [.retAddr 1, .ref a1, .ref a2, .int (x3 + 6)]) (st' := []) lk_M174 lk_s174_1214_2 rfl ?_
                                                            exact H
