/-! HandsLetModel.works(I)Z -/
theorem D165_0 : decode prog_12_method_39_code 0 = .ok (.aload_n 0, 1) := by decide +kernel
theorem D165_1 : decode prog_12_method_39_code 1 = .ok (.getfield 69, 3) := by decide +kernel
theorem D165_4 : decode prog_12_method_39_code 4 = .ok (.aload_n 0, 1) := by decide +kernel
theorem D165_5 : decode prog_12_method_39_code 5 = .ok (.getfield 317, 3) := by decide +kernel
theorem D165_8 : decode prog_12_method_39_code 8 = .ok (.iconst 1, 1) := by decide +kernel
theorem D165_9 : decode prog_12_method_39_code 9 = .ok (.isub, 1) := by decide +kernel
theorem D165_10 : decode prog_12_method_39_code 10 = .ok (.laload, 1) := by decide +kernel
theorem D165_11 : decode prog_12_method_39_code 11 = .ok (.lstore_n 2, 1) := by decide +kernel
theorem D165_12 : decode prog_12_method_39_code 12 = .ok (.iload_n 1, 1) := by decide +kernel
theorem D165_13 : decode prog_12_method_39_code 13 = .ok (.sipush 260, 3) := by decide +kernel
theorem D165_16 : decode prog_12_method_39_code 16 = .ok (.if_icmp .ne 30, 3) := by decide +kernel
theorem D165_19 : decode prog_12_method_39_code 19 = .ok (.aload_n 0, 1) := by decide +kernel
theorem D165_20 : decode prog_12_method_39_code 20 = .ok (.getfield 69, 3) := by decide +kernel
theorem D165_23 : decode prog_12_method_39_code 23 = .ok (.aload_n 0, 1) := by decide +kernel
theorem D165_24 : decode prog_12_method_39_code 24 = .ok (.getfield 317, 3) := by decide +kernel
theorem D165_27 : decode prog_12_method_39_code 27 = .ok (.iconst 1, 1) := by decide +kernel
theorem D165_28 : decode prog_12_method_39_code 28 = .ok (.isub, 1) := by decide +kernel
theorem D165_29 : decode prog_12_method_39_code 29 = .ok (.lload_n 2, 1) := by decide +kernel
theorem D165_30 : decode prog_12_method_39_code 30 = .ok (.lconst 0, 1) := by decide +kernel
theorem D165_31 : decode prog_12_method_39_code 31 = .ok (.lcmp, 1) := by decide +kernel
theorem D165_32 : decode prog_12_method_39_code 32 = .ok (.ifCond .ne 7, 3) := by decide +kernel
theorem D165_35 : decode prog_12_method_39_code 35 = .ok (.iconst 1, 1) := by decide +kernel
theorem D165_36 : decode prog_12_method_39_code 36 = .ok (.goto 4, 3) := by decide +kernel
theorem D165_39 : decode prog_12_method_39_code 39 = .ok (.iconst 0, 1) := by decide +kernel
theorem D165_40 : decode prog_12_method_39_code 40 = .ok (.invokestatic 320, 3) := by decide +kernel
theorem D165_43 : decode prog_12_method_39_code 43 = .ok (.lastore, 1) := by decide +kernel
theorem D165_44 : decode prog_12_method_39_code 44 = .ok (.iconst 1, 1) := by decide +kernel
theorem D165_45 : decode prog_12_method_39_code 45 = .ok (.ireturn, 1) := by decide +kernel
theorem D165_46 : decode prog_12_method_39_code 46 = .ok (.aload_n 0, 1) := by decide +kernel
theorem D165_47 : decode prog_12_method_39_code 47 = .ok (.getfield 69, 3) := by decide +kernel
theorem D165_50 : decode prog_12_method_39_code 50 = .ok (.aload_n 0, 1) := by decide +kernel
theorem D165_51 : decode prog_12_method_39_code 51 = .ok (.getfield 317, 3) := by decide +kernel
theorem D165_54 : decode prog_12_method_39_code 54 = .ok (.iconst 2, 1) := by decide +kernel
theorem D165_55 : decode prog_12_method_39_code 55 = .ok (.isub, 1) := by decide +kernel
theorem D165_56 : decode prog_12_method_39_code 56 = .ok (.laload, 1) := by decide +kernel
theorem D165_57 : decode prog_12_method_39_code 57 = .ok (.lstore 4, 2) := by decide +kernel
theorem D165_59 : decode prog_12_method_39_code 59 = .ok (.aload_n 0, 1) := by decide +kernel
theorem D165_60 : decode prog_12_method_39_code 60 = .ok (.dup, 1) := by decide +kernel
theorem D165_61 : decode prog_12_method_39_code 61 = .ok (.getfield 317, 3) := by decide +kernel
theorem D165_64 : decode prog_12_method_39_code 64 = .ok (.iconst 1, 1) := by decide +kernel
theorem D165_65 : decode prog_12_method_39_code 65 = .ok (.isub, 1) := by decide +kernel
theorem D165_66 : decode prog_12_method_39_code 66 = .ok (.putfield 317, 3) := by decide +kernel
theorem D165_69 : decode prog_12_method_39_code 69 = .ok (.iload_n 1, 1) := by decide +kernel
theorem D165_70 : decode prog_12_method_39_code 70 = .ok (.lookupswitch 314 #[(42, 116), (43, 98), (45, 107), (47, 151), (60, 168), (61, 208), (62, 188), (256, 228), (257, 268), (258, 248), (261, 288)], 98) := by decide +kernel
theorem D165_168 : decode prog_12_method_39_code 168 = .ok (.lload 4, 2) := by decide +kernel
theorem D165_170 : decode prog_12_method_39_code 170 = .ok (.lload_n 2, 1) := by decide +kernel
theorem D165_171 : decode prog_12_method_39_code 171 = .ok (.ladd, 1) := by decide +kernel
theorem D165_172 : decode prog_12_method_39_code 172 = .ok (.lstore 6, 2) := by decide +kernel
theorem D165_174 : decode prog_12_method_39_code 174 = .ok (.goto 233, 3) := by decide +kernel
theorem D165_177 : decode prog_12_method_39_code 177 = .ok (.lload 4, 2) := by decide +kernel
theorem D165_179 : decode prog_12_method_39_code 179 = .ok (.lload_n 2, 1) := by decide +kernel
theorem D165_180 : decode prog_12_method_39_code 180 = .ok (.lsub, 1) := by decide +kernel
theorem D165_181 : decode prog_12_method_39_code 181 = .ok (.lstore 6, 2) := by decide +kernel
theorem D165_183 : decode prog_12_method_39_code 183 = .ok (.goto 224, 3) := by decide +kernel
theorem D165_186 : decode prog_12_method_39_code 186 = .ok (.lload 4, 2) := by decide +kernel
theorem D165_188 : decode prog_12_method_39_code 188 = .ok (.lconst 0, 1) := by decide +kernel
theorem D165_189 : decode prog_12_method_39_code 189 = .ok (.lcmp, 1) := by decide +kernel
theorem D165_190 : decode prog_12_method_39_code 190 = .ok (.ifCond .eq 22, 3) := by decide +kernel
theorem D165_193 : decode prog_12_method_39_code 193 = .ok (.lload_n 2, 1) := by decide +kernel
theorem D165_194 : decode prog_12_method_39_code 194 = .ok (.invokestatic 324, 3) := by decide +kernel
theorem D165_197 : decode prog_12_method_39_code 197 = .ok (.ldc2_w 330, 3) := by decide +kernel
theorem D165_200 : decode prog_12_method_39_code 200 = .ok (.lload 4, 2) := by decide +kernel
theorem D165_202 : decode prog_12_method_39_code 202 = .ok (.invokestatic 324, 3) := by decide +kernel
theorem D165_205 : decode prog_12_method_39_code 205 = .ok (.ldiv, 1) := by decide +kernel
theorem D165_206 : decode prog_12_method_39_code 206 = .ok (.lcmp, 1) := by decide +kernel
theorem D165_207 : decode prog_12_method_39_code 207 = .ok (.ifCond .le 5, 3) := by decide +kernel
theorem D165_210 : decode prog_12_method_39_code 210 = .ok (.iconst 0, 1) := by decide +kernel
theorem D165_211 : decode prog_12_method_39_code 211 = .ok (.ireturn, 1) := by decide +kernel
theorem D165_212 : decode prog_12_method_39_code 212 = .ok (.lload 4, 2) := by decide +kernel
theorem D165_214 : decode prog_12_method_39_code 214 = .ok (.lload_n 2, 1) := by decide +kernel
theorem D165_215 : decode prog_12_method_39_code 215 = .ok (.lmul, 1) := by decide +kernel
theorem D165_216 : decode prog_12_method_39_code 216 = .ok (.lstore 6, 2) := by decide +kernel
theorem D165_218 : decode prog_12_method_39_code 218 = .ok (.goto 189, 3) := by decide +kernel
theorem D165_221 : decode prog_12_method_39_code 221 = .ok (.lload_n 2, 1) := by decide +kernel
theorem D165_222 : decode prog_12_method_39_code 222 = .ok (.lconst 0, 1) := by decide +kernel
theorem D165_223 : decode prog_12_method_39_code 223 = .ok (.lcmp, 1) := by decide +kernel
theorem D165_224 : decode prog_12_method_39_code 224 = .ok (.ifCond .ne 5, 3) := by decide +kernel
theorem D165_227 : decode prog_12_method_39_code 227 = .ok (.iconst 0, 1) := by decide +kernel
theorem D165_228 : decode prog_12_method_39_code 228 = .ok (.ireturn, 1) := by decide +kernel
theorem D165_229 : decode prog_12_method_39_code 229 = .ok (.lload 4, 2) := by decide +kernel
theorem D165_231 : decode prog_12_method_39_code 231 = .ok (.lload_n 2, 1) := by decide +kernel
theorem D165_232 : decode prog_12_method_39_code 232 = .ok (.ldiv, 1) := by decide +kernel
theorem D165_233 : decode prog_12_method_39_code 233 = .ok (.lstore 6, 2) := by decide +kernel
theorem D165_235 : decode prog_12_method_39_code 235 = .ok (.goto 172, 3) := by decide +kernel
theorem D165_238 : decode prog_12_method_39_code 238 = .ok (.lload 4, 2) := by decide +kernel
theorem D165_240 : decode prog_12_method_39_code 240 = .ok (.lload_n 2, 1) := by decide +kernel
theorem D165_241 : decode prog_12_method_39_code 241 = .ok (.lcmp, 1) := by decide +kernel
theorem D165_242 : decode prog_12_method_39_code 242 = .ok (.ifCond .ge 7, 3) := by decide +kernel
theorem D165_245 : decode prog_12_method_39_code 245 = .ok (.iconst 1, 1) := by decide +kernel
theorem D165_246 : decode prog_12_method_39_code 246 = .ok (.goto 4, 3) := by decide +kernel
theorem D165_249 : decode prog_12_method_39_code 249 = .ok (.iconst 0, 1) := by decide +kernel
theorem D165_250 : decode prog_12_method_39_code 250 = .ok (.invokestatic 320, 3) := by decide +kernel
theorem D165_253 : decode prog_12_method_39_code 253 = .ok (.lstore 6, 2) := by decide +kernel
theorem D165_255 : decode prog_12_method_39_code 255 = .ok (.goto 152, 3) := by decide +kernel
theorem D165_258 : decode prog_12_method_39_code 258 = .ok (.lload 4, 2) := by decide +kernel
theorem D165_260 : decode prog_12_method_39_code 260 = .ok (.lload_n 2, 1) := by decide +kernel
theorem D165_261 : decode prog_12_method_39_code 261 = .ok (.lcmp, 1) := by decide +kernel
theorem D165_262 : decode prog_12_method_39_code 262 = .ok (.ifCond .le 7, 3) := by decide +kernel
theorem D165_265 : decode prog_12_method_39_code 265 = .ok (.iconst 1, 1) := by decide +kernel
theorem D165_266 : decode prog_12_method_39_code 266 = .ok (.goto 4, 3) := by decide +kernel
theorem D165_269 : decode prog_12_method_39_code 269 = .ok (.iconst 0, 1) := by decide +kernel
theorem D165_270 : decode prog_12_method_39_code 270 = .ok (.invokestatic 320, 3) := by decide +kernel
theorem D165_273 : decode prog_12_method_39_code 273 = .ok (.lstore 6, 2) := by decide +kernel
theorem D165_275 : decode prog_12_method_39_code 275 = .ok (.goto 132, 3) := by decide +kernel
theorem D165_278 : decode prog_12_method_39_code 278 = .ok (.lload 4, 2) := by decide +kernel
theorem D165_280 : decode prog_12_method_39_code 280 = .ok (.lload_n 2, 1) := by decide +kernel
theorem D165_281 : decode prog_12_method_39_code 281 = .ok (.lcmp, 1) := by decide +kernel
theorem D165_282 : decode prog_12_method_39_code 282 = .ok (.ifCond .ne 7, 3) := by decide +kernel
theorem D165_285 : decode prog_12_method_39_code 285 = .ok (.iconst 1, 1) := by decide +kernel
theorem D165_286 : decode prog_12_method_39_code 286 = .ok (.goto 4, 3) := by decide +kernel
theorem D165_289 : decode prog_12_method_39_code 289 = .ok (.iconst 0, 1) := by decide +kernel
theorem D165_290 : decode prog_12_method_39_code 290 = .ok (.invokestatic 320, 3) := by decide +kernel
theorem D165_293 : decode prog_12_method_39_code 293 = .ok (.lstore 6, 2) := by decide +kernel
theorem D165_295 : decode prog_12_method_39_code 295 = .ok (.goto 112, 3) := by decide +kernel
theorem D165_298 : decode prog_12_method_39_code 298 = .ok (.lload 4, 2) := by decide +kernel
theorem D165_300 : decode prog_12_method_39_code 300 = .ok (.lload_n 2, 1) := by decide +kernel
theorem D165_301 : decode prog_12_method_39_code 301 = .ok (.lcmp, 1) := by decide +kernel
theorem D165_302 : decode prog_12_method_39_code 302 = .ok (.ifCond .gt 7, 3) := by decide +kernel
theorem D165_305 : decode prog_12_method_39_code 305 = .ok (.iconst 1, 1) := by decide +kernel
theorem D165_306 : decode prog_12_method_39_code 306 = .ok (.goto 4, 3) := by decide +kernel
theorem D165_309 : decode prog_12_method_39_code 309 = .ok (.iconst 0, 1) := by decide +kernel
theorem D165_310 : decode prog_12_method_39_code 310 = .ok (.invokestatic 320, 3) := by decide +kernel
theorem D165_313 : decode prog_12_method_39_code 313 = .ok (.lstore 6, 2) := by decide +kernel
theorem D165_315 : decode prog_12_method_39_code 315 = .ok (.goto 92, 3) := by decide +kernel
theorem D165_318 : decode prog_12_method_39_code 318 = .ok (.lload 4, 2) := by decide +kernel
theorem D165_320 : decode prog_12_method_39_code 320 = .ok (.lload_n 2, 1) := by decide +kernel
theorem D165_321 : decode prog_12_method_39_code 321 = .ok (.lcmp, 1) := by decide +kernel
theorem D165_322 : decode prog_12_method_39_code 322 = .ok (.ifCond .lt 7, 3) := by decide +kernel
theorem D165_325 : decode prog_12_method_39_code 325 = .ok (.iconst 1, 1) := by decide +kernel
theorem D165_326 : decode prog_12_method_39_code 326 = .ok (.goto 4, 3) := by decide +kernel
theorem D165_329 : decode prog_12_method_39_code 329 = .ok (.iconst 0, 1) := by decide +kernel
theorem D165_330 : decode prog_12_method_39_code 330 = .ok (.invokestatic 320, 3) := by decide +kernel
theorem D165_333 : decode prog_12_method_39_code 333 = .ok (.lstore 6, 2) := by decide +kernel
theorem D165_335 : decode prog_12_method_39_code 335 = .ok (.goto 72, 3) := by decide +kernel
theorem D165_338 : decode prog_12_method_39_code 338 = .ok (.lload 4, 2) := by decide +kernel
theorem D165_340 : decode prog_12_method_39_code 340 = .ok (.lload_n 2, 1) := by decide +kernel
theorem D165_341 : decode prog_12_method_39_code 341 = .ok (.lcmp, 1) := by decide +kernel
theorem D165_342 : decode prog_12_method_39_code 342 = .ok (.ifCond .eq 7, 3) := by decide +kernel
theorem D165_345 : decode prog_12_method_39_code 345 = .ok (.iconst 1, 1) := by decide +kernel
theorem D165_346 : decode prog_12_method_39_code 346 = .ok (.goto 4, 3) := by decide +kernel
theorem D165_349 : decode prog_12_method_39_code 349 = .ok (.iconst 0, 1) := by decide +kernel
theorem D165_350 : decode prog_12_method_39_code 350 = .ok (.invokestatic 320, 3) := by decide +kernel
theorem D165_353 : decode prog_12_method_39_code 353 = .ok (.lstore 6, 2) := by decide +kernel
theorem D165_355 : decode prog_12_method_39_code 355 = .ok (.goto 52, 3) := by decide +kernel
theorem D165_358 : decode prog_12_method_39_code 358 = .ok (.lload 4, 2) := by decide +kernel
theorem D165_360 : decode prog_12_method_39_code 360 = .ok (.lconst 0, 1) := by decide +kernel
theorem D165_361 : decode prog_12_method_39_code 361 = .ok (.lcmp, 1) := by decide +kernel
theorem D165_362 : decode prog_12_method_39_code 362 = .ok (.ifCond .eq 13, 3) := by decide +kernel
theorem D165_365 : decode prog_12_method_39_code 365 = .ok (.lload_n 2, 1) := by decide +kernel
theorem D165_366 : decode prog_12_method_39_code 366 = .ok (.lconst 0, 1) := by decide +kernel
theorem D165_367 : decode prog_12_method_39_code 367 = .ok (.lcmp, 1) := by decide +kernel
theorem D165_368 : decode prog_12_method_39_code 368 = .ok (.ifCond .eq 7, 3) := by decide +kernel
theorem D165_371 : decode prog_12_method_39_code 371 = .ok (.iconst 1, 1) := by decide +kernel
theorem D165_372 : decode prog_12_method_39_code 372 = .ok (.goto 4, 3) := by decide +kernel
theorem D165_375 : decode prog_12_method_39_code 375 = .ok (.iconst 0, 1) := by decide +kernel
theorem D165_376 : decode prog_12_method_39_code 376 = .ok (.invokestatic 320, 3) := by decide +kernel
theorem D165_379 : decode prog_12_method_39_code 379 = .ok (.lstore 6, 2) := by decide +kernel
theorem D165_381 : decode prog_12_method_39_code 381 = .ok (.goto 26, 3) := by decide +kernel
theorem D165_384 : decode prog_12_method_39_code 384 = .ok (.lload 4, 2) := by decide +kernel
theorem D165_386 : decode prog_12_method_39_code 386 = .ok (.lconst 0, 1) := by decide +kernel
theorem D165_387 : decode prog_12_method_39_code 387 = .ok (.lcmp, 1) := by decide +kernel
theorem D165_388 : decode prog_12_method_39_code 388 = .ok (.ifCond .ne 9, 3) := by decide +kernel
theorem D165_391 : decode prog_12_method_39_code 391 = .ok (.lload_n 2, 1) := by decide +kernel
theorem D165_392 : decode prog_12_method_39_code 392 = .ok (.lconst 0, 1) := by decide +kernel
theorem D165_393 : decode prog_12_method_39_code 393 = .ok (.lcmp, 1) := by decide +kernel
theorem D165_394 : decode prog_12_method_39_code 394 = .ok (.ifCond .eq 7, 3) := by decide +kernel
theorem D165_397 : decode prog_12_method_39_code 397 = .ok (.iconst 1, 1) := by decide +kernel
theorem D165_398 : decode prog_12_method_39_code 398 = .ok (.goto 4, 3) := by decide +kernel
theorem D165_401 : decode prog_12_method_39_code 401 = .ok (.iconst 0, 1) := by decide +kernel
theorem D165_402 : decode prog_12_method_39_code 402 = .ok (.invokestatic 320, 3) := by decide +kernel
theorem D165_405 : decode prog_12_method_39_code 405 = .ok (.lstore 6, 2) := by decide +kernel
theorem D165_407 : decode prog_12_method_39_code 407 = .ok (.aload_n 0, 1) := by decide +kernel
theorem D165_408 : decode prog_12_method_39_code 408 = .ok (.getfield 69, 3) := by decide +kernel
theorem D165_411 : decode prog_12_method_39_code 411 = .ok (.aload_n 0, 1) := by decide +kernel
theorem D165_412 : decode prog_12_method_39_code 412 = .ok (.getfield 317, 3) := by decide +kernel
theorem D165_415 : decode prog_12_method_39_code 415 = .ok (.iconst 1, 1) := by decide +kernel
theorem D165_416 : decode prog_12_method_39_code 416 = .ok (.isub, 1) := by decide +kernel
theorem D165_417 : decode prog_12_method_39_code 417 = .ok (.lload 6, 2) := by decide +kernel
theorem D165_419 : decode prog_12_method_39_code 419 = .ok (.lastore, 1) := by decide +kernel
theorem D165_420 : decode prog_12_method_39_code 420 = .ok (.lload 6, 2) := by decide +kernel
theorem D165_422 : decode prog_12_method_39_code 422 = .ok (.ldc2_w 330, 3) := by decide +kernel
theorem D165_425 : decode prog_12_method_39_code 425 = .ok (.lcmp, 1) := by decide +kernel
theorem D165_426 : decode prog_12_method_39_code 426 = .ok (.ifCond .gt 16, 3) := by decide +kernel
theorem D165_429 : decode prog_12_method_39_code 429 = .ok (.lload 6, 2) := by decide +kernel
theorem D165_431 : decode prog_12_method_39_code 431 = .ok (.ldc2_w 332, 3) := by decide +kernel
theorem D165_434 : decode prog_12_method_39_code 434 = .ok (.lcmp, 1) := by decide +kernel
theorem D165_435 : decode prog_12_method_39_code 435 = .ok (.ifCond .lt 7, 3) := by decide +kernel
theorem D165_438 : decode prog_12_method_39_code 438 = .ok (.iconst 1, 1) := by decide +kernel
theorem D165_439 : decode prog_12_method_39_code 439 = .ok (.goto 4, 3) := by decide +kernel
theorem D165_442 : decode prog_12_method_39_code 442 = .ok (.iconst 0, 1) := by decide +kernel
theorem D165_443 : decode prog_12_method_39_code 443 = .ok (.ireturn, 1) := by decide +kernel

set_option maxRecDepth 20000 in
theorem b165_0 {d : Nat} {i1 : Int32} {ia : Nat → Nat → Int32} {la : Nat → Nat → Int64} {pl dr : Nat} {cp : Option Nat} {cw : Option Nat} {rp : Option Nat} {K : Option Value → zHP → Prop}  : zWP (d + 5) 165 0 [some (.ref 127), some (.int i1), none, none, none, none, none, none] [] (ia, la, zRA pl dr cp cw rp) K = (vp_in ((ia 127 34) - (1 : Int32)) 64 ∧ (if ¬ i1 = (260 : Int32) then (vp_in ((ia 127 34) - (2 : Int32)) 64 ∧ (if i1 = 42 then (if (lg_cmp (la 146 (((ia 127 34) - (2 : Int32))).toNatClampNeg) (0 : Int64)) = 0 then zWP (d + 5) 165 212 [some (.ref 127), some (.int i1), some (.long (la 146 (((ia 127 34) - (1 : Int32))).toNatClampNeg)), none, some (.long (la 146 (((ia 127 34) - (2 : Int32))).toNatClampNeg)), none, none, none] [] ((zu ia 127 34 ((ia 127 34) - (1 : Int32))), la, zRA pl dr cp cw rp) K else (¬ (if 0 < (la 146 (((ia 127 34) - (2 : Int32))).toNatClampNeg) then (la 146 (((ia 127 34) - (2 : Int32))).toNatClampNeg) else -(la 146 (((ia 127 34) - (2 : Int32))).toNatClampNeg)) = 0 ∧ (if (lg_cmp (if 0 < (la 146 (((ia 127 34) - (1 : Int32))).toNatClampNeg) then (la 146 (((ia 127 34) - (1 : Int32))).toNatClampNeg) else -(la 146 (((ia 127 34) - (1 : Int32))).toNatClampNeg)) ((1000000000000 : Int64) / (if 0 < (la 146 (((ia 127 34) - (2 : Int32))).toNatClampNeg) then (la 146 (((ia 127 34) - (2 : Int32))).toNatClampNeg) else -(la 146 (((ia 127 34) - (2 : Int32))).toNatClampNeg)))) ≤ 0 then zWP (d + 5) 165 212 [some (.ref 127), some (.int i1), some (.long (la 146 (((ia 127 34) - (1 : Int32))).toNatClampNeg)), none, some (.long (la 146 (((ia 127 34) - (2 : Int32))).toNatClampNeg)), none, none, none] [] ((zu ia 127 34 ((ia 127 34) - (1 : Int32))), la, zRA pl dr cp cw rp) K else K (some (.int (0 : Int32))) ((zu ia 127 34 ((ia 127 34) - (1 : Int32))), la, zRA pl dr cp cw rp)))) else (if i1 = 43 then zWP (d + 5) 165 407 [some (.ref 127), some (.int i1), some (.long (la 146 (((ia 127 34) - (1 : Int32))).toNatClampNeg)), none, some (.long (la 146 (((ia 127 34) - (2 : Int32))).toNatClampNeg)), none, some (.long ((la 146 (((ia 127 34) - (2 : Int32))).toNatClampNeg) + (la 146 (((ia 127 34) - (1 : Int32))).toNatClampNeg))), none] [] ((zu ia 127 34 ((ia 127 34) - (1 : Int32))), la, zRA pl dr cp cw rp) K else (if i1 = 45 then zWP (d + 5) 165 407 [some (.ref 127), some (.int i1), some (.long (la 146 (((ia 127 34) - (1 : Int32))).toNatClampNeg)), none, some (.long (la 146 (((ia 127 34) - (2 : Int32))).toNatClampNeg)), none, some (.long ((la 146 (((ia 127 34) - (2 : Int32))).toNatClampNeg) - (la 146 (((ia 127 34) - (1 : Int32))).toNatClampNeg))), none] [] ((zu ia 127 34 ((ia 127 34) - (1 : Int32))), la, zRA pl dr cp cw rp) K else (if i1 = 47 then (if ¬ (lg_cmp (la 146 (((ia 127 34) - (1 : Int32))).toNatClampNeg) (0 : Int64)) = 0 then (¬ (la 146 (((ia 127 34) - (1 : Int32))).toNatClampNeg) = 0 ∧ zWP (d + 5) 165 407 [some (.ref 127), some (.int i1), some (.long (la 146 (((ia 127 34) - (1 : Int32))).toNatClampNeg)), none, some (.long (la 146 (((ia 127 34) - (2 : Int32))).toNatClampNeg)), none, some (.long ((la 146 (((ia 127 34) - (2 : Int32))).toNatClampNeg) / (la 146 (((ia 127 34) - (1 : Int32))).toNatClampNeg))), none] [] ((zu ia 127 34 ((ia 127 34) - (1 : Int32))), la, zRA pl dr cp cw rp) K) else K (some (.int (0 : Int32))) ((zu ia 127 34 ((ia 127 34) - (1 : Int32))), la, zRA pl dr cp cw rp)) else (if i1 = 60 then (if 0 ≤ (lg_cmp (la 146 (((ia 127 34) - (2 : Int32))).toNatClampNeg) (la 146 (((ia 127 34) - (1 : Int32))).toNatClampNeg)) then zWM (d + 4) 164 [.int (0 : Int32)] ((zu ia 127 34 ((ia 127 34) - (1 : Int32))), la, zRA pl dr cp cw rp) (zK (d + 5) 165 253 [some (.ref 127), some (.int i1), some (.long (la 146 (((ia 127 34) - (1 : Int32))).toNatClampNeg)), none, some (.long (la 146 (((ia 127 34) - (2 : Int32))).toNatClampNeg)), none, none, none] [] K) else zWM (d + 4) 164 [.int (1 : Int32)] ((zu ia 127 34 ((ia 127 34) - (1 : Int32))), la, zRA pl dr cp cw rp) (zK (d + 5) 165 253 [some (.ref 127), some (.int i1), some (.long (la 146 (((ia 127 34) - (1 : Int32))).toNatClampNeg)), none, some (.long (la 146 (((ia 127 34) - (2 : Int32))).toNatClampNeg)), none, none, none] [] K)) else (if i1 = 61 then (if ¬ (lg_cmp (la 146 (((ia 127 34) - (2 : Int32))).toNatClampNeg) (la 146 (((ia 127 34) - (1 : Int32))).toNatClampNeg)) = 0 then zWM (d + 4) 164 [.int (0 : Int32)] ((zu ia 127 34 ((ia 127 34) - (1 : Int32))), la, zRA pl dr cp cw rp) (zK (d + 5) 165 293 [some (.ref 127), some (.int i1), some (.long (la 146 (((ia 127 34) - (1 : Int32))).toNatClampNeg)), none, some (.long (la 146 (((ia 127 34) - (2 : Int32))).toNatClampNeg)), none, none, none] [] K) else zWM (d + 4) 164 [.int (1 : Int32)] ((zu ia 127 34 ((ia 127 34) - (1 : Int32))), la, zRA pl dr cp cw rp) (zK (d + 5) 165 293 [some (.ref 127), some (.int i1), some (.long (la 146 (((ia 127 34) - (1 : Int32))).toNatClampNeg)), none, some (.long (la 146 (((ia 127 34) - (2 : Int32))).toNatClampNeg)), none, none, none] [] K)) else (if i1 = 62 then (if (lg_cmp (la 146 (((ia 127 34) - (2 : Int32))).toNatClampNeg) (la 146 (((ia 127 34) - (1 : Int32))).toNatClampNeg)) ≤ 0 then zWM (d + 4) 164 [.int (0 : Int32)] ((zu ia 127 34 ((ia 127 34) - (1 : Int32))), la, zRA pl dr cp cw rp) (zK (d + 5) 165 273 [some (.ref 127), some (.int i1), some (.long (la 146 (((ia 127 34) - (1 : Int32))).toNatClampNeg)), none, some (.long (la 146 (((ia 127 34) - (2 : Int32))).toNatClampNeg)), none, none, none] [] K) else zWM (d + 4) 164 [.int (1 : Int32)] ((zu ia 127 34 ((ia 127 34) - (1 : Int32))), la, zRA pl dr cp cw rp) (zK (d + 5) 165 273 [some (.ref 127), some (.int i1), some (.long (la 146 (((ia 127 34) - (1 : Int32))).toNatClampNeg)), none, some (.long (la 146 (((ia 127 34) - (2 : Int32))).toNatClampNeg)), none, none, none] [] K)) else (if i1 = 256 then (if 0 < (lg_cmp (la 146 (((ia 127 34) - (2 : Int32))).toNatClampNeg) (la 146 (((ia 127 34) - (1 : Int32))).toNatClampNeg)) then zWM (d + 4) 164 [.int (0 : Int32)] ((zu ia 127 34 ((ia 127 34) - (1 : Int32))), la, zRA pl dr cp cw rp) (zK (d + 5) 165 313 [some (.ref 127), some (.int i1), some (.long (la 146 (((ia 127 34) - (1 : Int32))).toNatClampNeg)), none, some (.long (la 146 (((ia 127 34) - (2 : Int32))).toNatClampNeg)), none, none, none] [] K) else zWM (d + 4) 164 [.int (1 : Int32)] ((zu ia 127 34 ((ia 127 34) - (1 : Int32))), la, zRA pl dr cp cw rp) (zK (d + 5) 165 313 [some (.ref 127), some (.int i1), some (.long (la 146 (((ia 127 34) - (1 : Int32))).toNatClampNeg)), none, some (.long (la 146 (((ia 127 34) - (2 : Int32))).toNatClampNeg)), none, none, none] [] K)) else (if i1 = 257 then (if (lg_cmp (la 146 (((ia 127 34) - (2 : Int32))).toNatClampNeg) (la 146 (((ia 127 34) - (1 : Int32))).toNatClampNeg)) = 0 then zWM (d + 4) 164 [.int (0 : Int32)] ((zu ia 127 34 ((ia 127 34) - (1 : Int32))), la, zRA pl dr cp cw rp) (zK (d + 5) 165 353 [some (.ref 127), some (.int i1), some (.long (la 146 (((ia 127 34) - (1 : Int32))).toNatClampNeg)), none, some (.long (la 146 (((ia 127 34) - (2 : Int32))).toNatClampNeg)), none, none, none] [] K) else zWM (d + 4) 164 [.int (1 : Int32)] ((zu ia 127 34 ((ia 127 34) - (1 : Int32))), la, zRA pl dr cp cw rp) (zK (d + 5) 165 353 [some (.ref 127), some (.int i1), some (.long (la 146 (((ia 127 34) - (1 : Int32))).toNatClampNeg)), none, some (.long (la 146 (((ia 127 34) - (2 : Int32))).toNatClampNeg)), none, none, none] [] K)) else (if i1 = 258 then (if (lg_cmp (la 146 (((ia 127 34) - (2 : Int32))).toNatClampNeg) (la 146 (((ia 127 34) - (1 : Int32))).toNatClampNeg)) < 0 then zWM (d + 4) 164 [.int (0 : Int32)] ((zu ia 127 34 ((ia 127 34) - (1 : Int32))), la, zRA pl dr cp cw rp) (zK (d + 5) 165 333 [some (.ref 127), some (.int i1), some (.long (la 146 (((ia 127 34) - (1 : Int32))).toNatClampNeg)), none, some (.long (la 146 (((ia 127 34) - (2 : Int32))).toNatClampNeg)), none, none, none] [] K) else zWM (d + 4) 164 [.int (1 : Int32)] ((zu ia 127 34 ((ia 127 34) - (1 : Int32))), la, zRA pl dr cp cw rp) (zK (d + 5) 165 333 [some (.ref 127), some (.int i1), some (.long (la 146 (((ia 127 34) - (1 : Int32))).toNatClampNeg)), none, some (.long (la 146 (((ia 127 34) - (2 : Int32))).toNatClampNeg)), none, none, none] [] K)) else (if i1 = 261 then (if (lg_cmp (la 146 (((ia 127 34) - (2 : Int32))).toNatClampNeg) (0 : Int64)) = 0 then zWM (d + 4) 164 [.int (0 : Int32)] ((zu ia 127 34 ((ia 127 34) - (1 : Int32))), la, zRA pl dr cp cw rp) (zK (d + 5) 165 379 [some (.ref 127), some (.int i1), some (.long (la 146 (((ia 127 34) - (1 : Int32))).toNatClampNeg)), none, some (.long (la 146 (((ia 127 34) - (2 : Int32))).toNatClampNeg)), none, none, none] [] K) else (if (lg_cmp (la 146 (((ia 127 34) - (1 : Int32))).toNatClampNeg) (0 : Int64)) = 0 then zWM (d + 4) 164 [.int (0 : Int32)] ((zu ia 127 34 ((ia 127 34) - (1 : Int32))), la, zRA pl dr cp cw rp) (zK (d + 5) 165 379 [some (.ref 127), some (.int i1), some (.long (la 146 (((ia 127 34) - (1 : Int32))).toNatClampNeg)), none, some (.long (la 146 (((ia 127 34) - (2 : Int32))).toNatClampNeg)), none, none, none] [] K) else zWM (d + 4) 164 [.int (1 : Int32)] ((zu ia 127 34 ((ia 127 34) - (1 : Int32))), la, zRA pl dr cp cw rp) (zK (d + 5) 165 379 [some (.ref 127), some (.int i1), some (.long (la 146 (((ia 127 34) - (1 : Int32))).toNatClampNeg)), none, some (.long (la 146 (((ia 127 34) - (2 : Int32))).toNatClampNeg)), none, none, none] [] K))) else (if ¬ (lg_cmp (la 146 (((ia 127 34) - (2 : Int32))).toNatClampNeg) (0 : Int64)) = 0 then zWM (d + 4) 164 [.int (1 : Int32)] ((zu ia 127 34 ((ia 127 34) - (1 : Int32))), la, zRA pl dr cp cw rp) (zK (d + 5) 165 405 [some (.ref 127), some (.int i1), some (.long (la 146 (((ia 127 34) - (1 : Int32))).toNatClampNeg)), none, some (.long (la 146 (((ia 127 34) - (2 : Int32))).toNatClampNeg)), none, none, none] [] K) else (if (lg_cmp (la 146 (((ia 127 34) - (1 : Int32))).toNatClampNeg) (0 : Int64)) = 0 then zWM (d + 4) 164 [.int (0 : Int32)] ((zu ia 127 34 ((ia 127 34) - (1 : Int32))), la, zRA pl dr cp cw rp) (zK (d + 5) 165 405 [some (.ref 127), some (.int i1), some (.long (la 146 (((ia 127 34) - (1 : Int32))).toNatClampNeg)), none, some (.long (la 146 (((ia 127 34) - (2 : Int32))).toNatClampNeg)), none, none, none] [] K) else zWM (d + 4) 164 [.int (1 : Int32)] ((zu ia 127 34 ((ia 127 34) - (1 : Int32))), la, zRA pl dr cp cw rp) (zK (d + 5) 165 405 [some (.ref 127), some (.int i1), some (.long (la 146 (((ia 127 34) - (1 : Int32))).toNatClampNeg)), none, some (.long (la 146 (((ia 127 34) - (2 : Int32))).toNatClampNeg)), none, none, none] [] K))))))))))))))) else (if ¬ (lg_cmp (la 146 (((ia 127 34) - (1 : Int32))).toNatClampNeg) (0 : Int64)) = 0 then zWM (d + 4) 164 [.int (0 : Int32)] (ia, la, zRA pl dr cp cw rp) (zK (d + 5) 165 43 [some (.ref 127), some (.int i1), some (.long (la 146 (((ia 127 34) - (1 : Int32))).toNatClampNeg)), none, none, none, none, none] [.int ((ia 127 34) - (1 : Int32)), .ref 146] K) else zWM (d + 4) 164 [.int (1 : Int32)] (ia, la, zRA pl dr cp cw rp) (zK (d + 5) 165 43 [some (.ref 127), some (.int i1), some (.long (la 146 (((ia 127 34) - (1 : Int32))).toNatClampNeg)), none, none, none, none, none] [.int ((ia 127 34) - (1 : Int32)), .ref 146] K)))) := by
  refine (Q_aload_n zm_165 (Or.inl (by decide)) D165_0 rfl).trans ?_
  refine (Q_getR (q := 146) zm_165 (Or.inl (by decide)) D165_1 zf_10_69 zs_10_33 zk_127.1 rfl).trans ?_
  refine (Q_aload_n zm_165 (Or.inl (by decide)) D165_4 rfl).trans ?_
  refine (Q_getI zm_165 (Or.inl (by decide)) D165_5 zf_10_317 (Or.inl zs_10_34) zk_127.1).trans ?_
  refine (Q_iconst (v := 1) zm_165 (Or.inl (by decide)) D165_8 (by decide)).trans ?_
  refine (Q_isub zm_165 (Or.inl (by decide)) D165_9).trans ?_
  refine (Q_laload zm_165 (Or.inl (by decide)) D165_10 zk_146.1 zk_146.2).trans ?_
  refine zand_c (fun h0_ => ?_)
  refine (Q_lstore_n (ls' := [some (.ref 127), some (.int i1), some (.long (la 146 (((ia 127 34) - (1 : Int32))).toNatClampNeg)), none, none, none, none, none]) zm_165 (Or.inl (by decide)) D165_11 rfl (Nat.le_of_ble_eq_true rfl) rfl).trans ?_
  refine (Q_iload_n zm_165 (Or.inl (by decide)) D165_12 rfl).trans ?_
  refine (Q_sipush (v := 260) zm_165 (Or.inl (by decide)) D165_13 (by decide)).trans ?_
  refine (Q_ic_ne (tgt := 46) zm_165 (Or.inl (by decide)) D165_16 (by decide)).trans ?_
  refine zif_c (fun h1_ => ?_) (fun h1_ => ?_)
  · refine (Q_aload_n zm_165 (Or.inl (by decide)) D165_46 rfl).trans ?_
    refine (Q_getR (q := 146) zm_165 (Or.inl (by decide)) D165_47 zf_10_69 zs_10_33 zk_127.1 rfl).trans ?_
    refine (Q_aload_n zm_165 (Or.inl (by decide)) D165_50 rfl).trans ?_
    refine (Q_getI zm_165 (Or.inl (by decide)) D165_51 zf_10_317 (Or.inl zs_10_34) zk_127.1).trans ?_
    refine (Q_iconst (v := 2) zm_165 (Or.inl (by decide)) D165_54 (by decide)).trans ?_
    refine (Q_isub zm_165 (Or.inl (by decide)) D165_55).trans ?_
    refine (Q_laload zm_165 (Or.inl (by decide)) D165_56 zk_146.1 zk_146.2).trans ?_
    refine zand_c (fun h2_ => ?_)
    refine (Q_lstore (ls' := [some (.ref 127), some (.int i1), some (.long (la 146 (((ia 127 34) - (1 : Int32))).toNatClampNeg)), none, some (.long (la 146 (((ia 127 34) - (2 : Int32))).toNatClampNeg)), none, none, none]) zm_165 (Or.inl (by decide)) D165_57 rfl (Nat.le_of_ble_eq_true rfl) rfl).trans ?_
    refine (Q_aload_n zm_165 (Or.inl (by decide)) D165_59 rfl).trans ?_
    refine (Q_dup zm_165 (Or.inl (by decide)) D165_60 rfl).trans ?_
    refine (Q_getI zm_165 (Or.inl (by decide)) D165_61 zf_10_317 (Or.inl zs_10_34) zk_127.1).trans ?_
    refine (Q_iconst (v := 1) zm_165 (Or.inl (by decide)) D165_64 (by decide)).trans ?_
    refine (Q_isub zm_165 (Or.inl (by decide)) D165_65).trans ?_
    refine (Q_putI zm_165 (Or.inl (by decide)) D165_66 zf_10_317 zs_10_34 rfl zk_127.1).trans ?_
    refine (Q_iload_n zm_165 (Or.inl (by decide)) D165_69 rfl).trans ?_
    by_cases h3_ : i1 = 42
    · rw [if_pos h3_]
      refine (congrArg (fun q => zWP (d + 5) 165 70 [some (.ref 127), some (.int i1), some (.long (la 146 (((ia 127 34) - (1 : Int32))).toNatClampNeg)), none, some (.long (la 146 (((ia 127 34) - (2 : Int32))).toNatClampNeg)), none, none, none] (.int q :: []) ((zu ia 127 34 ((ia 127 34) - (1 : Int32))), la, zRA pl dr cp cw rp) K) h3_).trans ?_
      refine (Q_lsw (tgt := 186) zm_165 (Or.inl (by decide)) D165_70 (by decide) rfl (by decide)).trans ?_
      refine (Q_lload zm_165 (Or.inl (by decide)) D165_186 rfl).trans ?_
      refine (Q_lconst (v := 0) zm_165 (Or.inl (by decide)) D165_188 (by decide)).trans ?_
      refine (Q_lcmp zm_165 (Or.inl (by decide)) D165_189).trans ?_
      refine (Q_if_eq (tgt := 212) zm_165 (Or.inl (by decide)) D165_190 (by decide)).trans ?_
      refine zif_c (fun h4_ => ?_) (fun h4_ => ?_)
      · rfl
      · refine (Q_lload_n zm_165 (Or.inl (by decide)) D165_193 rfl).trans ?_
        refine (Q_bis (as := [.long (la 146 (((ia 127 34) - (1 : Int32))).toNatClampNeg)]) (rest := []) zm_165 (Or.inl (by decide)) D165_194 zc_10_324 rfl (by decide) (by simp [zcat, Value.category]) rfl).trans ?_
        refine (Q_ldc2_w (v := 1000000000000) zm_165 (Or.inl (by decide)) D165_197 (by decide +kernel)).trans ?_
        refine (Q_lload zm_165 (Or.inl (by decide)) D165_200 rfl).trans ?_
        refine (Q_bis (as := [.long (la 146 (((ia 127 34) - (2 : Int32))).toNatClampNeg)]) (rest := [.long (1000000000000 : Int64), .long (if 0 < (la 146 (((ia 127 34) - (1 : Int32))).toNatClampNeg) then (la 146 (((ia 127 34) - (1 : Int32))).toNatClampNeg) else -(la 146 (((ia 127 34) - (1 : Int32))).toNatClampNeg))]) zm_165 (Or.inl (by decide)) D165_202 zc_10_324 rfl (by decide) (by simp [zcat, Value.category]) rfl).trans ?_
        refine (Q_ldivG zm_165 (Or.inl (by decide)) D165_205).trans ?_
        refine zand_c (fun h5_ => ?_)
        refine (Q_lcmp zm_165 (Or.inl (by decide)) D165_206).trans ?_
        refine (Q_if_le (tgt := 212) zm_165 (Or.inl (by decide)) D165_207 (by decide)).trans ?_
        refine zif_c (fun h6_ => ?_) (fun h6_ => ?_)
        · rfl
        · refine (Q_iconst (v := 0) zm_165 (Or.inl (by decide)) D165_210 (by decide)).trans ?_
          exact Q_zreturn zm_165 (Or.inl (by decide)) D165_211 rfl (by decide)
    rw [if_neg h3_]
    by_cases h7_ : i1 = 43
    · rw [if_pos h7_]
      refine (congrArg (fun q => zWP (d + 5) 165 70 [some (.ref 127), some (.int i1), some (.long (la 146 (((ia 127 34) - (1 : Int32))).toNatClampNeg)), none, some (.long (la 146 (((ia 127 34) - (2 : Int32))).toNatClampNeg)), none, none, none] (.int q :: []) ((zu ia 127 34 ((ia 127 34) - (1 : Int32))), la, zRA pl dr cp cw rp) K) h7_).trans ?_
      refine (Q_lsw (tgt := 168) zm_165 (Or.inl (by decide)) D165_70 (by decide) rfl (by decide)).trans ?_
      refine (Q_lload zm_165 (Or.inl (by decide)) D165_168 rfl).trans ?_
      refine (Q_lload_n zm_165 (Or.inl (by decide)) D165_170 rfl).trans ?_
      refine (Q_ladd zm_165 (Or.inl (by decide)) D165_171).trans ?_
      refine (Q_lstore (ls' := [some (.ref 127), some (.int i1), some (.long (la 146 (((ia 127 34) - (1 : Int32))).toNatClampNeg)), none, some (.long (la 146 (((ia 127 34) - (2 : Int32))).toNatClampNeg)), none, some (.long ((la 146 (((ia 127 34) - (2 : Int32))).toNatClampNeg) + (la 146 (((ia 127 34) - (1 : Int32))).toNatClampNeg))), none]) zm_165 (Or.inl (by decide)) D165_172 rfl (Nat.le_of_ble_eq_true rfl) rfl).trans ?_
      refine (Q_goto (tgt := 407) zm_165 (Or.inl (by decide)) D165_174 (by decide)).trans ?_
      rfl
    rw [if_neg h7_]
    by_cases h8_ : i1 = 45
    · rw [if_pos h8_]
      refine (congrArg (fun q => zWP (d + 5) 165 70 [some (.ref 127), some (.int i1), some (.long (la 146 (((ia 127 34) - (1 : Int32))).toNatClampNeg)), none, some (.long (la 146 (((ia 127 34) - (2 : Int32))).toNatClampNeg)), none, none, none] (.int q :: []) ((zu ia 127 34 ((ia 127 34) - (1 : Int32))), la, zRA pl dr cp cw rp) K) h8_).trans ?_
      refine (Q_lsw (tgt := 177) zm_165 (Or.inl (by decide)) D165_70 (by decide) rfl (by decide)).trans ?_
      refine (Q_lload zm_165 (Or.inl (by decide)) D165_177 rfl).trans ?_
      refine (Q_lload_n zm_165 (Or.inl (by decide)) D165_179 rfl).trans ?_
      refine (Q_lsub zm_165 (Or.inl (by decide)) D165_180).trans ?_
      refine (Q_lstore (ls' := [some (.ref 127), some (.int i1), some (.long (la 146 (((ia 127 34) - (1 : Int32))).toNatClampNeg)), none, some (.long (la 146 (((ia 127 34) - (2 : Int32))).toNatClampNeg)), none, some (.long ((la 146 (((ia 127 34) - (2 : Int32))).toNatClampNeg) - (la 146 (((ia 127 34) - (1 : Int32))).toNatClampNeg))), none]) zm_165 (Or.inl (by decide)) D165_181 rfl (Nat.le_of_ble_eq_true rfl) rfl).trans ?_
      refine (Q_goto (tgt := 407) zm_165 (Or.inl (by decide)) D165_183 (by decide)).trans ?_
      rfl
    rw [if_neg h8_]
    by_cases h9_ : i1 = 47
    · rw [if_pos h9_]
      refine (congrArg (fun q => zWP (d + 5) 165 70 [some (.ref 127), some (.int i1), some (.long (la 146 (((ia 127 34) - (1 : Int32))).toNatClampNeg)), none, some (.long (la 146 (((ia 127 34) - (2 : Int32))).toNatClampNeg)), none, none, none] (.int q :: []) ((zu ia 127 34 ((ia 127 34) - (1 : Int32))), la, zRA pl dr cp cw rp) K) h9_).trans ?_
      refine (Q_lsw (tgt := 221) zm_165 (Or.inl (by decide)) D165_70 (by decide) rfl (by decide)).trans ?_
      refine (Q_lload_n zm_165 (Or.inl (by decide)) D165_221 rfl).trans ?_
      refine (Q_lconst (v := 0) zm_165 (Or.inl (by decide)) D165_222 (by decide)).trans ?_
      refine (Q_lcmp zm_165 (Or.inl (by decide)) D165_223).trans ?_
      refine (Q_if_ne (tgt := 229) zm_165 (Or.inl (by decide)) D165_224 (by decide)).trans ?_
      refine zif_c (fun h10_ => ?_) (fun h10_ => ?_)
      · refine (Q_lload zm_165 (Or.inl (by decide)) D165_229 rfl).trans ?_
        refine (Q_lload_n zm_165 (Or.inl (by decide)) D165_231 rfl).trans ?_
        refine (Q_ldivG zm_165 (Or.inl (by decide)) D165_232).trans ?_
        refine zand_c (fun h11_ => ?_)
        refine (Q_lstore (ls' := [some (.ref 127), some (.int i1), some (.long (la 146 (((ia 127 34) - (1 : Int32))).toNatClampNeg)), none, some (.long (la 146 (((ia 127 34) - (2 : Int32))).toNatClampNeg)), none, some (.long ((la 146 (((ia 127 34) - (2 : Int32))).toNatClampNeg) / (la 146 (((ia 127 34) - (1 : Int32))).toNatClampNeg))), none]) zm_165 (Or.inl (by decide)) D165_233 rfl (Nat.le_of_ble_eq_true rfl) rfl).trans ?_
        refine (Q_goto (tgt := 407) zm_165 (Or.inl (by decide)) D165_235 (by decide)).trans ?_
        rfl
      · refine (Q_iconst (v := 0) zm_165 (Or.inl (by decide)) D165_227 (by decide)).trans ?_
        exact Q_zreturn zm_165 (Or.inl (by decide)) D165_228 rfl (by decide)
    rw [if_neg h9_]
    by_cases h12_ : i1 = 60
    · rw [if_pos h12_]
      refine (congrArg (fun q => zWP (d + 5) 165 70 [some (.ref 127), some (.int i1), some (.long (la 146 (((ia 127 34) - (1 : Int32))).toNatClampNeg)), none, some (.long (la 146 (((ia 127 34) - (2 : Int32))).toNatClampNeg)), none, none, none] (.int q :: []) ((zu ia 127 34 ((ia 127 34) - (1 : Int32))), la, zRA pl dr cp cw rp) K) h12_).trans ?_
      refine (Q_lsw (tgt := 238) zm_165 (Or.inl (by decide)) D165_70 (by decide) rfl (by decide)).trans ?_
      refine (Q_lload zm_165 (Or.inl (by decide)) D165_238 rfl).trans ?_
      refine (Q_lload_n zm_165 (Or.inl (by decide)) D165_240 rfl).trans ?_
      refine (Q_lcmp zm_165 (Or.inl (by decide)) D165_241).trans ?_
      refine (Q_if_ge (tgt := 249) zm_165 (Or.inl (by decide)) D165_242 (by decide)).trans ?_
      refine zif_c (fun h13_ => ?_) (fun h13_ => ?_)
      · refine (Q_iconst (v := 0) zm_165 (Or.inl (by decide)) D165_249 (by decide)).trans ?_
        exact Q_calls (as := [.int (0 : Int32)]) (rest := []) zm_165 (Or.inl (by decide)) D165_250 zc_10_320 rfl (by decide) (by simp [zcat, Value.category]) zm_164 rfl
      · refine (Q_iconst (v := 1) zm_165 (Or.inl (by decide)) D165_245 (by decide)).trans ?_
        refine (Q_goto (tgt := 250) zm_165 (Or.inl (by decide)) D165_246 (by decide)).trans ?_
        exact Q_calls (as := [.int (1 : Int32)]) (rest := []) zm_165 (Or.inl (by decide)) D165_250 zc_10_320 rfl (by decide) (by simp [zcat, Value.category]) zm_164 rfl
    rw [if_neg h12_]
    by_cases h14_ : i1 = 61
    · rw [if_pos h14_]
      refine (congrArg (fun q => zWP (d + 5) 165 70 [some (.ref 127), some (.int i1), some (.long (la 146 (((ia 127 34) - (1 : Int32))).toNatClampNeg)), none, some (.long (la 146 (((ia 127 34) - (2 : Int32))).toNatClampNeg)), none, none, none] (.int q :: []) ((zu ia 127 34 ((ia 127 34) - (1 : Int32))), la, zRA pl dr cp cw rp) K) h14_).trans ?_
      refine (Q_lsw (tgt := 278) zm_165 (Or.inl (by decide)) D165_70 (by decide) rfl (by decide)).trans ?_
      refine (Q_lload zm_165 (Or.inl (by decide)) D165_278 rfl).trans ?_
      refine (Q_lload_n zm_165 (Or.inl (by decide)) D165_280 rfl).trans ?_
      refine (Q_lcmp zm_165 (Or.inl (by decide)) D165_281).trans ?_
      refine (Q_if_ne (tgt := 289) zm_165 (Or.inl (by decide)) D165_282 (by decide)).trans ?_
      refine zif_c (fun h15_ => ?_) (fun h15_ => ?_)
      · refine (Q_iconst (v := 0) zm_165 (Or.inl (by decide)) D165_289 (by decide)).trans ?_
        exact Q_calls (as := [.int (0 : Int32)]) (rest := []) zm_165 (Or.inl (by decide)) D165_290 zc_10_320 rfl (by decide) (by simp [zcat, Value.category]) zm_164 rfl
      · refine (Q_iconst (v := 1) zm_165 (Or.inl (by decide)) D165_285 (by decide)).trans ?_
        refine (Q_goto (tgt := 290) zm_165 (Or.inl (by decide)) D165_286 (by decide)).trans ?_
        exact Q_calls (as := [.int (1 : Int32)]) (rest := []) zm_165 (Or.inl (by decide)) D165_290 zc_10_320 rfl (by decide) (by simp [zcat, Value.category]) zm_164 rfl
    rw [if_neg h14_]
    by_cases h16_ : i1 = 62
    · rw [if_pos h16_]
      refine (congrArg (fun q => zWP (d + 5) 165 70 [some (.ref 127), some (.int i1), some (.long (la 146 (((ia 127 34) - (1 : Int32))).toNatClampNeg)), none, some (.long (la 146 (((ia 127 34) - (2 : Int32))).toNatClampNeg)), none, none, none] (.int q :: []) ((zu ia 127 34 ((ia 127 34) - (1 : Int32))), la, zRA pl dr cp cw rp) K) h16_).trans ?_
      refine (Q_lsw (tgt := 258) zm_165 (Or.inl (by decide)) D165_70 (by decide) rfl (by decide)).trans ?_
      refine (Q_lload zm_165 (Or.inl (by decide)) D165_258 rfl).trans ?_
      refine (Q_lload_n zm_165 (Or.inl (by decide)) D165_260 rfl).trans ?_
      refine (Q_lcmp zm_165 (Or.inl (by decide)) D165_261).trans ?_
      refine (Q_if_le (tgt := 269) zm_165 (Or.inl (by decide)) D165_262 (by decide)).trans ?_
      refine zif_c (fun h17_ => ?_) (fun h17_ => ?_)
      · refine (Q_iconst (v := 0) zm_165 (Or.inl (by decide)) D165_269 (by decide)).trans ?_
        exact Q_calls (as := [.int (0 : Int32)]) (rest := []) zm_165 (Or.inl (by decide)) D165_270 zc_10_320 rfl (by decide) (by simp [zcat, Value.category]) zm_164 rfl
      · refine (Q_iconst (v := 1) zm_165 (Or.inl (by decide)) D165_265 (by decide)).trans ?_
        refine (Q_goto (tgt := 270) zm_165 (Or.inl (by decide)) D165_266 (by decide)).trans ?_
        exact Q_calls (as := [.int (1 : Int32)]) (rest := []) zm_165 (Or.inl (by decide)) D165_270 zc_10_320 rfl (by decide) (by simp [zcat, Value.category]) zm_164 rfl
    rw [if_neg h16_]
    by_cases h18_ : i1 = 256
    · rw [if_pos h18_]
      refine (congrArg (fun q => zWP (d + 5) 165 70 [some (.ref 127), some (.int i1), some (.long (la 146 (((ia 127 34) - (1 : Int32))).toNatClampNeg)), none, some (.long (la 146 (((ia 127 34) - (2 : Int32))).toNatClampNeg)), none, none, none] (.int q :: []) ((zu ia 127 34 ((ia 127 34) - (1 : Int32))), la, zRA pl dr cp cw rp) K) h18_).trans ?_
      refine (Q_lsw (tgt := 298) zm_165 (Or.inl (by decide)) D165_70 (by decide) rfl (by decide)).trans ?_
      refine (Q_lload zm_165 (Or.inl (by decide)) D165_298 rfl).trans ?_
      refine (Q_lload_n zm_165 (Or.inl (by decide)) D165_300 rfl).trans ?_
      refine (Q_lcmp zm_165 (Or.inl (by decide)) D165_301).trans ?_
      refine (Q_if_gt (tgt := 309) zm_165 (Or.inl (by decide)) D165_302 (by decide)).trans ?_
      refine zif_c (fun h19_ => ?_) (fun h19_ => ?_)
      · refine (Q_iconst (v := 0) zm_165 (Or.inl (by decide)) D165_309 (by decide)).trans ?_
        exact Q_calls (as := [.int (0 : Int32)]) (rest := []) zm_165 (Or.inl (by decide)) D165_310 zc_10_320 rfl (by decide) (by simp [zcat, Value.category]) zm_164 rfl
      · refine (Q_iconst (v := 1) zm_165 (Or.inl (by decide)) D165_305 (by decide)).trans ?_
        refine (Q_goto (tgt := 310) zm_165 (Or.inl (by decide)) D165_306 (by decide)).trans ?_
        exact Q_calls (as := [.int (1 : Int32)]) (rest := []) zm_165 (Or.inl (by decide)) D165_310 zc_10_320 rfl (by decide) (by simp [zcat, Value.category]) zm_164 rfl
    rw [if_neg h18_]
    by_cases h20_ : i1 = 257
    · rw [if_pos h20_]
      refine (congrArg (fun q => zWP (d + 5) 165 70 [some (.ref 127), some (.int i1), some (.long (la 146 (((ia 127 34) - (1 : Int32))).toNatClampNeg)), none, some (.long (la 146 (((ia 127 34) - (2 : Int32))).toNatClampNeg)), none, none, none] (.int q :: []) ((zu ia 127 34 ((ia 127 34) - (1 : Int32))), la, zRA pl dr cp cw rp) K) h20_).trans ?_
      refine (Q_lsw (tgt := 338) zm_165 (Or.inl (by decide)) D165_70 (by decide) rfl (by decide)).trans ?_
      refine (Q_lload zm_165 (Or.inl (by decide)) D165_338 rfl).trans ?_
      refine (Q_lload_n zm_165 (Or.inl (by decide)) D165_340 rfl).trans ?_
      refine (Q_lcmp zm_165 (Or.inl (by decide)) D165_341).trans ?_
      refine (Q_if_eq (tgt := 349) zm_165 (Or.inl (by decide)) D165_342 (by decide)).trans ?_
      refine zif_c (fun h21_ => ?_) (fun h21_ => ?_)
      · refine (Q_iconst (v := 0) zm_165 (Or.inl (by decide)) D165_349 (by decide)).trans ?_
        exact Q_calls (as := [.int (0 : Int32)]) (rest := []) zm_165 (Or.inl (by decide)) D165_350 zc_10_320 rfl (by decide) (by simp [zcat, Value.category]) zm_164 rfl
      · refine (Q_iconst (v := 1) zm_165 (Or.inl (by decide)) D165_345 (by decide)).trans ?_
        refine (Q_goto (tgt := 350) zm_165 (Or.inl (by decide)) D165_346 (by decide)).trans ?_
        exact Q_calls (as := [.int (1 : Int32)]) (rest := []) zm_165 (Or.inl (by decide)) D165_350 zc_10_320 rfl (by decide) (by simp [zcat, Value.category]) zm_164 rfl
    rw [if_neg h20_]
    by_cases h22_ : i1 = 258
    · rw [if_pos h22_]
      refine (congrArg (fun q => zWP (d + 5) 165 70 [some (.ref 127), some (.int i1), some (.long (la 146 (((ia 127 34) - (1 : Int32))).toNatClampNeg)), none, some (.long (la 146 (((ia 127 34) - (2 : Int32))).toNatClampNeg)), none, none, none] (.int q :: []) ((zu ia 127 34 ((ia 127 34) - (1 : Int32))), la, zRA pl dr cp cw rp) K) h22_).trans ?_
      refine (Q_lsw (tgt := 318) zm_165 (Or.inl (by decide)) D165_70 (by decide) rfl (by decide)).trans ?_
      refine (Q_lload zm_165 (Or.inl (by decide)) D165_318 rfl).trans ?_
      refine (Q_lload_n zm_165 (Or.inl (by decide)) D165_320 rfl).trans ?_
      refine (Q_lcmp zm_165 (Or.inl (by decide)) D165_321).trans ?_
      refine (Q_if_lt (tgt := 329) zm_165 (Or.inl (by decide)) D165_322 (by decide)).trans ?_
      refine zif_c (fun h23_ => ?_) (fun h23_ => ?_)
      · refine (Q_iconst (v := 0) zm_165 (Or.inl (by decide)) D165_329 (by decide)).trans ?_
        exact Q_calls (as := [.int (0 : Int32)]) (rest := []) zm_165 (Or.inl (by decide)) D165_330 zc_10_320 rfl (by decide) (by simp [zcat, Value.category]) zm_164 rfl
      · refine (Q_iconst (v := 1) zm_165 (Or.inl (by decide)) D165_325 (by decide)).trans ?_
        refine (Q_goto (tgt := 330) zm_165 (Or.inl (by decide)) D165_326 (by decide)).trans ?_
        exact Q_calls (as := [.int (1 : Int32)]) (rest := []) zm_165 (Or.inl (by decide)) D165_330 zc_10_320 rfl (by decide) (by simp [zcat, Value.category]) zm_164 rfl
    rw [if_neg h22_]
    by_cases h24_ : i1 = 261
    · rw [if_pos h24_]
      refine (congrArg (fun q => zWP (d + 5) 165 70 [some (.ref 127), some (.int i1), some (.long (la 146 (((ia 127 34) - (1 : Int32))).toNatClampNeg)), none, some (.long (la 146 (((ia 127 34) - (2 : Int32))).toNatClampNeg)), none, none, none] (.int q :: []) ((zu ia 127 34 ((ia 127 34) - (1 : Int32))), la, zRA pl dr cp cw rp) K) h24_).trans ?_
      refine (Q_lsw (tgt := 358) zm_165 (Or.inl (by decide)) D165_70 (by decide) rfl (by decide)).trans ?_
      refine (Q_lload zm_165 (Or.inl (by decide)) D165_358 rfl).trans ?_
      refine (Q_lconst (v := 0) zm_165 (Or.inl (by decide)) D165_360 (by decide)).trans ?_
      refine (Q_lcmp zm_165 (Or.inl (by decide)) D165_361).trans ?_
      refine (Q_if_eq (tgt := 375) zm_165 (Or.inl (by decide)) D165_362 (by decide)).trans ?_
      refine zif_c (fun h25_ => ?_) (fun h25_ => ?_)
      · refine (Q_iconst (v := 0) zm_165 (Or.inl (by decide)) D165_375 (by decide)).trans ?_
        exact Q_calls (as := [.int (0 : Int32)]) (rest := []) zm_165 (Or.inl (by decide)) D165_376 zc_10_320 rfl (by decide) (by simp [zcat, Value.category]) zm_164 rfl
      · refine (Q_lload_n zm_165 (Or.inl (by decide)) D165_365 rfl).trans ?_
        refine (Q_lconst (v := 0) zm_165 (Or.inl (by decide)) D165_366 (by decide)).trans ?_
        refine (Q_lcmp zm_165 (Or.inl (by decide)) D165_367).trans ?_
        refine (Q_if_eq (tgt := 375) zm_165 (Or.inl (by decide)) D165_368 (by decide)).trans ?_
        refine zif_c (fun h26_ => ?_) (fun h26_ => ?_)
        · refine (Q_iconst (v := 0) zm_165 (Or.inl (by decide)) D165_375 (by decide)).trans ?_
          exact Q_calls (as := [.int (0 : Int32)]) (rest := []) zm_165 (Or.inl (by decide)) D165_376 zc_10_320 rfl (by decide) (by simp [zcat, Value.category]) zm_164 rfl
        · refine (Q_iconst (v := 1) zm_165 (Or.inl (by decide)) D165_371 (by decide)).trans ?_
          refine (Q_goto (tgt := 376) zm_165 (Or.inl (by decide)) D165_372 (by decide)).trans ?_
          exact Q_calls (as := [.int (1 : Int32)]) (rest := []) zm_165 (Or.inl (by decide)) D165_376 zc_10_320 rfl (by decide) (by simp [zcat, Value.category]) zm_164 rfl
    rw [if_neg h24_]
    refine (Q_lsw (off := 314) (tgt := 384) zm_165 (Or.inl (by decide)) D165_70 (by decide) ?_ (by decide)).trans ?_
    · rw [lv_osw (k := 42) h3_ (by decide), lv_osw (k := 43) h7_ (by decide), lv_osw (k := 45) h8_ (by decide), lv_osw (k := 47) h9_ (by decide), lv_osw (k := 60) h12_ (by decide), lv_osw (k := 61) h14_ (by decide), lv_osw (k := 62) h16_ (by decide), lv_osw (k := 256) h18_ (by decide), lv_osw (k := 257) h20_ (by decide), lv_osw (k := 258) h22_ (by decide), lv_osw (k := 261) h24_ (by decide)]; rfl
    refine (Q_lload zm_165 (Or.inl (by decide)) D165_384 rfl).trans ?_
    refine (Q_lconst (v := 0) zm_165 (Or.inl (by decide)) D165_386 (by decide)).trans ?_
    refine (Q_lcmp zm_165 (Or.inl (by decide)) D165_387).trans ?_
    refine (Q_if_ne (tgt := 397) zm_165 (Or.inl (by decide)) D165_388 (by decide)).trans ?_
    refine zif_c (fun h27_ => ?_) (fun h27_ => ?_)
    · refine (Q_iconst (v := 1) zm_165 (Or.inl (by decide)) D165_397 (by decide)).trans ?_
      refine (Q_goto (tgt := 402) zm_165 (Or.inl (by decide)) D165_398 (by decide)).trans ?_
      exact Q_calls (as := [.int (1 : Int32)]) (rest := []) zm_165 (Or.inl (by decide)) D165_402 zc_10_320 rfl (by decide) (by simp [zcat, Value.category]) zm_164 rfl
    · refine (Q_lload_n zm_165 (Or.inl (by decide)) D165_391 rfl).trans ?_
      refine (Q_lconst (v := 0) zm_165 (Or.inl (by decide)) D165_392 (by decide)).trans ?_
      refine (Q_lcmp zm_165 (Or.inl (by decide)) D165_393).trans ?_
      refine (Q_if_eq (tgt := 401) zm_165 (Or.inl (by decide)) D165_394 (by decide)).trans ?_
      refine zif_c (fun h28_ => ?_) (fun h28_ => ?_)
      · refine (Q_iconst (v := 0) zm_165 (Or.inl (by decide)) D165_401 (by decide)).trans ?_
        exact Q_calls (as := [.int (0 : Int32)]) (rest := []) zm_165 (Or.inl (by decide)) D165_402 zc_10_320 rfl (by decide) (by simp [zcat, Value.category]) zm_164 rfl
      · refine (Q_iconst (v := 1) zm_165 (Or.inl (by decide)) D165_397 (by decide)).trans ?_
        refine (Q_goto (tgt := 402) zm_165 (Or.inl (by decide)) D165_398 (by decide)).trans ?_
        exact Q_calls (as := [.int (1 : Int32)]) (rest := []) zm_165 (Or.inl (by decide)) D165_402 zc_10_320 rfl (by decide) (by simp [zcat, Value.category]) zm_164 rfl
  · refine (Q_aload_n zm_165 (Or.inl (by decide)) D165_19 rfl).trans ?_
    refine (Q_getR (q := 146) zm_165 (Or.inl (by decide)) D165_20 zf_10_69 zs_10_33 zk_127.1 rfl).trans ?_
    refine (Q_aload_n zm_165 (Or.inl (by decide)) D165_23 rfl).trans ?_
    refine (Q_getI zm_165 (Or.inl (by decide)) D165_24 zf_10_317 (Or.inl zs_10_34) zk_127.1).trans ?_
    refine (Q_iconst (v := 1) zm_165 (Or.inl (by decide)) D165_27 (by decide)).trans ?_
    refine (Q_isub zm_165 (Or.inl (by decide)) D165_28).trans ?_
    refine (Q_lload_n zm_165 (Or.inl (by decide)) D165_29 rfl).trans ?_
    refine (Q_lconst (v := 0) zm_165 (Or.inl (by decide)) D165_30 (by decide)).trans ?_
    refine (Q_lcmp zm_165 (Or.inl (by decide)) D165_31).trans ?_
    refine (Q_if_ne (tgt := 39) zm_165 (Or.inl (by decide)) D165_32 (by decide)).trans ?_
    refine zif_c (fun h29_ => ?_) (fun h29_ => ?_)
    · refine (Q_iconst (v := 0) zm_165 (Or.inl (by decide)) D165_39 (by decide)).trans ?_
      exact Q_calls (as := [.int (0 : Int32)]) (rest := [.int ((ia 127 34) - (1 : Int32)), .ref 146]) zm_165 (Or.inl (by decide)) D165_40 zc_10_320 rfl (by decide) (by simp [zcat, Value.category]) zm_164 rfl
    · refine (Q_iconst (v := 1) zm_165 (Or.inl (by decide)) D165_35 (by decide)).trans ?_
      refine (Q_goto (tgt := 40) zm_165 (Or.inl (by decide)) D165_36 (by decide)).trans ?_
      exact Q_calls (as := [.int (1 : Int32)]) (rest := [.int ((ia 127 34) - (1 : Int32)), .ref 146]) zm_165 (Or.inl (by decide)) D165_40 zc_10_320 rfl (by decide) (by simp [zcat, Value.category]) zm_164 rfl

theorem b165_212 {d : Nat} {i1 : Int32} {j2 : Int64} {j4 : Int64} {ia : Nat → Nat → Int32} {la : Nat → Nat → Int64} {pl dr : Nat} {cp : Option Nat} {cw : Option Nat} {rp : Option Nat} {K : Option Value → zHP → Prop}  : zWP d 165 212 [some (.ref 127), some (.int i1), some (.long j2), none, some (.long j4), none, none, none] [] (ia, la, zRA pl dr cp cw rp) K = zWP d 165 407 [some (.ref 127), some (.int i1), some (.long j2), none, some (.long j4), none, some (.long (j4 * j2)), none] [] (ia, la, zRA pl dr cp cw rp) K := by
  refine (Q_lload zm_165 (Or.inl (by decide)) D165_212 rfl).trans ?_
  refine (Q_lload_n zm_165 (Or.inl (by decide)) D165_214 rfl).trans ?_
  refine (Q_lmul zm_165 (Or.inl (by decide)) D165_215).trans ?_
  refine (Q_lstore (ls' := [some (.ref 127), some (.int i1), some (.long j2), none, some (.long j4), none, some (.long (j4 * j2)), none]) zm_165 (Or.inl (by decide)) D165_216 rfl (Nat.le_of_ble_eq_true rfl) rfl).trans ?_
  refine (Q_goto (tgt := 407) zm_165 (Or.inl (by decide)) D165_218 (by decide)).trans ?_
  rfl

theorem b165_407 {d : Nat} {i1 : Int32} {j2 : Int64} {j4 : Int64} {j6 : Int64} {ia : Nat → Nat → Int32} {la : Nat → Nat → Int64} {pl dr : Nat} {cp : Option Nat} {cw : Option Nat} {rp : Option Nat} {K : Option Value → zHP → Prop}  : zWP d 165 407 [some (.ref 127), some (.int i1), some (.long j2), none, some (.long j4), none, some (.long j6), none] [] (ia, la, zRA pl dr cp cw rp) K = (vp_in ((ia 127 34) - (1 : Int32)) 64 ∧ (if 0 < (lg_cmp j6 (1000000000000 : Int64)) then K (some (.int (0 : Int32))) (ia, (zu la 146 (((ia 127 34) - (1 : Int32))).toNatClampNeg j6), zRA pl dr cp cw rp) else (if (lg_cmp j6 (-1000000000000 : Int64)) < 0 then K (some (.int (0 : Int32))) (ia, (zu la 146 (((ia 127 34) - (1 : Int32))).toNatClampNeg j6), zRA pl dr cp cw rp) else K (some (.int (1 : Int32))) (ia, (zu la 146 (((ia 127 34) - (1 : Int32))).toNatClampNeg j6), zRA pl dr cp cw rp)))) := by
  refine (Q_aload_n zm_165 (Or.inl (by decide)) D165_407 rfl).trans ?_
  refine (Q_getR (q := 146) zm_165 (Or.inl (by decide)) D165_408 zf_10_69 zs_10_33 zk_127.1 rfl).trans ?_
  refine (Q_aload_n zm_165 (Or.inl (by decide)) D165_411 rfl).trans ?_
  refine (Q_getI zm_165 (Or.inl (by decide)) D165_412 zf_10_317 (Or.inl zs_10_34) zk_127.1).trans ?_
  refine (Q_iconst (v := 1) zm_165 (Or.inl (by decide)) D165_415 (by decide)).trans ?_
  refine (Q_isub zm_165 (Or.inl (by decide)) D165_416).trans ?_
  refine (Q_lload zm_165 (Or.inl (by decide)) D165_417 rfl).trans ?_
  refine (Q_lastore zm_165 (Or.inl (by decide)) D165_419 zk_146.1 zk_146.2).trans ?_
  refine zand_c (fun h0_ => ?_)
  refine (Q_lload zm_165 (Or.inl (by decide)) D165_420 rfl).trans ?_
  refine (Q_ldc2_w (v := 1000000000000) zm_165 (Or.inl (by decide)) D165_422 (by decide +kernel)).trans ?_
  refine (Q_lcmp zm_165 (Or.inl (by decide)) D165_425).trans ?_
  refine (Q_if_gt (tgt := 442) zm_165 (Or.inl (by decide)) D165_426 (by decide)).trans ?_
  refine zif_c (fun h1_ => ?_) (fun h1_ => ?_)
  · refine (Q_iconst (v := 0) zm_165 (Or.inl (by decide)) D165_442 (by decide)).trans ?_
    exact Q_zreturn zm_165 (Or.inl (by decide)) D165_443 rfl (by decide)
  · refine (Q_lload zm_165 (Or.inl (by decide)) D165_429 rfl).trans ?_
    refine (Q_ldc2_w (v := -1000000000000) zm_165 (Or.inl (by decide)) D165_431 (by decide +kernel)).trans ?_
    refine (Q_lcmp zm_165 (Or.inl (by decide)) D165_434).trans ?_
    refine (Q_if_lt (tgt := 442) zm_165 (Or.inl (by decide)) D165_435 (by decide)).trans ?_
    refine zif_c (fun h2_ => ?_) (fun h2_ => ?_)
    · refine (Q_iconst (v := 0) zm_165 (Or.inl (by decide)) D165_442 (by decide)).trans ?_
      exact Q_zreturn zm_165 (Or.inl (by decide)) D165_443 rfl (by decide)
    · refine (Q_iconst (v := 1) zm_165 (Or.inl (by decide)) D165_438 (by decide)).trans ?_
      refine (Q_goto (tgt := 443) zm_165 (Or.inl (by decide)) D165_439 (by decide)).trans ?_
      exact Q_zreturn zm_165 (Or.inl (by decide)) D165_443 rfl (by decide)

theorem b165_253 {d : Nat} {i1 : Int32} {j2 : Int64} {j4 : Int64} {t0 : Int64} {ia : Nat → Nat → Int32} {la : Nat → Nat → Int64} {pl dr : Nat} {cp : Option Nat} {cw : Option Nat} {rp : Option Nat} {K : Option Value → zHP → Prop}  : zWP d 165 253 [some (.ref 127), some (.int i1), some (.long j2), none, some (.long j4), none, none, none] [.long t0] (ia, la, zRA pl dr cp cw rp) K = zWP d 165 407 [some (.ref 127), some (.int i1), some (.long j2), none, some (.long j4), none, some (.long t0), none] [] (ia, la, zRA pl dr cp cw rp) K := by
  refine (Q_lstore (ls' := [some (.ref 127), some (.int i1), some (.long j2), none, some (.long j4), none, some (.long t0), none]) zm_165 (Or.inl (by decide)) D165_253 rfl (Nat.le_of_ble_eq_true rfl) rfl).trans ?_
  refine (Q_goto (tgt := 407) zm_165 (Or.inl (by decide)) D165_255 (by decide)).trans ?_
  rfl

theorem b165_293 {d : Nat} {i1 : Int32} {j2 : Int64} {j4 : Int64} {t0 : Int64} {ia : Nat → Nat → Int32} {la : Nat → Nat → Int64} {pl dr : Nat} {cp : Option Nat} {cw : Option Nat} {rp : Option Nat} {K : Option Value → zHP → Prop}  : zWP d 165 293 [some (.ref 127), some (.int i1), some (.long j2), none, some (.long j4), none, none, none] [.long t0] (ia, la, zRA pl dr cp cw rp) K = zWP d 165 407 [some (.ref 127), some (.int i1), some (.long j2), none, some (.long j4), none, some (.long t0), none] [] (ia, la, zRA pl dr cp cw rp) K := by
  refine (Q_lstore (ls' := [some (.ref 127), some (.int i1), some (.long j2), none, some (.long j4), none, some (.long t0), none]) zm_165 (Or.inl (by decide)) D165_293 rfl (Nat.le_of_ble_eq_true rfl) rfl).trans ?_
  refine (Q_goto (tgt := 407) zm_165 (Or.inl (by decide)) D165_295 (by decide)).trans ?_
  rfl

theorem b165_273 {d : Nat} {i1 : Int32} {j2 : Int64} {j4 : Int64} {t0 : Int64} {ia : Nat → Nat → Int32} {la : Nat → Nat → Int64} {pl dr : Nat} {cp : Option Nat} {cw : Option Nat} {rp : Option Nat} {K : Option Value → zHP → Prop}  : zWP d 165 273 [some (.ref 127), some (.int i1), some (.long j2), none, some (.long j4), none, none, none] [.long t0] (ia, la, zRA pl dr cp cw rp) K = zWP d 165 407 [some (.ref 127), some (.int i1), some (.long j2), none, some (.long j4), none, some (.long t0), none] [] (ia, la, zRA pl dr cp cw rp) K := by
  refine (Q_lstore (ls' := [some (.ref 127), some (.int i1), some (.long j2), none, some (.long j4), none, some (.long t0), none]) zm_165 (Or.inl (by decide)) D165_273 rfl (Nat.le_of_ble_eq_true rfl) rfl).trans ?_
  refine (Q_goto (tgt := 407) zm_165 (Or.inl (by decide)) D165_275 (by decide)).trans ?_
  rfl

theorem b165_313 {d : Nat} {i1 : Int32} {j2 : Int64} {j4 : Int64} {t0 : Int64} {ia : Nat → Nat → Int32} {la : Nat → Nat → Int64} {pl dr : Nat} {cp : Option Nat} {cw : Option Nat} {rp : Option Nat} {K : Option Value → zHP → Prop}  : zWP d 165 313 [some (.ref 127), some (.int i1), some (.long j2), none, some (.long j4), none, none, none] [.long t0] (ia, la, zRA pl dr cp cw rp) K = zWP d 165 407 [some (.ref 127), some (.int i1), some (.long j2), none, some (.long j4), none, some (.long t0), none] [] (ia, la, zRA pl dr cp cw rp) K := by
  refine (Q_lstore (ls' := [some (.ref 127), some (.int i1), some (.long j2), none, some (.long j4), none, some (.long t0), none]) zm_165 (Or.inl (by decide)) D165_313 rfl (Nat.le_of_ble_eq_true rfl) rfl).trans ?_
  refine (Q_goto (tgt := 407) zm_165 (Or.inl (by decide)) D165_315 (by decide)).trans ?_
  rfl

theorem b165_353 {d : Nat} {i1 : Int32} {j2 : Int64} {j4 : Int64} {t0 : Int64} {ia : Nat → Nat → Int32} {la : Nat → Nat → Int64} {pl dr : Nat} {cp : Option Nat} {cw : Option Nat} {rp : Option Nat} {K : Option Value → zHP → Prop}  : zWP d 165 353 [some (.ref 127), some (.int i1), some (.long j2), none, some (.long j4), none, none, none] [.long t0] (ia, la, zRA pl dr cp cw rp) K = zWP d 165 407 [some (.ref 127), some (.int i1), some (.long j2), none, some (.long j4), none, some (.long t0), none] [] (ia, la, zRA pl dr cp cw rp) K := by
  refine (Q_lstore (ls' := [some (.ref 127), some (.int i1), some (.long j2), none, some (.long j4), none, some (.long t0), none]) zm_165 (Or.inl (by decide)) D165_353 rfl (Nat.le_of_ble_eq_true rfl) rfl).trans ?_
  refine (Q_goto (tgt := 407) zm_165 (Or.inl (by decide)) D165_355 (by decide)).trans ?_
  rfl

theorem b165_333 {d : Nat} {i1 : Int32} {j2 : Int64} {j4 : Int64} {t0 : Int64} {ia : Nat → Nat → Int32} {la : Nat → Nat → Int64} {pl dr : Nat} {cp : Option Nat} {cw : Option Nat} {rp : Option Nat} {K : Option Value → zHP → Prop}  : zWP d 165 333 [some (.ref 127), some (.int i1), some (.long j2), none, some (.long j4), none, none, none] [.long t0] (ia, la, zRA pl dr cp cw rp) K = zWP d 165 407 [some (.ref 127), some (.int i1), some (.long j2), none, some (.long j4), none, some (.long t0), none] [] (ia, la, zRA pl dr cp cw rp) K := by
  refine (Q_lstore (ls' := [some (.ref 127), some (.int i1), some (.long j2), none, some (.long j4), none, some (.long t0), none]) zm_165 (Or.inl (by decide)) D165_333 rfl (Nat.le_of_ble_eq_true rfl) rfl).trans ?_
  refine (Q_goto (tgt := 407) zm_165 (Or.inl (by decide)) D165_335 (by decide)).trans ?_
  rfl

theorem b165_379 {d : Nat} {i1 : Int32} {j2 : Int64} {j4 : Int64} {t0 : Int64} {ia : Nat → Nat → Int32} {la : Nat → Nat → Int64} {pl dr : Nat} {cp : Option Nat} {cw : Option Nat} {rp : Option Nat} {K : Option Value → zHP → Prop}  : zWP d 165 379 [some (.ref 127), some (.int i1), some (.long j2), none, some (.long j4), none, none, none] [.long t0] (ia, la, zRA pl dr cp cw rp) K = zWP d 165 407 [some (.ref 127), some (.int i1), some (.long j2), none, some (.long j4), none, some (.long t0), none] [] (ia, la, zRA pl dr cp cw rp) K := by
  refine (Q_lstore (ls' := [some (.ref 127), some (.int i1), some (.long j2), none, some (.long j4), none, some (.long t0), none]) zm_165 (Or.inl (by decide)) D165_379 rfl (Nat.le_of_ble_eq_true rfl) rfl).trans ?_
  refine (Q_goto (tgt := 407) zm_165 (Or.inl (by decide)) D165_381 (by decide)).trans ?_
  rfl

theorem b165_405 {d : Nat} {i1 : Int32} {j2 : Int64} {j4 : Int64} {t0 : Int64} {ia : Nat → Nat → Int32} {la : Nat → Nat → Int64} {pl dr : Nat} {cp : Option Nat} {cw : Option Nat} {rp : Option Nat} {K : Option Value → zHP → Prop}  : zWP d 165 405 [some (.ref 127), some (.int i1), some (.long j2), none, some (.long j4), none, none, none] [.long t0] (ia, la, zRA pl dr cp cw rp) K = zWP d 165 407 [some (.ref 127), some (.int i1), some (.long j2), none, some (.long j4), none, some (.long t0), none] [] (ia, la, zRA pl dr cp cw rp) K := by
  refine (Q_lstore (ls' := [some (.ref 127), some (.int i1), some (.long j2), none, some (.long j4), none, some (.long t0), none]) zm_165 (Or.inl (by decide)) D165_405 rfl (Nat.le_of_ble_eq_true rfl) rfl).trans ?_
  rfl

theorem b165_43 {d : Nat} {i1 : Int32} {j2 : Int64} {s1 : Int32} {t2 : Int64} {ia : Nat → Nat → Int32} {la : Nat → Nat → Int64} {pl dr : Nat} {cp : Option Nat} {cw : Option Nat} {rp : Option Nat} {K : Option Value → zHP → Prop}  : zWP d 165 43 [some (.ref 127), some (.int i1), some (.long j2), none, none, none, none, none] [.long t2, .int s1, .ref 146] (ia, la, zRA pl dr cp cw rp) K = (vp_in s1 64 ∧ K (some (.int (1 : Int32))) (ia, (zu la 146 (s1).toNatClampNeg t2), zRA pl dr cp cw rp)) := by
  refine (Q_lastore zm_165 (Or.inl (by decide)) D165_43 zk_146.1 zk_146.2).trans ?_
  refine zand_c (fun h0_ => ?_)
  refine (Q_iconst (v := 1) zm_165 (Or.inl (by decide)) D165_44 (by decide)).trans ?_
  exact Q_zreturn zm_165 (Or.inl (by decide)) D165_45 rfl (by decide)

/-! HandsLetModel.goes(I)Z -/
theorem D166_0 : decode prog_12_method_40_code 0 = .ok (.aload_n 0, 1) := by decide +kernel
theorem D166_1 : decode prog_12_method_40_code 1 = .ok (.iconst 0, 1) := by decide +kernel
theorem D166_2 : decode prog_12_method_40_code 2 = .ok (.putfield 317, 3) := by decide +kernel
theorem D166_5 : decode prog_12_method_40_code 5 = .ok (.aload_n 0, 1) := by decide +kernel
theorem D166_6 : decode prog_12_method_40_code 6 = .ok (.getfield 49, 3) := by decide +kernel
theorem D166_9 : decode prog_12_method_40_code 9 = .ok (.iload_n 1, 1) := by decide +kernel
theorem D166_10 : decode prog_12_method_40_code 10 = .ok (.iaload, 1) := by decide +kernel
theorem D166_11 : decode prog_12_method_40_code 11 = .ok (.istore_n 2, 1) := by decide +kernel
theorem D166_12 : decode prog_12_method_40_code 12 = .ok (.iload_n 2, 1) := by decide +kernel
theorem D166_13 : decode prog_12_method_40_code 13 = .ok (.aload_n 0, 1) := by decide +kernel
theorem D166_14 : decode prog_12_method_40_code 14 = .ok (.getfield 52, 3) := by decide +kernel
theorem D166_17 : decode prog_12_method_40_code 17 = .ok (.iload_n 1, 1) := by decide +kernel
theorem D166_18 : decode prog_12_method_40_code 18 = .ok (.iaload, 1) := by decide +kernel
theorem D166_19 : decode prog_12_method_40_code 19 = .ok (.if_icmp .ge 83, 3) := by decide +kernel
theorem D166_22 : decode prog_12_method_40_code 22 = .ok (.aload_n 0, 1) := by decide +kernel
theorem D166_23 : decode prog_12_method_40_code 23 = .ok (.getfield 55, 3) := by decide +kernel
theorem D166_26 : decode prog_12_method_40_code 26 = .ok (.iload_n 2, 1) := by decide +kernel
theorem D166_27 : decode prog_12_method_40_code 27 = .ok (.iaload, 1) := by decide +kernel
theorem D166_28 : decode prog_12_method_40_code 28 = .ok (.iconst 2, 1) := by decide +kernel
theorem D166_29 : decode prog_12_method_40_code 29 = .ok (.if_icmp .ne 18, 3) := by decide +kernel
theorem D166_32 : decode prog_12_method_40_code 32 = .ok (.aload_n 0, 1) := by decide +kernel
theorem D166_33 : decode prog_12_method_40_code 33 = .ok (.aload_n 0, 1) := by decide +kernel
theorem D166_34 : decode prog_12_method_40_code 34 = .ok (.getfield 58, 3) := by decide +kernel
theorem D166_37 : decode prog_12_method_40_code 37 = .ok (.iload_n 2, 1) := by decide +kernel
theorem D166_38 : decode prog_12_method_40_code 38 = .ok (.iaload, 1) := by decide +kernel
theorem D166_39 : decode prog_12_method_40_code 39 = .ok (.invokevirtual 334, 3) := by decide +kernel
theorem D166_42 : decode prog_12_method_40_code 42 = .ok (.ifCond .ne 54, 3) := by decide +kernel
theorem D166_45 : decode prog_12_method_40_code 45 = .ok (.iconst 0, 1) := by decide +kernel
theorem D166_46 : decode prog_12_method_40_code 46 = .ok (.ireturn, 1) := by decide +kernel
theorem D166_47 : decode prog_12_method_40_code 47 = .ok (.aload_n 0, 1) := by decide +kernel
theorem D166_48 : decode prog_12_method_40_code 48 = .ok (.getfield 69, 3) := by decide +kernel
theorem D166_51 : decode prog_12_method_40_code 51 = .ok (.aload_n 0, 1) := by decide +kernel
theorem D166_52 : decode prog_12_method_40_code 52 = .ok (.getfield 317, 3) := by decide +kernel
theorem D166_55 : decode prog_12_method_40_code 55 = .ok (.aload_n 0, 1) := by decide +kernel
theorem D166_56 : decode prog_12_method_40_code 56 = .ok (.getfield 55, 3) := by decide +kernel
theorem D166_59 : decode prog_12_method_40_code 59 = .ok (.iload_n 2, 1) := by decide +kernel
theorem D166_60 : decode prog_12_method_40_code 60 = .ok (.iaload, 1) := by decide +kernel
theorem D166_61 : decode prog_12_method_40_code 61 = .ok (.ifCond .ne 13, 3) := by decide +kernel
theorem D166_64 : decode prog_12_method_40_code 64 = .ok (.aload_n 0, 1) := by decide +kernel
theorem D166_65 : decode prog_12_method_40_code 65 = .ok (.getfield 58, 3) := by decide +kernel
theorem D166_68 : decode prog_12_method_40_code 68 = .ok (.iload_n 2, 1) := by decide +kernel
theorem D166_69 : decode prog_12_method_40_code 69 = .ok (.iaload, 1) := by decide +kernel
theorem D166_70 : decode prog_12_method_40_code 70 = .ok (.i2l, 1) := by decide +kernel
theorem D166_71 : decode prog_12_method_40_code 71 = .ok (.goto 14, 3) := by decide +kernel
theorem D166_74 : decode prog_12_method_40_code 74 = .ok (.aload_n 0, 1) := by decide +kernel
theorem D166_75 : decode prog_12_method_40_code 75 = .ok (.getfield 65, 3) := by decide +kernel
theorem D166_78 : decode prog_12_method_40_code 78 = .ok (.aload_n 0, 1) := by decide +kernel
theorem D166_79 : decode prog_12_method_40_code 79 = .ok (.getfield 58, 3) := by decide +kernel
theorem D166_82 : decode prog_12_method_40_code 82 = .ok (.iload_n 2, 1) := by decide +kernel
theorem D166_83 : decode prog_12_method_40_code 83 = .ok (.iaload, 1) := by decide +kernel
theorem D166_84 : decode prog_12_method_40_code 84 = .ok (.laload, 1) := by decide +kernel
theorem D166_85 : decode prog_12_method_40_code 85 = .ok (.lastore, 1) := by decide +kernel
theorem D166_86 : decode prog_12_method_40_code 86 = .ok (.aload_n 0, 1) := by decide +kernel
theorem D166_87 : decode prog_12_method_40_code 87 = .ok (.dup, 1) := by decide +kernel
theorem D166_88 : decode prog_12_method_40_code 88 = .ok (.getfield 317, 3) := by decide +kernel
theorem D166_91 : decode prog_12_method_40_code 91 = .ok (.iconst 1, 1) := by decide +kernel
theorem D166_92 : decode prog_12_method_40_code 92 = .ok (.iadd, 1) := by decide +kernel
theorem D166_93 : decode prog_12_method_40_code 93 = .ok (.putfield 317, 3) := by decide +kernel
theorem D166_96 : decode prog_12_method_40_code 96 = .ok (.iinc 2 1, 3) := by decide +kernel
theorem D166_99 : decode prog_12_method_40_code 99 = .ok (.goto (-87), 3) := by decide +kernel
theorem D166_102 : decode prog_12_method_40_code 102 = .ok (.iconst 1, 1) := by decide +kernel
theorem D166_103 : decode prog_12_method_40_code 103 = .ok (.ireturn, 1) := by decide +kernel

theorem b166_0 {d : Nat} {i1 : Int32} {ia : Nat → Nat → Int32} {la : Nat → Nat → Int64} {pl dr : Nat} {cp : Option Nat} {cw : Option Nat} {rp : Option Nat} {K : Option Value → zHP → Prop}  : zWP d 166 0 [some (.ref 127), some (.int i1), none] [] (ia, la, zRA pl dr cp cw rp) K = (vp_in i1 6 ∧ zWP d 166 12 [some (.ref 127), some (.int i1), some (.int ((zu ia 127 34 (0 : Int32)) 141 (i1).toNatClampNeg))] [] ((zu ia 127 34 (0 : Int32)), la, zRA pl dr cp cw rp) K) := by
  refine (Q_aload_n zm_166 (Or.inl (by decide)) D166_0 rfl).trans ?_
  refine (Q_iconst (v := 0) zm_166 (Or.inl (by decide)) D166_1 (by decide)).trans ?_
  refine (Q_putI zm_166 (Or.inl (by decide)) D166_2 zf_10_317 zs_10_34 rfl zk_127.1).trans ?_
  refine (Q_aload_n zm_166 (Or.inl (by decide)) D166_5 rfl).trans ?_
  refine (Q_getR (q := 141) zm_166 (Or.inl (by decide)) D166_6 zf_10_49 zs_10_15 zk_127.1 rfl).trans ?_
  refine (Q_iload_n zm_166 (Or.inl (by decide)) D166_9 rfl).trans ?_
  refine (Q_iaload zm_166 (Or.inl (by decide)) D166_10 zk_141.1 zk_141.2).trans ?_
  refine zand_c (fun h0_ => ?_)
  refine (Q_istore_n (ls' := [some (.ref 127), some (.int i1), some (.int ((zu ia 127 34 (0 : Int32)) 141 (i1).toNatClampNeg))]) zm_166 (Or.inl (by decide)) D166_11 rfl (Nat.le_of_ble_eq_true rfl) rfl).trans ?_
  rfl

theorem b166_12 {d : Nat} {i1 : Int32} {i2 : Int32} {ia : Nat → Nat → Int32} {la : Nat → Nat → Int64} {pl dr : Nat} {cp : Option Nat} {cw : Option Nat} {rp : Option Nat} {K : Option Value → zHP → Prop}  : zWP (d + 1) 166 12 [some (.ref 127), some (.int i1), some (.int i2)] [] (ia, la, zRA pl dr cp cw rp) K = (vp_in i1 6 ∧ (if (ia 142 (i1).toNatClampNeg) ≤ i2 then K (some (.int (1 : Int32))) (ia, la, zRA pl dr cp cw rp) else (vp_in i2 128 ∧ (if ¬ (ia 143 (i2).toNatClampNeg) = (2 : Int32) then (if ¬ (ia 143 (i2).toNatClampNeg) = 0 then (vp_in (ia 144 (i2).toNatClampNeg) 7 ∧ (vp_in (ia 127 34) 64 ∧ zWP (d + 1) 166 12 [some (.ref 127), some (.int i1), some (.int (i2 + (1 : Int32)))] [] ((zu ia 127 34 ((ia 127 34) + (1 : Int32))), (zu la 146 ((ia 127 34)).toNatClampNeg (la 145 ((ia 144 (i2).toNatClampNeg)).toNatClampNeg)), zRA pl dr cp cw rp) K)) else (vp_in (ia 127 34) 64 ∧ zWP (d + 1) 166 12 [some (.ref 127), some (.int i1), some (.int (i2 + (1 : Int32)))] [] ((zu ia 127 34 ((ia 127 34) + (1 : Int32))), (zu la 146 ((ia 127 34)).toNatClampNeg ((ia 144 (i2).toNatClampNeg)).toInt64), zRA pl dr cp cw rp) K)) else zWM d 165 [.ref 127, .int (ia 144 (i2).toNatClampNeg)] (ia, la, zRA pl dr cp cw rp) (zK (d + 1) 166 42 [some (.ref 127), some (.int i1), some (.int i2)] [] K))))) := by
  refine (Q_iload_n zm_166 (Or.inl (by decide)) D166_12 rfl).trans ?_
  refine (Q_aload_n zm_166 (Or.inl (by decide)) D166_13 rfl).trans ?_
  refine (Q_getR (q := 142) zm_166 (Or.inl (by decide)) D166_14 zf_10_52 zs_10_16 zk_127.1 rfl).trans ?_
  refine (Q_iload_n zm_166 (Or.inl (by decide)) D166_17 rfl).trans ?_
  refine (Q_iaload zm_166 (Or.inl (by decide)) D166_18 zk_142.1 zk_142.2).trans ?_
  refine zand_c (fun h0_ => ?_)
  refine (Q_ic_ge (tgt := 102) zm_166 (Or.inl (by decide)) D166_19 (by decide)).trans ?_
  refine zif_c (fun h1_ => ?_) (fun h1_ => ?_)
  · refine (Q_iconst (v := 1) zm_166 (Or.inl (by decide)) D166_102 (by decide)).trans ?_
    exact Q_zreturn zm_166 (Or.inl (by decide)) D166_103 rfl (by decide)
  · refine (Q_aload_n zm_166 (Or.inl (by decide)) D166_22 rfl).trans ?_
    refine (Q_getR (q := 143) zm_166 (Or.inl (by decide)) D166_23 zf_10_55 zs_10_17 zk_127.1 rfl).trans ?_
    refine (Q_iload_n zm_166 (Or.inl (by decide)) D166_26 rfl).trans ?_
    refine (Q_iaload zm_166 (Or.inl (by decide)) D166_27 zk_143.1 zk_143.2).trans ?_
    refine zand_c (fun h2_ => ?_)
    refine (Q_iconst (v := 2) zm_166 (Or.inl (by decide)) D166_28 (by decide)).trans ?_
    refine (Q_ic_ne (tgt := 47) zm_166 (Or.inl (by decide)) D166_29 (by decide)).trans ?_
    refine zif_c (fun h3_ => ?_) (fun h3_ => ?_)
    · refine (Q_aload_n zm_166 (Or.inl (by decide)) D166_47 rfl).trans ?_
      refine (Q_getR (q := 146) zm_166 (Or.inl (by decide)) D166_48 zf_10_69 zs_10_33 zk_127.1 rfl).trans ?_
      refine (Q_aload_n zm_166 (Or.inl (by decide)) D166_51 rfl).trans ?_
      refine (Q_getI zm_166 (Or.inl (by decide)) D166_52 zf_10_317 (Or.inl zs_10_34) zk_127.1).trans ?_
      refine (Q_aload_n zm_166 (Or.inl (by decide)) D166_55 rfl).trans ?_
      refine (Q_getR (q := 143) zm_166 (Or.inl (by decide)) D166_56 zf_10_55 zs_10_17 zk_127.1 rfl).trans ?_
      refine (Q_iload_n zm_166 (Or.inl (by decide)) D166_59 rfl).trans ?_
      refine ((Q_iaload zm_166 (Or.inl (by decide)) D166_60 zk_143.1 zk_143.2).trans (zdrop h2_)).trans ?_
      refine (Q_if_ne (tgt := 74) zm_166 (Or.inl (by decide)) D166_61 (by decide)).trans ?_
      refine zif_c (fun h4_ => ?_) (fun h4_ => ?_)
      · refine (Q_aload_n zm_166 (Or.inl (by decide)) D166_74 rfl).trans ?_
        refine (Q_getR (q := 145) zm_166 (Or.inl (by decide)) D166_75 zf_10_65 zs_10_32 zk_127.1 rfl).trans ?_
        refine (Q_aload_n zm_166 (Or.inl (by decide)) D166_78 rfl).trans ?_
        refine (Q_getR (q := 144) zm_166 (Or.inl (by decide)) D166_79 zf_10_58 zs_10_18 zk_127.1 rfl).trans ?_
        refine (Q_iload_n zm_166 (Or.inl (by decide)) D166_82 rfl).trans ?_
        refine ((Q_iaload zm_166 (Or.inl (by decide)) D166_83 zk_144.1 zk_144.2).trans (zdrop h2_)).trans ?_
        refine (Q_laload zm_166 (Or.inl (by decide)) D166_84 zk_145.1 zk_145.2).trans ?_
        refine zand_c (fun h5_ => ?_)
        refine (Q_lastore zm_166 (Or.inl (by decide)) D166_85 zk_146.1 zk_146.2).trans ?_
        refine zand_c (fun h6_ => ?_)
        refine (Q_aload_n zm_166 (Or.inl (by decide)) D166_86 rfl).trans ?_
        refine (Q_dup zm_166 (Or.inl (by decide)) D166_87 rfl).trans ?_
        refine (Q_getI zm_166 (Or.inl (by decide)) D166_88 zf_10_317 (Or.inl zs_10_34) zk_127.1).trans ?_
        refine (Q_iconst (v := 1) zm_166 (Or.inl (by decide)) D166_91 (by decide)).trans ?_
        refine (Q_iadd zm_166 (Or.inl (by decide)) D166_92).trans ?_
        refine (Q_putI zm_166 (Or.inl (by decide)) D166_93 zf_10_317 zs_10_34 rfl zk_127.1).trans ?_
        refine (Q_iinc (v := 1) (ls' := [some (.ref 127), some (.int i1), some (.int (i2 + (1 : Int32)))]) zm_166 (Or.inl (by decide)) D166_96 rfl rfl (by decide) rfl).trans ?_
        refine (Q_goto (tgt := 12) zm_166 (Or.inl (by decide)) D166_99 (by decide)).trans ?_
        rfl
      · refine (Q_aload_n zm_166 (Or.inl (by decide)) D166_64 rfl).trans ?_
        refine (Q_getR (q := 144) zm_166 (Or.inl (by decide)) D166_65 zf_10_58 zs_10_18 zk_127.1 rfl).trans ?_
        refine (Q_iload_n zm_166 (Or.inl (by decide)) D166_68 rfl).trans ?_
        refine ((Q_iaload zm_166 (Or.inl (by decide)) D166_69 zk_144.1 zk_144.2).trans (zdrop h2_)).trans ?_
        refine (Q_i2l zm_166 (Or.inl (by decide)) D166_70).trans ?_
        refine (Q_goto (tgt := 85) zm_166 (Or.inl (by decide)) D166_71 (by decide)).trans ?_
        refine (Q_lastore zm_166 (Or.inl (by decide)) D166_85 zk_146.1 zk_146.2).trans ?_
        refine zand_c (fun h7_ => ?_)
        refine (Q_aload_n zm_166 (Or.inl (by decide)) D166_86 rfl).trans ?_
        refine (Q_dup zm_166 (Or.inl (by decide)) D166_87 rfl).trans ?_
        refine (Q_getI zm_166 (Or.inl (by decide)) D166_88 zf_10_317 (Or.inl zs_10_34) zk_127.1).trans ?_
        refine (Q_iconst (v := 1) zm_166 (Or.inl (by decide)) D166_91 (by decide)).trans ?_
        refine (Q_iadd zm_166 (Or.inl (by decide)) D166_92).trans ?_
        refine (Q_putI zm_166 (Or.inl (by decide)) D166_93 zf_10_317 zs_10_34 rfl zk_127.1).trans ?_
        refine (Q_iinc (v := 1) (ls' := [some (.ref 127), some (.int i1), some (.int (i2 + (1 : Int32)))]) zm_166 (Or.inl (by decide)) D166_96 rfl rfl (by decide) rfl).trans ?_
        refine (Q_goto (tgt := 12) zm_166 (Or.inl (by decide)) D166_99 (by decide)).trans ?_
        rfl
    · refine (Q_aload_n zm_166 (Or.inl (by decide)) D166_32 rfl).trans ?_
      refine (Q_aload_n zm_166 (Or.inl (by decide)) D166_33 rfl).trans ?_
      refine (Q_getR (q := 144) zm_166 (Or.inl (by decide)) D166_34 zf_10_58 zs_10_18 zk_127.1 rfl).trans ?_
      refine (Q_iload_n zm_166 (Or.inl (by decide)) D166_37 rfl).trans ?_
      refine ((Q_iaload zm_166 (Or.inl (by decide)) D166_38 zk_144.1 zk_144.2).trans (zdrop h2_)).trans ?_
      exact Q_callv (as := [.int (ia 144 (i2).toNatClampNeg)]) (b := 127) (rest := []) zm_166 (Or.inl (by decide)) D166_39 zc_10_334 rfl zk_127.1 (by decide) (by decide +kernel) (by decide) (by simp [zcat, Value.category]) zm_165 rfl

theorem b166_42 {d : Nat} {i1 : Int32} {i2 : Int32} {s0 : Int32} {ia : Nat → Nat → Int32} {la : Nat → Nat → Int64} {pl dr : Nat} {cp : Option Nat} {cw : Option Nat} {rp : Option Nat} {K : Option Value → zHP → Prop}  : zWP d 166 42 [some (.ref 127), some (.int i1), some (.int i2)] [.int s0] (ia, la, zRA pl dr cp cw rp) K = (if ¬ s0 = 0 then zWP d 166 12 [some (.ref 127), some (.int i1), some (.int (i2 + (1 : Int32)))] [] (ia, la, zRA pl dr cp cw rp) K else K (some (.int (0 : Int32))) (ia, la, zRA pl dr cp cw rp)) := by
  refine (Q_if_ne (tgt := 96) zm_166 (Or.inl (by decide)) D166_42 (by decide)).trans ?_
  refine zif_c (fun h0_ => ?_) (fun h0_ => ?_)
  · refine (Q_iinc (v := 1) (ls' := [some (.ref 127), some (.int i1), some (.int (i2 + (1 : Int32)))]) zm_166 (Or.inl (by decide)) D166_96 rfl rfl (by decide) rfl).trans ?_
    refine (Q_goto (tgt := 12) zm_166 (Or.inl (by decide)) D166_99 (by decide)).trans ?_
    rfl
  · refine (Q_iconst (v := 0) zm_166 (Or.inl (by decide)) D166_45 (by decide)).trans ?_
    exact Q_zreturn zm_166 (Or.inl (by decide)) D166_46 rfl (by decide)

/-! HandsLetModel.hasLaw(I)Z -/
theorem D167_0 : decode prog_12_method_41_code 0 = .ok (.aload_n 0, 1) := by decide +kernel
theorem D167_1 : decode prog_12_method_41_code 1 = .ok (.getfield 52, 3) := by decide +kernel
theorem D167_4 : decode prog_12_method_41_code 4 = .ok (.iload_n 1, 1) := by decide +kernel
theorem D167_5 : decode prog_12_method_41_code 5 = .ok (.iaload, 1) := by decide +kernel
theorem D167_6 : decode prog_12_method_41_code 6 = .ok (.aload_n 0, 1) := by decide +kernel
theorem D167_7 : decode prog_12_method_41_code 7 = .ok (.getfield 49, 3) := by decide +kernel
theorem D167_10 : decode prog_12_method_41_code 10 = .ok (.iload_n 1, 1) := by decide +kernel
theorem D167_11 : decode prog_12_method_41_code 11 = .ok (.iaload, 1) := by decide +kernel
theorem D167_12 : decode prog_12_method_41_code 12 = .ok (.if_icmp .le 7, 3) := by decide +kernel
theorem D167_15 : decode prog_12_method_41_code 15 = .ok (.iconst 1, 1) := by decide +kernel
theorem D167_16 : decode prog_12_method_41_code 16 = .ok (.goto 4, 3) := by decide +kernel
theorem D167_19 : decode prog_12_method_41_code 19 = .ok (.iconst 0, 1) := by decide +kernel
theorem D167_20 : decode prog_12_method_41_code 20 = .ok (.ireturn, 1) := by decide +kernel

theorem b167_0 {d : Nat} {i1 : Int32} {ia : Nat → Nat → Int32} {la : Nat → Nat → Int64} {pl dr : Nat} {cp : Option Nat} {cw : Option Nat} {rp : Option Nat} {K : Option Value → zHP → Prop}  : zWP d 167 0 [some (.ref 127), some (.int i1)] [] (ia, la, zRA pl dr cp cw rp) K = (vp_in i1 6 ∧ (if (ia 142 (i1).toNatClampNeg) ≤ (ia 141 (i1).toNatClampNeg) then K (some (.int (0 : Int32))) (ia, la, zRA pl dr cp cw rp) else K (some (.int (1 : Int32))) (ia, la, zRA pl dr cp cw rp))) := by
  refine (Q_aload_n zm_167 (Or.inl (by decide)) D167_0 rfl).trans ?_
  refine (Q_getR (q := 142) zm_167 (Or.inl (by decide)) D167_1 zf_10_52 zs_10_16 zk_127.1 rfl).trans ?_
  refine (Q_iload_n zm_167 (Or.inl (by decide)) D167_4 rfl).trans ?_
  refine (Q_iaload zm_167 (Or.inl (by decide)) D167_5 zk_142.1 zk_142.2).trans ?_
  refine zand_c (fun h0_ => ?_)
  refine (Q_aload_n zm_167 (Or.inl (by decide)) D167_6 rfl).trans ?_
  refine (Q_getR (q := 141) zm_167 (Or.inl (by decide)) D167_7 zf_10_49 zs_10_15 zk_127.1 rfl).trans ?_
  refine (Q_iload_n zm_167 (Or.inl (by decide)) D167_10 rfl).trans ?_
  refine ((Q_iaload zm_167 (Or.inl (by decide)) D167_11 zk_141.1 zk_141.2).trans (zdrop h0_)).trans ?_
  refine (Q_ic_le (tgt := 19) zm_167 (Or.inl (by decide)) D167_12 (by decide)).trans ?_
  refine zif_c (fun h1_ => ?_) (fun h1_ => ?_)
  · refine (Q_iconst (v := 0) zm_167 (Or.inl (by decide)) D167_19 (by decide)).trans ?_
    exact Q_zreturn zm_167 (Or.inl (by decide)) D167_20 rfl (by decide)
  · refine (Q_iconst (v := 1) zm_167 (Or.inl (by decide)) D167_15 (by decide)).trans ?_
    refine (Q_goto (tgt := 20) zm_167 (Or.inl (by decide)) D167_16 (by decide)).trans ?_
    exact Q_zreturn zm_167 (Or.inl (by decide)) D167_20 rfl (by decide)

/-! HandsLetModel.starts(I)V -/
theorem D168_0 : decode prog_12_method_42_code 0 = .ok (.aload_n 0, 1) := by decide +kernel
theorem D168_1 : decode prog_12_method_42_code 1 = .ok (.getfield 72, 3) := by decide +kernel
theorem D168_4 : decode prog_12_method_42_code 4 = .ok (.iload_n 1, 1) := by decide +kernel
theorem D168_5 : decode prog_12_method_42_code 5 = .ok (.iconst 0, 1) := by decide +kernel
theorem D168_6 : decode prog_12_method_42_code 6 = .ok (.iastore, 1) := by decide +kernel
theorem D168_7 : decode prog_12_method_42_code 7 = .ok (.aload_n 0, 1) := by decide +kernel
theorem D168_8 : decode prog_12_method_42_code 8 = .ok (.getfield 75, 3) := by decide +kernel
theorem D168_11 : decode prog_12_method_42_code 11 = .ok (.iload_n 1, 1) := by decide +kernel
theorem D168_12 : decode prog_12_method_42_code 12 = .ok (.aload_n 0, 1) := by decide +kernel
theorem D168_13 : decode prog_12_method_42_code 13 = .ok (.getfield 13, 3) := by decide +kernel
theorem D168_16 : decode prog_12_method_42_code 16 = .ok (.iconst 5, 1) := by decide +kernel
theorem D168_17 : decode prog_12_method_42_code 17 = .ok (.iaload, 1) := by decide +kernel
theorem D168_18 : decode prog_12_method_42_code 18 = .ok (.iastore, 1) := by decide +kernel
theorem D168_19 : decode prog_12_method_42_code 19 = .ok (.aload_n 0, 1) := by decide +kernel
theorem D168_20 : decode prog_12_method_42_code 20 = .ok (.getfield 78, 3) := by decide +kernel
theorem D168_23 : decode prog_12_method_42_code 23 = .ok (.iload_n 1, 1) := by decide +kernel
theorem D168_24 : decode prog_12_method_42_code 24 = .ok (.iconst 0, 1) := by decide +kernel
theorem D168_25 : decode prog_12_method_42_code 25 = .ok (.iastore, 1) := by decide +kernel
theorem D168_26 : decode prog_12_method_42_code 26 = .ok (.aload_n 0, 1) := by decide +kernel
theorem D168_27 : decode prog_12_method_42_code 27 = .ok (.getfield 81, 3) := by decide +kernel
theorem D168_30 : decode prog_12_method_42_code 30 = .ok (.iload_n 1, 1) := by decide +kernel
theorem D168_31 : decode prog_12_method_42_code 31 = .ok (.iconst 0, 1) := by decide +kernel
theorem D168_32 : decode prog_12_method_42_code 32 = .ok (.iastore, 1) := by decide +kernel
theorem D168_33 : decode prog_12_method_42_code 33 = .ok (.aload_n 0, 1) := by decide +kernel
theorem D168_34 : decode prog_12_method_42_code 34 = .ok (.getfield 84, 3) := by decide +kernel
theorem D168_37 : decode prog_12_method_42_code 37 = .ok (.iload_n 1, 1) := by decide +kernel
theorem D168_38 : decode prog_12_method_42_code 38 = .ok (.iconst 0, 1) := by decide +kernel
theorem D168_39 : decode prog_12_method_42_code 39 = .ok (.iastore, 1) := by decide +kernel
theorem D168_40 : decode prog_12_method_42_code 40 = .ok (.iconst 0, 1) := by decide +kernel
theorem D168_41 : decode prog_12_method_42_code 41 = .ok (.istore_n 2, 1) := by decide +kernel
theorem D168_42 : decode prog_12_method_42_code 42 = .ok (.iload_n 2, 1) := by decide +kernel
theorem D168_43 : decode prog_12_method_42_code 43 = .ok (.bipush 6, 2) := by decide +kernel
theorem D168_45 : decode prog_12_method_42_code 45 = .ok (.if_icmp .ge 125, 3) := by decide +kernel
theorem D168_48 : decode prog_12_method_42_code 48 = .ok (.bipush 6, 2) := by decide +kernel
theorem D168_50 : decode prog_12_method_42_code 50 = .ok (.iload_n 1, 1) := by decide +kernel
theorem D168_51 : decode prog_12_method_42_code 51 = .ok (.imul, 1) := by decide +kernel
theorem D168_52 : decode prog_12_method_42_code 52 = .ok (.iload_n 2, 1) := by decide +kernel
theorem D168_53 : decode prog_12_method_42_code 53 = .ok (.iadd, 1) := by decide +kernel
theorem D168_54 : decode prog_12_method_42_code 54 = .ok (.istore_n 3, 1) := by decide +kernel
theorem D168_55 : decode prog_12_method_42_code 55 = .ok (.iload_n 2, 1) := by decide +kernel
theorem D168_56 : decode prog_12_method_42_code 56 = .ok (.aload_n 0, 1) := by decide +kernel
theorem D168_57 : decode prog_12_method_42_code 57 = .ok (.getfield 13, 3) := by decide +kernel
theorem D168_60 : decode prog_12_method_42_code 60 = .ok (.iconst 0, 1) := by decide +kernel
theorem D168_61 : decode prog_12_method_42_code 61 = .ok (.iaload, 1) := by decide +kernel
theorem D168_62 : decode prog_12_method_42_code 62 = .ok (.if_icmp .ge 7, 3) := by decide +kernel
theorem D168_65 : decode prog_12_method_42_code 65 = .ok (.iconst 1, 1) := by decide +kernel
theorem D168_66 : decode prog_12_method_42_code 66 = .ok (.goto 4, 3) := by decide +kernel
theorem D168_69 : decode prog_12_method_42_code 69 = .ok (.iconst 0, 1) := by decide +kernel
theorem D168_70 : decode prog_12_method_42_code 70 = .ok (.istore 4, 2) := by decide +kernel
theorem D168_72 : decode prog_12_method_42_code 72 = .ok (.iconst 0, 1) := by decide +kernel
theorem D168_73 : decode prog_12_method_42_code 73 = .ok (.istore 5, 2) := by decide +kernel
theorem D168_75 : decode prog_12_method_42_code 75 = .ok (.iload 5, 2) := by decide +kernel
theorem D168_77 : decode prog_12_method_42_code 77 = .ok (.iconst 3, 1) := by decide +kernel
theorem D168_78 : decode prog_12_method_42_code 78 = .ok (.if_icmp .ge 44, 3) := by decide +kernel
theorem D168_81 : decode prog_12_method_42_code 81 = .ok (.aload_n 0, 1) := by decide +kernel
theorem D168_82 : decode prog_12_method_42_code 82 = .ok (.getfield 87, 3) := by decide +kernel
theorem D168_85 : decode prog_12_method_42_code 85 = .ok (.iconst 3, 1) := by decide +kernel
theorem D168_86 : decode prog_12_method_42_code 86 = .ok (.iload_n 3, 1) := by decide +kernel
theorem D168_87 : decode prog_12_method_42_code 87 = .ok (.imul, 1) := by decide +kernel
theorem D168_88 : decode prog_12_method_42_code 88 = .ok (.iload 5, 2) := by decide +kernel
theorem D168_90 : decode prog_12_method_42_code 90 = .ok (.iadd, 1) := by decide +kernel
theorem D168_91 : decode prog_12_method_42_code 91 = .ok (.iload 4, 2) := by decide +kernel
theorem D168_93 : decode prog_12_method_42_code 93 = .ok (.ifCond .eq 21, 3) := by decide +kernel
theorem D168_96 : decode prog_12_method_42_code 96 = .ok (.sipush 1000, 3) := by decide +kernel
theorem D168_99 : decode prog_12_method_42_code 99 = .ok (.aload_n 0, 1) := by decide +kernel
theorem D168_100 : decode prog_12_method_42_code 100 = .ok (.getfield 19, 3) := by decide +kernel
theorem D168_103 : decode prog_12_method_42_code 103 = .ok (.iconst 3, 1) := by decide +kernel
theorem D168_104 : decode prog_12_method_42_code 104 = .ok (.iload_n 2, 1) := by decide +kernel
theorem D168_105 : decode prog_12_method_42_code 105 = .ok (.imul, 1) := by decide +kernel
theorem D168_106 : decode prog_12_method_42_code 106 = .ok (.iload 5, 2) := by decide +kernel
theorem D168_108 : decode prog_12_method_42_code 108 = .ok (.iadd, 1) := by decide +kernel
theorem D168_109 : decode prog_12_method_42_code 109 = .ok (.iaload, 1) := by decide +kernel
theorem D168_110 : decode prog_12_method_42_code 110 = .ok (.imul, 1) := by decide +kernel
theorem D168_111 : decode prog_12_method_42_code 111 = .ok (.goto 4, 3) := by decide +kernel
theorem D168_114 : decode prog_12_method_42_code 114 = .ok (.iconst 0, 1) := by decide +kernel
theorem D168_115 : decode prog_12_method_42_code 115 = .ok (.iastore, 1) := by decide +kernel
theorem D168_116 : decode prog_12_method_42_code 116 = .ok (.iinc 5 1, 3) := by decide +kernel
theorem D168_119 : decode prog_12_method_42_code 119 = .ok (.goto (-44), 3) := by decide +kernel
theorem D168_122 : decode prog_12_method_42_code 122 = .ok (.aload_n 0, 1) := by decide +kernel
theorem D168_123 : decode prog_12_method_42_code 123 = .ok (.getfield 90, 3) := by decide +kernel
theorem D168_126 : decode prog_12_method_42_code 126 = .ok (.iload_n 3, 1) := by decide +kernel
theorem D168_127 : decode prog_12_method_42_code 127 = .ok (.iconst (-1), 1) := by decide +kernel
theorem D168_128 : decode prog_12_method_42_code 128 = .ok (.iastore, 1) := by decide +kernel
theorem D168_129 : decode prog_12_method_42_code 129 = .ok (.aload_n 0, 1) := by decide +kernel
theorem D168_130 : decode prog_12_method_42_code 130 = .ok (.getfield 93, 3) := by decide +kernel
theorem D168_133 : decode prog_12_method_42_code 133 = .ok (.iload_n 3, 1) := by decide +kernel
theorem D168_134 : decode prog_12_method_42_code 134 = .ok (.iconst 0, 1) := by decide +kernel
theorem D168_135 : decode prog_12_method_42_code 135 = .ok (.iastore, 1) := by decide +kernel
theorem D168_136 : decode prog_12_method_42_code 136 = .ok (.aload_n 0, 1) := by decide +kernel
theorem D168_137 : decode prog_12_method_42_code 137 = .ok (.getfield 96, 3) := by decide +kernel
theorem D168_140 : decode prog_12_method_42_code 140 = .ok (.iload_n 3, 1) := by decide +kernel
theorem D168_141 : decode prog_12_method_42_code 141 = .ok (.iconst 0, 1) := by decide +kernel
theorem D168_142 : decode prog_12_method_42_code 142 = .ok (.iastore, 1) := by decide +kernel
theorem D168_143 : decode prog_12_method_42_code 143 = .ok (.aload_n 0, 1) := by decide +kernel
theorem D168_144 : decode prog_12_method_42_code 144 = .ok (.getfield 99, 3) := by decide +kernel
theorem D168_147 : decode prog_12_method_42_code 147 = .ok (.iload_n 3, 1) := by decide +kernel
theorem D168_148 : decode prog_12_method_42_code 148 = .ok (.iload 4, 2) := by decide +kernel
theorem D168_150 : decode prog_12_method_42_code 150 = .ok (.ifCond .eq 12, 3) := by decide +kernel
theorem D168_153 : decode prog_12_method_42_code 153 = .ok (.aload_n 0, 1) := by decide +kernel
theorem D168_154 : decode prog_12_method_42_code 154 = .ok (.getfield 22, 3) := by decide +kernel
theorem D168_157 : decode prog_12_method_42_code 157 = .ok (.iload_n 2, 1) := by decide +kernel
theorem D168_158 : decode prog_12_method_42_code 158 = .ok (.iaload, 1) := by decide +kernel
theorem D168_159 : decode prog_12_method_42_code 159 = .ok (.goto 4, 3) := by decide +kernel
theorem D168_162 : decode prog_12_method_42_code 162 = .ok (.iconst 0, 1) := by decide +kernel
theorem D168_163 : decode prog_12_method_42_code 163 = .ok (.iastore, 1) := by decide +kernel
theorem D168_164 : decode prog_12_method_42_code 164 = .ok (.iinc 2 1, 3) := by decide +kernel
theorem D168_167 : decode prog_12_method_42_code 167 = .ok (.goto (-125), 3) := by decide +kernel
theorem D168_170 : decode prog_12_method_42_code 170 = .ok (.iconst 0, 1) := by decide +kernel
theorem D168_171 : decode prog_12_method_42_code 171 = .ok (.istore_n 2, 1) := by decide +kernel
theorem D168_172 : decode prog_12_method_42_code 172 = .ok (.iload_n 2, 1) := by decide +kernel
theorem D168_173 : decode prog_12_method_42_code 173 = .ok (.bipush 12, 2) := by decide +kernel
theorem D168_175 : decode prog_12_method_42_code 175 = .ok (.if_icmp .ge 51, 3) := by decide +kernel
theorem D168_178 : decode prog_12_method_42_code 178 = .ok (.aload_n 0, 1) := by decide +kernel
theorem D168_179 : decode prog_12_method_42_code 179 = .ok (.getfield 102, 3) := by decide +kernel
theorem D168_182 : decode prog_12_method_42_code 182 = .ok (.bipush 12, 2) := by decide +kernel
theorem D168_184 : decode prog_12_method_42_code 184 = .ok (.iload_n 1, 1) := by decide +kernel
theorem D168_185 : decode prog_12_method_42_code 185 = .ok (.imul, 1) := by decide +kernel
theorem D168_186 : decode prog_12_method_42_code 186 = .ok (.iload_n 2, 1) := by decide +kernel
theorem D168_187 : decode prog_12_method_42_code 187 = .ok (.iadd, 1) := by decide +kernel
theorem D168_188 : decode prog_12_method_42_code 188 = .ok (.iconst 0, 1) := by decide +kernel
theorem D168_189 : decode prog_12_method_42_code 189 = .ok (.iastore, 1) := by decide +kernel
theorem D168_190 : decode prog_12_method_42_code 190 = .ok (.iconst 0, 1) := by decide +kernel
theorem D168_191 : decode prog_12_method_42_code 191 = .ok (.istore_n 3, 1) := by decide +kernel
theorem D168_192 : decode prog_12_method_42_code 192 = .ok (.iload_n 3, 1) := by decide +kernel
theorem D168_193 : decode prog_12_method_42_code 193 = .ok (.iconst 3, 1) := by decide +kernel
theorem D168_194 : decode prog_12_method_42_code 194 = .ok (.if_icmp .ge 26, 3) := by decide +kernel
theorem D168_197 : decode prog_12_method_42_code 197 = .ok (.aload_n 0, 1) := by decide +kernel
theorem D168_198 : decode prog_12_method_42_code 198 = .ok (.getfield 105, 3) := by decide +kernel
theorem D168_201 : decode prog_12_method_42_code 201 = .ok (.iconst 3, 1) := by decide +kernel
theorem D168_202 : decode prog_12_method_42_code 202 = .ok (.bipush 12, 2) := by decide +kernel
theorem D168_204 : decode prog_12_method_42_code 204 = .ok (.iload_n 1, 1) := by decide +kernel
theorem D168_205 : decode prog_12_method_42_code 205 = .ok (.imul, 1) := by decide +kernel
theorem D168_206 : decode prog_12_method_42_code 206 = .ok (.iload_n 2, 1) := by decide +kernel
theorem D168_207 : decode prog_12_method_42_code 207 = .ok (.iadd, 1) := by decide +kernel
theorem D168_208 : decode prog_12_method_42_code 208 = .ok (.imul, 1) := by decide +kernel
theorem D168_209 : decode prog_12_method_42_code 209 = .ok (.iload_n 3, 1) := by decide +kernel
theorem D168_210 : decode prog_12_method_42_code 210 = .ok (.iadd, 1) := by decide +kernel
theorem D168_211 : decode prog_12_method_42_code 211 = .ok (.bipush (-2), 2) := by decide +kernel
theorem D168_213 : decode prog_12_method_42_code 213 = .ok (.iastore, 1) := by decide +kernel
theorem D168_214 : decode prog_12_method_42_code 214 = .ok (.iinc 3 1, 3) := by decide +kernel
theorem D168_217 : decode prog_12_method_42_code 217 = .ok (.goto (-25), 3) := by decide +kernel
theorem D168_220 : decode prog_12_method_42_code 220 = .ok (.iinc 2 1, 3) := by decide +kernel
theorem D168_223 : decode prog_12_method_42_code 223 = .ok (.goto (-51), 3) := by decide +kernel
theorem D168_226 : decode prog_12_method_42_code 226 = .ok (.return_, 1) := by decide +kernel

theorem b168_0 {d : Nat} {i1 : Int32} {ia : Nat → Nat → Int32} {la : Nat → Nat → Int64} {pl dr : Nat} {cp : Option Nat} {cw : Option Nat} {rp : Option Nat} {K : Option Value → zHP → Prop}  : zWP d 168 0 [some (.ref 127), some (.int i1), none, none, none, none] [] (ia, la, zRA pl dr cp cw rp) K = (vp_in i1 23 ∧ zWP d 168 42 [some (.ref 127), some (.int i1), some (.int (0 : Int32)), none, none, none] [] ((zu (zu (zu (zu (zu ia 147 (i1).toNatClampNeg (0 : Int32)) 148 (i1).toNatClampNeg ((zu ia 147 (i1).toNatClampNeg (0 : Int32)) 129 5)) 149 (i1).toNatClampNeg (0 : Int32)) 150 (i1).toNatClampNeg (0 : Int32)) 151 (i1).toNatClampNeg (0 : Int32)), la, zRA pl dr cp cw rp) K) := by
  refine (Q_aload_n zm_168 (Or.inl (by decide)) D168_0 rfl).trans ?_
  refine (Q_getR (q := 147) zm_168 (Or.inl (by decide)) D168_1 zf_10_72 zs_10_35 zk_127.1 rfl).trans ?_
  refine (Q_iload_n zm_168 (Or.inl (by decide)) D168_4 rfl).trans ?_
  refine (Q_iconst (v := 0) zm_168 (Or.inl (by decide)) D168_5 (by decide)).trans ?_
  refine (Q_iastore zm_168 (Or.inl (by decide)) D168_6 zk_147.1 zk_147.2).trans ?_
  refine zand_c (fun h0_ => ?_)
  refine (Q_aload_n zm_168 (Or.inl (by decide)) D168_7 rfl).trans ?_
  refine (Q_getR (q := 148) zm_168 (Or.inl (by decide)) D168_8 zf_10_75 zs_10_36 zk_127.1 rfl).trans ?_
  refine (Q_iload_n zm_168 (Or.inl (by decide)) D168_11 rfl).trans ?_
  refine (Q_aload_n zm_168 (Or.inl (by decide)) D168_12 rfl).trans ?_
  refine (Q_getR (q := 129) zm_168 (Or.inl (by decide)) D168_13 zf_10_13 zs_10_3 zk_127.1 rfl).trans ?_
  refine (Q_iconst (v := 5) zm_168 (Or.inl (by decide)) D168_16 (by decide)).trans ?_
  refine ((Q_iaload zm_168 (Or.inl (by decide)) D168_17 zk_129.1 zk_129.2).trans (zdrop (zin_spec (by decide)))).trans ?_
  refine ((Q_iastore zm_168 (Or.inl (by decide)) D168_18 zk_148.1 zk_148.2).trans (zdrop h0_)).trans ?_
  refine (Q_aload_n zm_168 (Or.inl (by decide)) D168_19 rfl).trans ?_
  refine (Q_getR (q := 149) zm_168 (Or.inl (by decide)) D168_20 zf_10_78 zs_10_37 zk_127.1 rfl).trans ?_
  refine (Q_iload_n zm_168 (Or.inl (by decide)) D168_23 rfl).trans ?_
  refine (Q_iconst (v := 0) zm_168 (Or.inl (by decide)) D168_24 (by decide)).trans ?_
  refine ((Q_iastore zm_168 (Or.inl (by decide)) D168_25 zk_149.1 zk_149.2).trans (zdrop h0_)).trans ?_
  refine (Q_aload_n zm_168 (Or.inl (by decide)) D168_26 rfl).trans ?_
  refine (Q_getR (q := 150) zm_168 (Or.inl (by decide)) D168_27 zf_10_81 zs_10_38 zk_127.1 rfl).trans ?_
  refine (Q_iload_n zm_168 (Or.inl (by decide)) D168_30 rfl).trans ?_
  refine (Q_iconst (v := 0) zm_168 (Or.inl (by decide)) D168_31 (by decide)).trans ?_
  refine ((Q_iastore zm_168 (Or.inl (by decide)) D168_32 zk_150.1 zk_150.2).trans (zdrop h0_)).trans ?_
  refine (Q_aload_n zm_168 (Or.inl (by decide)) D168_33 rfl).trans ?_
  refine (Q_getR (q := 151) zm_168 (Or.inl (by decide)) D168_34 zf_10_84 zs_10_39 zk_127.1 rfl).trans ?_
  refine (Q_iload_n zm_168 (Or.inl (by decide)) D168_37 rfl).trans ?_
  refine (Q_iconst (v := 0) zm_168 (Or.inl (by decide)) D168_38 (by decide)).trans ?_
  refine ((Q_iastore zm_168 (Or.inl (by decide)) D168_39 zk_151.1 zk_151.2).trans (zdrop h0_)).trans ?_
  refine (Q_iconst (v := 0) zm_168 (Or.inl (by decide)) D168_40 (by decide)).trans ?_
  refine (Q_istore_n (ls' := [some (.ref 127), some (.int i1), some (.int (0 : Int32)), none, none, none]) zm_168 (Or.inl (by decide)) D168_41 rfl (Nat.le_of_ble_eq_true rfl) rfl).trans ?_
  rfl

theorem b168_42 {d : Nat} {i1 : Int32} {i2 : Int32} {a3 : Option Value} {a4 : Option Value} {a5 : Option Value} {ia : Nat → Nat → Int32} {la : Nat → Nat → Int64} {pl dr : Nat} {cp : Option Nat} {cw : Option Nat} {rp : Option Nat} {K : Option Value → zHP → Prop}  : zWP d 168 42 [some (.ref 127), some (.int i1), some (.int i2), a3, a4, a5] [] (ia, la, zRA pl dr cp cw rp) K = (if (6 : Int32) ≤ i2 then zWP d 168 172 [some (.ref 127), some (.int i1), some (.int (0 : Int32)), a3, a4, a5] [] (ia, la, zRA pl dr cp cw rp) K else (if (ia 129 0) ≤ i2 then zWP d 168 75 [some (.ref 127), some (.int i1), some (.int i2), some (.int (((6 : Int32) * i1) + i2)), some (.int (0 : Int32)), some (.int (0 : Int32))] [] (ia, la, zRA pl dr cp cw rp) K else zWP d 168 75 [some (.ref 127), some (.int i1), some (.int i2), some (.int (((6 : Int32) * i1) + i2)), some (.int (1 : Int32)), some (.int (0 : Int32))] [] (ia, la, zRA pl dr cp cw rp) K)) := by
  refine (Q_iload_n zm_168 (Or.inl (by decide)) D168_42 rfl).trans ?_
  refine (Q_bipush (v := 6) zm_168 (Or.inl (by decide)) D168_43 (by decide)).trans ?_
  refine (Q_ic_ge (tgt := 170) zm_168 (Or.inl (by decide)) D168_45 (by decide)).trans ?_
  refine zif_c (fun h0_ => ?_) (fun h0_ => ?_)
  · refine (Q_iconst (v := 0) zm_168 (Or.inl (by decide)) D168_170 (by decide)).trans ?_
    refine (Q_istore_n (ls' := [some (.ref 127), some (.int i1), some (.int (0 : Int32)), a3, a4, a5]) zm_168 (Or.inl (by decide)) D168_171 rfl (Nat.le_of_ble_eq_true rfl) rfl).trans ?_
    rfl
  · refine (Q_bipush (v := 6) zm_168 (Or.inl (by decide)) D168_48 (by decide)).trans ?_
    refine (Q_iload_n zm_168 (Or.inl (by decide)) D168_50 rfl).trans ?_
    refine (Q_imul zm_168 (Or.inl (by decide)) D168_51).trans ?_
    refine (Q_iload_n zm_168 (Or.inl (by decide)) D168_52 rfl).trans ?_
    refine (Q_iadd zm_168 (Or.inl (by decide)) D168_53).trans ?_
    refine (Q_istore_n (ls' := [some (.ref 127), some (.int i1), some (.int i2), some (.int (((6 : Int32) * i1) + i2)), a4, a5]) zm_168 (Or.inl (by decide)) D168_54 rfl (Nat.le_of_ble_eq_true rfl) rfl).trans ?_
    refine (Q_iload_n zm_168 (Or.inl (by decide)) D168_55 rfl).trans ?_
    refine (Q_aload_n zm_168 (Or.inl (by decide)) D168_56 rfl).trans ?_
    refine (Q_getR (q := 129) zm_168 (Or.inl (by decide)) D168_57 zf_10_13 zs_10_3 zk_127.1 rfl).trans ?_
    refine (Q_iconst (v := 0) zm_168 (Or.inl (by decide)) D168_60 (by decide)).trans ?_
    refine ((Q_iaload zm_168 (Or.inl (by decide)) D168_61 zk_129.1 zk_129.2).trans (zdrop (zin_spec (by decide)))).trans ?_
    refine (Q_ic_ge (tgt := 69) zm_168 (Or.inl (by decide)) D168_62 (by decide)).trans ?_
    refine zif_c (fun h1_ => ?_) (fun h1_ => ?_)
    · refine (Q_iconst (v := 0) zm_168 (Or.inl (by decide)) D168_69 (by decide)).trans ?_
      refine (Q_istore (ls' := [some (.ref 127), some (.int i1), some (.int i2), some (.int (((6 : Int32) * i1) + i2)), some (.int (0 : Int32)), a5]) zm_168 (Or.inl (by decide)) D168_70 rfl (Nat.le_of_ble_eq_true rfl) rfl).trans ?_
      refine (Q_iconst (v := 0) zm_168 (Or.inl (by decide)) D168_72 (by decide)).trans ?_
      refine (Q_istore (ls' := [some (.ref 127), some (.int i1), some (.int i2), some (.int (((6 : Int32) * i1) + i2)), some (.int (0 : Int32)), some (.int (0 : Int32))]) zm_168 (Or.inl (by decide)) D168_73 rfl (Nat.le_of_ble_eq_true rfl) rfl).trans ?_
      rfl
    · refine (Q_iconst (v := 1) zm_168 (Or.inl (by decide)) D168_65 (by decide)).trans ?_
      refine (Q_goto (tgt := 70) zm_168 (Or.inl (by decide)) D168_66 (by decide)).trans ?_
      refine (Q_istore (ls' := [some (.ref 127), some (.int i1), some (.int i2), some (.int (((6 : Int32) * i1) + i2)), some (.int (1 : Int32)), a5]) zm_168 (Or.inl (by decide)) D168_70 rfl (Nat.le_of_ble_eq_true rfl) rfl).trans ?_
      refine (Q_iconst (v := 0) zm_168 (Or.inl (by decide)) D168_72 (by decide)).trans ?_
      refine (Q_istore (ls' := [some (.ref 127), some (.int i1), some (.int i2), some (.int (((6 : Int32) * i1) + i2)), some (.int (1 : Int32)), some (.int (0 : Int32))]) zm_168 (Or.inl (by decide)) D168_73 rfl (Nat.le_of_ble_eq_true rfl) rfl).trans ?_
      rfl

theorem b168_172 {d : Nat} {i1 : Int32} {i2 : Int32} {a3 : Option Value} {a4 : Option Value} {a5 : Option Value} {ia : Nat → Nat → Int32} {la : Nat → Nat → Int64} {pl dr : Nat} {cp : Option Nat} {cw : Option Nat} {rp : Option Nat} {K : Option Value → zHP → Prop}  : zWP d 168 172 [some (.ref 127), some (.int i1), some (.int i2), a3, a4, a5] [] (ia, la, zRA pl dr cp cw rp) K = (if (12 : Int32) ≤ i2 then K none (ia, la, zRA pl dr cp cw rp) else (vp_in (((12 : Int32) * i1) + i2) 276 ∧ zWP d 168 192 [some (.ref 127), some (.int i1), some (.int i2), some (.int (0 : Int32)), a4, a5] [] ((zu ia 157 ((((12 : Int32) * i1) + i2)).toNatClampNeg (0 : Int32)), la, zRA pl dr cp cw rp) K)) := by
  refine (Q_iload_n zm_168 (Or.inl (by decide)) D168_172 rfl).trans ?_
  refine (Q_bipush (v := 12) zm_168 (Or.inl (by decide)) D168_173 (by decide)).trans ?_
  refine (Q_ic_ge (tgt := 226) zm_168 (Or.inl (by decide)) D168_175 (by decide)).trans ?_
  refine zif_c (fun h0_ => ?_) (fun h0_ => ?_)
  · exact Q_return zm_168 (Or.inl (by decide)) D168_226 rfl
  · refine (Q_aload_n zm_168 (Or.inl (by decide)) D168_178 rfl).trans ?_
    refine (Q_getR (q := 157) zm_168 (Or.inl (by decide)) D168_179 zf_10_102 zs_10_45 zk_127.1 rfl).trans ?_
    refine (Q_bipush (v := 12) zm_168 (Or.inl (by decide)) D168_182 (by decide)).trans ?_
    refine (Q_iload_n zm_168 (Or.inl (by decide)) D168_184 rfl).trans ?_
    refine (Q_imul zm_168 (Or.inl (by decide)) D168_185).trans ?_
    refine (Q_iload_n zm_168 (Or.inl (by decide)) D168_186 rfl).trans ?_
    refine (Q_iadd zm_168 (Or.inl (by decide)) D168_187).trans ?_
    refine (Q_iconst (v := 0) zm_168 (Or.inl (by decide)) D168_188 (by decide)).trans ?_
    refine (Q_iastore zm_168 (Or.inl (by decide)) D168_189 zk_157.1 zk_157.2).trans ?_
    refine zand_c (fun h1_ => ?_)
    refine (Q_iconst (v := 0) zm_168 (Or.inl (by decide)) D168_190 (by decide)).trans ?_
    refine (Q_istore_n (ls' := [some (.ref 127), some (.int i1), some (.int i2), some (.int (0 : Int32)), a4, a5]) zm_168 (Or.inl (by decide)) D168_191 rfl (Nat.le_of_ble_eq_true rfl) rfl).trans ?_
    rfl

theorem b168_75 {d : Nat} {i1 : Int32} {i2 : Int32} {i3 : Int32} {i4 : Int32} {i5 : Int32} {ia : Nat → Nat → Int32} {la : Nat → Nat → Int64} {pl dr : Nat} {cp : Option Nat} {cw : Option Nat} {rp : Option Nat} {K : Option Value → zHP → Prop}  : zWP d 168 75 [some (.ref 127), some (.int i1), some (.int i2), some (.int i3), some (.int i4), some (.int i5)] [] (ia, la, zRA pl dr cp cw rp) K = (if (3 : Int32) ≤ i5 then (vp_in i3 138 ∧ (if i4 = 0 then zWP d 168 42 [some (.ref 127), some (.int i1), some (.int (i2 + (1 : Int32))), some (.int i3), some (.int i4), some (.int i5)] [] ((zu (zu (zu (zu ia 153 (i3).toNatClampNeg (-1 : Int32)) 154 (i3).toNatClampNeg (0 : Int32)) 155 (i3).toNatClampNeg (0 : Int32)) 156 (i3).toNatClampNeg (0 : Int32)), la, zRA pl dr cp cw rp) K else (vp_in i2 12 ∧ zWP d 168 42 [some (.ref 127), some (.int i1), some (.int (i2 + (1 : Int32))), some (.int i3), some (.int i4), some (.int i5)] [] ((zu (zu (zu (zu ia 153 (i3).toNatClampNeg (-1 : Int32)) 154 (i3).toNatClampNeg (0 : Int32)) 155 (i3).toNatClampNeg (0 : Int32)) 156 (i3).toNatClampNeg ((zu (zu (zu ia 153 (i3).toNatClampNeg (-1 : Int32)) 154 (i3).toNatClampNeg (0 : Int32)) 155 (i3).toNatClampNeg (0 : Int32)) 132 (i2).toNatClampNeg)), la, zRA pl dr cp cw rp) K))) else (if i4 = 0 then (vp_in (((3 : Int32) * i3) + i5) 414 ∧ zWP d 168 75 [some (.ref 127), some (.int i1), some (.int i2), some (.int i3), some (.int i4), some (.int (i5 + (1 : Int32)))] [] ((zu ia 152 ((((3 : Int32) * i3) + i5)).toNatClampNeg (0 : Int32)), la, zRA pl dr cp cw rp) K) else (vp_in (((3 : Int32) * i2) + i5) 36 ∧ (vp_in (((3 : Int32) * i3) + i5) 414 ∧ zWP d 168 75 [some (.ref 127), some (.int i1), some (.int i2), some (.int i3), some (.int i4), some (.int (i5 + (1 : Int32)))] [] ((zu ia 152 ((((3 : Int32) * i3) + i5)).toNatClampNeg ((1000 : Int32) * (ia 131 ((((3 : Int32) * i2) + i5)).toNatClampNeg))), la, zRA pl dr cp cw rp) K)))) := by
  refine (Q_iload zm_168 (Or.inl (by decide)) D168_75 rfl).trans ?_
  refine (Q_iconst (v := 3) zm_168 (Or.inl (by decide)) D168_77 (by decide)).trans ?_
  refine (Q_ic_ge (tgt := 122) zm_168 (Or.inl (by decide)) D168_78 (by decide)).trans ?_
  refine zif_c (fun h0_ => ?_) (fun h0_ => ?_)
  · refine (Q_aload_n zm_168 (Or.inl (by decide)) D168_122 rfl).trans ?_
    refine (Q_getR (q := 153) zm_168 (Or.inl (by decide)) D168_123 zf_10_90 zs_10_41 zk_127.1 rfl).trans ?_
    refine (Q_iload_n zm_168 (Or.inl (by decide)) D168_126 rfl).trans ?_
    refine (Q_iconst (v := -1) zm_168 (Or.inl (by decide)) D168_127 (by decide)).trans ?_
    refine (Q_iastore zm_168 (Or.inl (by decide)) D168_128 zk_153.1 zk_153.2).trans ?_
    refine zand_c (fun h1_ => ?_)
    refine (Q_aload_n zm_168 (Or.inl (by decide)) D168_129 rfl).trans ?_
    refine (Q_getR (q := 154) zm_168 (Or.inl (by decide)) D168_130 zf_10_93 zs_10_42 zk_127.1 rfl).trans ?_
    refine (Q_iload_n zm_168 (Or.inl (by decide)) D168_133 rfl).trans ?_
    refine (Q_iconst (v := 0) zm_168 (Or.inl (by decide)) D168_134 (by decide)).trans ?_
    refine ((Q_iastore zm_168 (Or.inl (by decide)) D168_135 zk_154.1 zk_154.2).trans (zdrop h1_)).trans ?_
    refine (Q_aload_n zm_168 (Or.inl (by decide)) D168_136 rfl).trans ?_
    refine (Q_getR (q := 155) zm_168 (Or.inl (by decide)) D168_137 zf_10_96 zs_10_43 zk_127.1 rfl).trans ?_
    refine (Q_iload_n zm_168 (Or.inl (by decide)) D168_140 rfl).trans ?_
    refine (Q_iconst (v := 0) zm_168 (Or.inl (by decide)) D168_141 (by decide)).trans ?_
    refine ((Q_iastore zm_168 (Or.inl (by decide)) D168_142 zk_155.1 zk_155.2).trans (zdrop h1_)).trans ?_
    refine (Q_aload_n zm_168 (Or.inl (by decide)) D168_143 rfl).trans ?_
    refine (Q_getR (q := 156) zm_168 (Or.inl (by decide)) D168_144 zf_10_99 zs_10_44 zk_127.1 rfl).trans ?_
    refine (Q_iload_n zm_168 (Or.inl (by decide)) D168_147 rfl).trans ?_
    refine (Q_iload zm_168 (Or.inl (by decide)) D168_148 rfl).trans ?_
    refine (Q_if_eq (tgt := 162) zm_168 (Or.inl (by decide)) D168_150 (by decide)).trans ?_
    refine zif_c (fun h2_ => ?_) (fun h2_ => ?_)
    · refine (Q_iconst (v := 0) zm_168 (Or.inl (by decide)) D168_162 (by decide)).trans ?_
      refine ((Q_iastore zm_168 (Or.inl (by decide)) D168_163 zk_156.1 zk_156.2).trans (zdrop h1_)).trans ?_
      refine (Q_iinc (v := 1) (ls' := [some (.ref 127), some (.int i1), some (.int (i2 + (1 : Int32))), some (.int i3), some (.int i4), some (.int i5)]) zm_168 (Or.inl (by decide)) D168_164 rfl rfl (by decide) rfl).trans ?_
      refine (Q_goto (tgt := 42) zm_168 (Or.inl (by decide)) D168_167 (by decide)).trans ?_
      rfl
    · refine (Q_aload_n zm_168 (Or.inl (by decide)) D168_153 rfl).trans ?_
      refine (Q_getR (q := 132) zm_168 (Or.inl (by decide)) D168_154 zf_10_22 zs_10_6 zk_127.1 rfl).trans ?_
      refine (Q_iload_n zm_168 (Or.inl (by decide)) D168_157 rfl).trans ?_
      refine (Q_iaload zm_168 (Or.inl (by decide)) D168_158 zk_132.1 zk_132.2).trans ?_
      refine zand_c (fun h3_ => ?_)
      refine (Q_goto (tgt := 163) zm_168 (Or.inl (by decide)) D168_159 (by decide)).trans ?_
      refine ((Q_iastore zm_168 (Or.inl (by decide)) D168_163 zk_156.1 zk_156.2).trans (zdrop h1_)).trans ?_
      refine (Q_iinc (v := 1) (ls' := [some (.ref 127), some (.int i1), some (.int (i2 + (1 : Int32))), some (.int i3), some (.int i4), some (.int i5)]) zm_168 (Or.inl (by decide)) D168_164 rfl rfl (by decide) rfl).trans ?_
      refine (Q_goto (tgt := 42) zm_168 (Or.inl (by decide)) D168_167 (by decide)).trans ?_
      rfl
  · refine (Q_aload_n zm_168 (Or.inl (by decide)) D168_81 rfl).trans ?_
    refine (Q_getR (q := 152) zm_168 (Or.inl (by decide)) D168_82 zf_10_87 zs_10_40 zk_127.1 rfl).trans ?_
    refine (Q_iconst (v := 3) zm_168 (Or.inl (by decide)) D168_85 (by decide)).trans ?_
    refine (Q_iload_n zm_168 (Or.inl (by decide)) D168_86 rfl).trans ?_
    refine (Q_imul zm_168 (Or.inl (by decide)) D168_87).trans ?_
    refine (Q_iload zm_168 (Or.inl (by decide)) D168_88 rfl).trans ?_
    refine (Q_iadd zm_168 (Or.inl (by decide)) D168_90).trans ?_
    refine (Q_iload zm_168 (Or.inl (by decide)) D168_91 rfl).trans ?_
    refine (Q_if_eq (tgt := 114) zm_168 (Or.inl (by decide)) D168_93 (by decide)).trans ?_
    refine zif_c (fun h4_ => ?_) (fun h4_ => ?_)
    · refine (Q_iconst (v := 0) zm_168 (Or.inl (by decide)) D168_114 (by decide)).trans ?_
      refine (Q_iastore zm_168 (Or.inl (by decide)) D168_115 zk_152.1 zk_152.2).trans ?_
      refine zand_c (fun h5_ => ?_)
      refine (Q_iinc (v := 1) (ls' := [some (.ref 127), some (.int i1), some (.int i2), some (.int i3), some (.int i4), some (.int (i5 + (1 : Int32)))]) zm_168 (Or.inl (by decide)) D168_116 rfl rfl (by decide) rfl).trans ?_
      refine (Q_goto (tgt := 75) zm_168 (Or.inl (by decide)) D168_119 (by decide)).trans ?_
      rfl
    · refine (Q_sipush (v := 1000) zm_168 (Or.inl (by decide)) D168_96 (by decide)).trans ?_
      refine (Q_aload_n zm_168 (Or.inl (by decide)) D168_99 rfl).trans ?_
      refine (Q_getR (q := 131) zm_168 (Or.inl (by decide)) D168_100 zf_10_19 zs_10_5 zk_127.1 rfl).trans ?_
      refine (Q_iconst (v := 3) zm_168 (Or.inl (by decide)) D168_103 (by decide)).trans ?_
      refine (Q_iload_n zm_168 (Or.inl (by decide)) D168_104 rfl).trans ?_
      refine (Q_imul zm_168 (Or.inl (by decide)) D168_105).trans ?_
      refine (Q_iload zm_168 (Or.inl (by decide)) D168_106 rfl).trans ?_
      refine (Q_iadd zm_168 (Or.inl (by decide)) D168_108).trans ?_
      refine (Q_iaload zm_168 (Or.inl (by decide)) D168_109 zk_131.1 zk_131.2).trans ?_
      refine zand_c (fun h6_ => ?_)
      refine (Q_imul zm_168 (Or.inl (by decide)) D168_110).trans ?_
      refine (Q_goto (tgt := 115) zm_168 (Or.inl (by decide)) D168_111 (by decide)).trans ?_
      refine (Q_iastore zm_168 (Or.inl (by decide)) D168_115 zk_152.1 zk_152.2).trans ?_
      refine zand_c (fun h7_ => ?_)
      refine (Q_iinc (v := 1) (ls' := [some (.ref 127), some (.int i1), some (.int i2), some (.int i3), some (.int i4), some (.int (i5 + (1 : Int32)))]) zm_168 (Or.inl (by decide)) D168_116 rfl rfl (by decide) rfl).trans ?_
      refine (Q_goto (tgt := 75) zm_168 (Or.inl (by decide)) D168_119 (by decide)).trans ?_
      rfl

theorem b168_192 {d : Nat} {i1 : Int32} {i2 : Int32} {i3 : Int32} {a4 : Option Value} {a5 : Option Value} {ia : Nat → Nat → Int32} {la : Nat → Nat → Int64} {pl dr : Nat} {cp : Option Nat} {cw : Option Nat} {rp : Option Nat} {K : Option Value → zHP → Prop}  : zWP d 168 192 [some (.ref 127), some (.int i1), some (.int i2), some (.int i3), a4, a5] [] (ia, la, zRA pl dr cp cw rp) K = (if (3 : Int32) ≤ i3 then zWP d 168 172 [some (.ref 127), some (.int i1), some (.int (i2 + (1 : Int32))), some (.int i3), a4, a5] [] (ia, la, zRA pl dr cp cw rp) K else (vp_in (((3 : Int32) * (((12 : Int32) * i1) + i2)) + i3) 828 ∧ zWP d 168 192 [some (.ref 127), some (.int i1), some (.int i2), some (.int (i3 + (1 : Int32))), a4, a5] [] ((zu ia 158 ((((3 : Int32) * (((12 : Int32) * i1) + i2)) + i3)).toNatClampNeg (-2 : Int32)), la, zRA pl dr cp cw rp) K)) := by
  refine (Q_iload_n zm_168 (Or.inl (by decide)) D168_192 rfl).trans ?_
  refine (Q_iconst (v := 3) zm_168 (Or.inl (by decide)) D168_193 (by decide)).trans ?_
  refine (Q_ic_ge (tgt := 220) zm_168 (Or.inl (by decide)) D168_194 (by decide)).trans ?_
  refine zif_c (fun h0_ => ?_) (fun h0_ => ?_)
  · refine (Q_iinc (v := 1) (ls' := [some (.ref 127), some (.int i1), some (.int (i2 + (1 : Int32))), some (.int i3), a4, a5]) zm_168 (Or.inl (by decide)) D168_220 rfl rfl (by decide) rfl).trans ?_
    refine (Q_goto (tgt := 172) zm_168 (Or.inl (by decide)) D168_223 (by decide)).trans ?_
    rfl
  · refine (Q_aload_n zm_168 (Or.inl (by decide)) D168_197 rfl).trans ?_
    refine (Q_getR (q := 158) zm_168 (Or.inl (by decide)) D168_198 zf_10_105 zs_10_46 zk_127.1 rfl).trans ?_
    refine (Q_iconst (v := 3) zm_168 (Or.inl (by decide)) D168_201 (by decide)).trans ?_
    refine (Q_bipush (v := 12) zm_168 (Or.inl (by decide)) D168_202 (by decide)).trans ?_
    refine (Q_iload_n zm_168 (Or.inl (by decide)) D168_204 rfl).trans ?_
    refine (Q_imul zm_168 (Or.inl (by decide)) D168_205).trans ?_
    refine (Q_iload_n zm_168 (Or.inl (by decide)) D168_206 rfl).trans ?_
    refine (Q_iadd zm_168 (Or.inl (by decide)) D168_207).trans ?_
    refine (Q_imul zm_168 (Or.inl (by decide)) D168_208).trans ?_
    refine (Q_iload_n zm_168 (Or.inl (by decide)) D168_209 rfl).trans ?_
    refine (Q_iadd zm_168 (Or.inl (by decide)) D168_210).trans ?_
    refine (Q_bipush (v := -2) zm_168 (Or.inl (by decide)) D168_211 (by decide)).trans ?_
    refine (Q_iastore zm_168 (Or.inl (by decide)) D168_213 zk_158.1 zk_158.2).trans ?_
    refine zand_c (fun h1_ => ?_)
    refine (Q_iinc (v := 1) (ls' := [some (.ref 127), some (.int i1), some (.int i2), some (.int (i3 + (1 : Int32))), a4, a5]) zm_168 (Or.inl (by decide)) D168_214 rfl rfl (by decide) rfl).trans ?_
    refine (Q_goto (tgt := 192) zm_168 (Or.inl (by decide)) D168_217 (by decide)).trans ?_
    rfl

/-! HandsLetModel.begins()V -/
theorem D169_0 : decode prog_12_method_43_code 0 = .ok (.aload_n 0, 1) := by decide +kernel
theorem D169_1 : decode prog_12_method_43_code 1 = .ok (.iconst 0, 1) := by decide +kernel
theorem D169_2 : decode prog_12_method_43_code 2 = .ok (.invokevirtual 337, 3) := by decide +kernel
theorem D169_5 : decode prog_12_method_43_code 5 = .ok (.return_, 1) := by decide +kernel

theorem b169_0 {d : Nat}  {ia : Nat → Nat → Int32} {la : Nat → Nat → Int64} {pl dr : Nat} {cp : Option Nat} {cw : Option Nat} {rp : Option Nat} {K : Option Value → zHP → Prop}  : zWP (d + 1) 169 0 [some (.ref 127)] [] (ia, la, zRA pl dr cp cw rp) K = zWM d 168 [.ref 127, .int (0 : Int32)] (ia, la, zRA pl dr cp cw rp) (zK (d + 1) 169 5 [some (.ref 127)] [] K) := by
  refine (Q_aload_n zm_169 (Or.inl (by decide)) D169_0 rfl).trans ?_
  refine (Q_iconst (v := 0) zm_169 (Or.inl (by decide)) D169_1 (by decide)).trans ?_
  exact Q_callv (as := [.int (0 : Int32)]) (b := 127) (rest := []) zm_169 (Or.inl (by decide)) D169_2 zc_10_337 rfl zk_127.1 (by decide) (by decide +kernel) (by decide) (by simp [zcat, Value.category]) zm_168 rfl

theorem b169_5 {d : Nat}  {ia : Nat → Nat → Int32} {la : Nat → Nat → Int64} {pl dr : Nat} {cp : Option Nat} {cw : Option Nat} {rp : Option Nat} {K : Option Value → zHP → Prop}  : zWP d 169 5 [some (.ref 127)] [] (ia, la, zRA pl dr cp cw rp) K = K none (ia, la, zRA pl dr cp cw rp) := by
  exact Q_return zm_169 (Or.inl (by decide)) D169_5 rfl

/-! HandsLetModel.copies(II)V -/
theorem D170_0 : decode prog_12_method_44_code 0 = .ok (.aload_n 0, 1) := by decide +kernel
theorem D170_1 : decode prog_12_method_44_code 1 = .ok (.getfield 72, 3) := by decide +kernel
theorem D170_4 : decode prog_12_method_44_code 4 = .ok (.iload_n 1, 1) := by decide +kernel
theorem D170_5 : decode prog_12_method_44_code 5 = .ok (.aload_n 0, 1) := by decide +kernel
theorem D170_6 : decode prog_12_method_44_code 6 = .ok (.getfield 72, 3) := by decide +kernel
theorem D170_9 : decode prog_12_method_44_code 9 = .ok (.iload_n 2, 1) := by decide +kernel
theorem D170_10 : decode prog_12_method_44_code 10 = .ok (.iaload, 1) := by decide +kernel
theorem D170_11 : decode prog_12_method_44_code 11 = .ok (.iastore, 1) := by decide +kernel
theorem D170_12 : decode prog_12_method_44_code 12 = .ok (.aload_n 0, 1) := by decide +kernel
theorem D170_13 : decode prog_12_method_44_code 13 = .ok (.getfield 75, 3) := by decide +kernel
theorem D170_16 : decode prog_12_method_44_code 16 = .ok (.iload_n 1, 1) := by decide +kernel
theorem D170_17 : decode prog_12_method_44_code 17 = .ok (.aload_n 0, 1) := by decide +kernel
theorem D170_18 : decode prog_12_method_44_code 18 = .ok (.getfield 75, 3) := by decide +kernel
theorem D170_21 : decode prog_12_method_44_code 21 = .ok (.iload_n 2, 1) := by decide +kernel
theorem D170_22 : decode prog_12_method_44_code 22 = .ok (.iaload, 1) := by decide +kernel
theorem D170_23 : decode prog_12_method_44_code 23 = .ok (.iastore, 1) := by decide +kernel
theorem D170_24 : decode prog_12_method_44_code 24 = .ok (.aload_n 0, 1) := by decide +kernel
theorem D170_25 : decode prog_12_method_44_code 25 = .ok (.getfield 78, 3) := by decide +kernel
theorem D170_28 : decode prog_12_method_44_code 28 = .ok (.iload_n 1, 1) := by decide +kernel
theorem D170_29 : decode prog_12_method_44_code 29 = .ok (.aload_n 0, 1) := by decide +kernel
theorem D170_30 : decode prog_12_method_44_code 30 = .ok (.getfield 78, 3) := by decide +kernel
theorem D170_33 : decode prog_12_method_44_code 33 = .ok (.iload_n 2, 1) := by decide +kernel
theorem D170_34 : decode prog_12_method_44_code 34 = .ok (.iaload, 1) := by decide +kernel
theorem D170_35 : decode prog_12_method_44_code 35 = .ok (.iastore, 1) := by decide +kernel
theorem D170_36 : decode prog_12_method_44_code 36 = .ok (.aload_n 0, 1) := by decide +kernel
theorem D170_37 : decode prog_12_method_44_code 37 = .ok (.getfield 81, 3) := by decide +kernel
theorem D170_40 : decode prog_12_method_44_code 40 = .ok (.iload_n 1, 1) := by decide +kernel
theorem D170_41 : decode prog_12_method_44_code 41 = .ok (.aload_n 0, 1) := by decide +kernel
theorem D170_42 : decode prog_12_method_44_code 42 = .ok (.getfield 81, 3) := by decide +kernel
theorem D170_45 : decode prog_12_method_44_code 45 = .ok (.iload_n 2, 1) := by decide +kernel
theorem D170_46 : decode prog_12_method_44_code 46 = .ok (.iaload, 1) := by decide +kernel
theorem D170_47 : decode prog_12_method_44_code 47 = .ok (.iastore, 1) := by decide +kernel
theorem D170_48 : decode prog_12_method_44_code 48 = .ok (.aload_n 0, 1) := by decide +kernel
theorem D170_49 : decode prog_12_method_44_code 49 = .ok (.getfield 84, 3) := by decide +kernel
theorem D170_52 : decode prog_12_method_44_code 52 = .ok (.iload_n 1, 1) := by decide +kernel
theorem D170_53 : decode prog_12_method_44_code 53 = .ok (.aload_n 0, 1) := by decide +kernel
theorem D170_54 : decode prog_12_method_44_code 54 = .ok (.getfield 84, 3) := by decide +kernel
theorem D170_57 : decode prog_12_method_44_code 57 = .ok (.iload_n 2, 1) := by decide +kernel
theorem D170_58 : decode prog_12_method_44_code 58 = .ok (.iaload, 1) := by decide +kernel
theorem D170_59 : decode prog_12_method_44_code 59 = .ok (.iastore, 1) := by decide +kernel
theorem D170_60 : decode prog_12_method_44_code 60 = .ok (.iconst 0, 1) := by decide +kernel
theorem D170_61 : decode prog_12_method_44_code 61 = .ok (.istore_n 3, 1) := by decide +kernel
theorem D170_62 : decode prog_12_method_44_code 62 = .ok (.iload_n 3, 1) := by decide +kernel
theorem D170_63 : decode prog_12_method_44_code 63 = .ok (.bipush 6, 2) := by decide +kernel
theorem D170_65 : decode prog_12_method_44_code 65 = .ok (.if_icmp .ge 120, 3) := by decide +kernel
theorem D170_68 : decode prog_12_method_44_code 68 = .ok (.bipush 6, 2) := by decide +kernel
theorem D170_70 : decode prog_12_method_44_code 70 = .ok (.iload_n 1, 1) := by decide +kernel
theorem D170_71 : decode prog_12_method_44_code 71 = .ok (.imul, 1) := by decide +kernel
theorem D170_72 : decode prog_12_method_44_code 72 = .ok (.iload_n 3, 1) := by decide +kernel
theorem D170_73 : decode prog_12_method_44_code 73 = .ok (.iadd, 1) := by decide +kernel
theorem D170_74 : decode prog_12_method_44_code 74 = .ok (.istore 4, 2) := by decide +kernel
theorem D170_76 : decode prog_12_method_44_code 76 = .ok (.bipush 6, 2) := by decide +kernel
theorem D170_78 : decode prog_12_method_44_code 78 = .ok (.iload_n 2, 1) := by decide +kernel
theorem D170_79 : decode prog_12_method_44_code 79 = .ok (.imul, 1) := by decide +kernel
theorem D170_80 : decode prog_12_method_44_code 80 = .ok (.iload_n 3, 1) := by decide +kernel
theorem D170_81 : decode prog_12_method_44_code 81 = .ok (.iadd, 1) := by decide +kernel
theorem D170_82 : decode prog_12_method_44_code 82 = .ok (.istore 5, 2) := by decide +kernel
theorem D170_84 : decode prog_12_method_44_code 84 = .ok (.iconst 0, 1) := by decide +kernel
theorem D170_85 : decode prog_12_method_44_code 85 = .ok (.istore 6, 2) := by decide +kernel
theorem D170_87 : decode prog_12_method_44_code 87 = .ok (.iload 6, 2) := by decide +kernel
theorem D170_89 : decode prog_12_method_44_code 89 = .ok (.iconst 3, 1) := by decide +kernel
theorem D170_90 : decode prog_12_method_44_code 90 = .ok (.if_icmp .ge 33, 3) := by decide +kernel
theorem D170_93 : decode prog_12_method_44_code 93 = .ok (.aload_n 0, 1) := by decide +kernel
theorem D170_94 : decode prog_12_method_44_code 94 = .ok (.getfield 87, 3) := by decide +kernel
theorem D170_97 : decode prog_12_method_44_code 97 = .ok (.iconst 3, 1) := by decide +kernel
theorem D170_98 : decode prog_12_method_44_code 98 = .ok (.iload 4, 2) := by decide +kernel
theorem D170_100 : decode prog_12_method_44_code 100 = .ok (.imul, 1) := by decide +kernel
theorem D170_101 : decode prog_12_method_44_code 101 = .ok (.iload 6, 2) := by decide +kernel
theorem D170_103 : decode prog_12_method_44_code 103 = .ok (.iadd, 1) := by decide +kernel
theorem D170_104 : decode prog_12_method_44_code 104 = .ok (.aload_n 0, 1) := by decide +kernel
theorem D170_105 : decode prog_12_method_44_code 105 = .ok (.getfield 87, 3) := by decide +kernel
theorem D170_108 : decode prog_12_method_44_code 108 = .ok (.iconst 3, 1) := by decide +kernel
theorem D170_109 : decode prog_12_method_44_code 109 = .ok (.iload 5, 2) := by decide +kernel
theorem D170_111 : decode prog_12_method_44_code 111 = .ok (.imul, 1) := by decide +kernel
theorem D170_112 : decode prog_12_method_44_code 112 = .ok (.iload 6, 2) := by decide +kernel
theorem D170_114 : decode prog_12_method_44_code 114 = .ok (.iadd, 1) := by decide +kernel
theorem D170_115 : decode prog_12_method_44_code 115 = .ok (.iaload, 1) := by decide +kernel
theorem D170_116 : decode prog_12_method_44_code 116 = .ok (.iastore, 1) := by decide +kernel
theorem D170_117 : decode prog_12_method_44_code 117 = .ok (.iinc 6 1, 3) := by decide +kernel
theorem D170_120 : decode prog_12_method_44_code 120 = .ok (.goto (-33), 3) := by decide +kernel
theorem D170_123 : decode prog_12_method_44_code 123 = .ok (.aload_n 0, 1) := by decide +kernel
theorem D170_124 : decode prog_12_method_44_code 124 = .ok (.getfield 90, 3) := by decide +kernel
theorem D170_127 : decode prog_12_method_44_code 127 = .ok (.iload 4, 2) := by decide +kernel
theorem D170_129 : decode prog_12_method_44_code 129 = .ok (.aload_n 0, 1) := by decide +kernel
theorem D170_130 : decode prog_12_method_44_code 130 = .ok (.getfield 90, 3) := by decide +kernel
theorem D170_133 : decode prog_12_method_44_code 133 = .ok (.iload 5, 2) := by decide +kernel
theorem D170_135 : decode prog_12_method_44_code 135 = .ok (.iaload, 1) := by decide +kernel
theorem D170_136 : decode prog_12_method_44_code 136 = .ok (.iastore, 1) := by decide +kernel
theorem D170_137 : decode prog_12_method_44_code 137 = .ok (.aload_n 0, 1) := by decide +kernel
theorem D170_138 : decode prog_12_method_44_code 138 = .ok (.getfield 93, 3) := by decide +kernel
theorem D170_141 : decode prog_12_method_44_code 141 = .ok (.iload 4, 2) := by decide +kernel
theorem D170_143 : decode prog_12_method_44_code 143 = .ok (.aload_n 0, 1) := by decide +kernel
theorem D170_144 : decode prog_12_method_44_code 144 = .ok (.getfield 93, 3) := by decide +kernel
theorem D170_147 : decode prog_12_method_44_code 147 = .ok (.iload 5, 2) := by decide +kernel
theorem D170_149 : decode prog_12_method_44_code 149 = .ok (.iaload, 1) := by decide +kernel
theorem D170_150 : decode prog_12_method_44_code 150 = .ok (.iastore, 1) := by decide +kernel
theorem D170_151 : decode prog_12_method_44_code 151 = .ok (.aload_n 0, 1) := by decide +kernel
theorem D170_152 : decode prog_12_method_44_code 152 = .ok (.getfield 96, 3) := by decide +kernel
theorem D170_155 : decode prog_12_method_44_code 155 = .ok (.iload 4, 2) := by decide +kernel
theorem D170_157 : decode prog_12_method_44_code 157 = .ok (.aload_n 0, 1) := by decide +kernel
theorem D170_158 : decode prog_12_method_44_code 158 = .ok (.getfield 96, 3) := by decide +kernel
theorem D170_161 : decode prog_12_method_44_code 161 = .ok (.iload 5, 2) := by decide +kernel
theorem D170_163 : decode prog_12_method_44_code 163 = .ok (.iaload, 1) := by decide +kernel
theorem D170_164 : decode prog_12_method_44_code 164 = .ok (.iastore, 1) := by decide +kernel
theorem D170_165 : decode prog_12_method_44_code 165 = .ok (.aload_n 0, 1) := by decide +kernel
theorem D170_166 : decode prog_12_method_44_code 166 = .ok (.getfield 99, 3) := by decide +kernel
theorem D170_169 : decode prog_12_method_44_code 169 = .ok (.iload 4, 2) := by decide +kernel
theorem D170_171 : decode prog_12_method_44_code 171 = .ok (.aload_n 0, 1) := by decide +kernel
theorem D170_172 : decode prog_12_method_44_code 172 = .ok (.getfield 99, 3) := by decide +kernel
theorem D170_175 : decode prog_12_method_44_code 175 = .ok (.iload 5, 2) := by decide +kernel
theorem D170_177 : decode prog_12_method_44_code 177 = .ok (.iaload, 1) := by decide +kernel
theorem D170_178 : decode prog_12_method_44_code 178 = .ok (.iastore, 1) := by decide +kernel
theorem D170_179 : decode prog_12_method_44_code 179 = .ok (.iinc 3 1, 3) := by decide +kernel
theorem D170_182 : decode prog_12_method_44_code 182 = .ok (.goto (-120), 3) := by decide +kernel
theorem D170_185 : decode prog_12_method_44_code 185 = .ok (.iconst 0, 1) := by decide +kernel
theorem D170_186 : decode prog_12_method_44_code 186 = .ok (.istore_n 3, 1) := by decide +kernel
theorem D170_187 : decode prog_12_method_44_code 187 = .ok (.iload_n 3, 1) := by decide +kernel
theorem D170_188 : decode prog_12_method_44_code 188 = .ok (.bipush 12, 2) := by decide +kernel
theorem D170_190 : decode prog_12_method_44_code 190 = .ok (.if_icmp .ge 78, 3) := by decide +kernel
theorem D170_193 : decode prog_12_method_44_code 193 = .ok (.bipush 12, 2) := by decide +kernel
theorem D170_195 : decode prog_12_method_44_code 195 = .ok (.iload_n 1, 1) := by decide +kernel
theorem D170_196 : decode prog_12_method_44_code 196 = .ok (.imul, 1) := by decide +kernel
theorem D170_197 : decode prog_12_method_44_code 197 = .ok (.iload_n 3, 1) := by decide +kernel
theorem D170_198 : decode prog_12_method_44_code 198 = .ok (.iadd, 1) := by decide +kernel
theorem D170_199 : decode prog_12_method_44_code 199 = .ok (.istore 4, 2) := by decide +kernel
theorem D170_201 : decode prog_12_method_44_code 201 = .ok (.bipush 12, 2) := by decide +kernel
theorem D170_203 : decode prog_12_method_44_code 203 = .ok (.iload_n 2, 1) := by decide +kernel
theorem D170_204 : decode prog_12_method_44_code 204 = .ok (.imul, 1) := by decide +kernel
theorem D170_205 : decode prog_12_method_44_code 205 = .ok (.iload_n 3, 1) := by decide +kernel
theorem D170_206 : decode prog_12_method_44_code 206 = .ok (.iadd, 1) := by decide +kernel
theorem D170_207 : decode prog_12_method_44_code 207 = .ok (.istore 5, 2) := by decide +kernel
theorem D170_209 : decode prog_12_method_44_code 209 = .ok (.aload_n 0, 1) := by decide +kernel
theorem D170_210 : decode prog_12_method_44_code 210 = .ok (.getfield 102, 3) := by decide +kernel
theorem D170_213 : decode prog_12_method_44_code 213 = .ok (.iload 4, 2) := by decide +kernel
theorem D170_215 : decode prog_12_method_44_code 215 = .ok (.aload_n 0, 1) := by decide +kernel
theorem D170_216 : decode prog_12_method_44_code 216 = .ok (.getfield 102, 3) := by decide +kernel
theorem D170_219 : decode prog_12_method_44_code 219 = .ok (.iload 5, 2) := by decide +kernel
theorem D170_221 : decode prog_12_method_44_code 221 = .ok (.iaload, 1) := by decide +kernel
theorem D170_222 : decode prog_12_method_44_code 222 = .ok (.iastore, 1) := by decide +kernel
theorem D170_223 : decode prog_12_method_44_code 223 = .ok (.iconst 0, 1) := by decide +kernel
theorem D170_224 : decode prog_12_method_44_code 224 = .ok (.istore 6, 2) := by decide +kernel
theorem D170_226 : decode prog_12_method_44_code 226 = .ok (.iload 6, 2) := by decide +kernel
theorem D170_228 : decode prog_12_method_44_code 228 = .ok (.iconst 3, 1) := by decide +kernel
theorem D170_229 : decode prog_12_method_44_code 229 = .ok (.if_icmp .ge 33, 3) := by decide +kernel
theorem D170_232 : decode prog_12_method_44_code 232 = .ok (.aload_n 0, 1) := by decide +kernel
theorem D170_233 : decode prog_12_method_44_code 233 = .ok (.getfield 105, 3) := by decide +kernel
theorem D170_236 : decode prog_12_method_44_code 236 = .ok (.iconst 3, 1) := by decide +kernel
theorem D170_237 : decode prog_12_method_44_code 237 = .ok (.iload 4, 2) := by decide +kernel
theorem D170_239 : decode prog_12_method_44_code 239 = .ok (.imul, 1) := by decide +kernel
theorem D170_240 : decode prog_12_method_44_code 240 = .ok (.iload 6, 2) := by decide +kernel
theorem D170_242 : decode prog_12_method_44_code 242 = .ok (.iadd, 1) := by decide +kernel
theorem D170_243 : decode prog_12_method_44_code 243 = .ok (.aload_n 0, 1) := by decide +kernel
theorem D170_244 : decode prog_12_method_44_code 244 = .ok (.getfield 105, 3) := by decide +kernel
theorem D170_247 : decode prog_12_method_44_code 247 = .ok (.iconst 3, 1) := by decide +kernel
theorem D170_248 : decode prog_12_method_44_code 248 = .ok (.iload 5, 2) := by decide +kernel
theorem D170_250 : decode prog_12_method_44_code 250 = .ok (.imul, 1) := by decide +kernel
theorem D170_251 : decode prog_12_method_44_code 251 = .ok (.iload 6, 2) := by decide +kernel
theorem D170_253 : decode prog_12_method_44_code 253 = .ok (.iadd, 1) := by decide +kernel
theorem D170_254 : decode prog_12_method_44_code 254 = .ok (.iaload, 1) := by decide +kernel
theorem D170_255 : decode prog_12_method_44_code 255 = .ok (.iastore, 1) := by decide +kernel
theorem D170_256 : decode prog_12_method_44_code 256 = .ok (.iinc 6 1, 3) := by decide +kernel
theorem D170_259 : decode prog_12_method_44_code 259 = .ok (.goto (-33), 3) := by decide +kernel
theorem D170_262 : decode prog_12_method_44_code 262 = .ok (.iinc 3 1, 3) := by decide +kernel
theorem D170_265 : decode prog_12_method_44_code 265 = .ok (.goto (-78), 3) := by decide +kernel
theorem D170_268 : decode prog_12_method_44_code 268 = .ok (.return_, 1) := by decide +kernel

theorem b170_0 {d : Nat} {i1 : Int32} {i2 : Int32} {ia : Nat → Nat → Int32} {la : Nat → Nat → Int64} {pl dr : Nat} {cp : Option Nat} {cw : Option Nat} {rp : Option Nat} {K : Option Value → zHP → Prop}  : zWP d 170 0 [some (.ref 127), some (.int i1), some (.int i2), none, none, none, none] [] (ia, la, zRA pl dr cp cw rp) K = (vp_in i2 23 ∧ (vp_in i1 23 ∧ zWP d 170 62 [some (.ref 127), some (.int i1), some (.int i2), some (.int (0 : Int32)), none, none, none] [] ((zu (zu (zu (zu (zu ia 147 (i1).toNatClampNeg (ia 147 (i2).toNatClampNeg)) 148 (i1).toNatClampNeg ((zu ia 147 (i1).toNatClampNeg (ia 147 (i2).toNatClampNeg)) 148 (i2).toNatClampNeg)) 149 (i1).toNatClampNeg ((zu (zu ia 147 (i1).toNatClampNeg (ia 147 (i2).toNatClampNeg)) 148 (i1).toNatClampNeg ((zu ia 147 (i1).toNatClampNeg (ia 147 (i2).toNatClampNeg)) 148 (i2).toNatClampNeg)) 149 (i2).toNatClampNeg)) 150 (i1).toNatClampNeg ((zu (zu (zu ia 147 (i1).toNatClampNeg (ia 147 (i2).toNatClampNeg)) 148 (i1).toNatClampNeg ((zu ia 147 (i1).toNatClampNeg (ia 147 (i2).toNatClampNeg)) 148 (i2).toNatClampNeg)) 149 (i1).toNatClampNeg ((zu (zu ia 147 (i1).toNatClampNeg (ia 147 (i2).toNatClampNeg)) 148 (i1).toNatClampNeg ((zu ia 147 (i1).toNatClampNeg (ia 147 (i2).toNatClampNeg)) 148 (i2).toNatClampNeg)) 149 (i2).toNatClampNeg)) 150 (i2).toNatClampNeg)) 151 (i1).toNatClampNeg ((zu (zu (zu (zu ia 147 (i1).toNatClampNeg (ia 147 (i2).toNatClampNeg)) 148 (i1).toNatClampNeg ((zu ia 147 (i1).toNatClampNeg (ia 147 (i2).toNatClampNeg)) 148 (i2).toNatClampNeg)) 149 (i1).toNatClampNeg ((zu (zu ia 147 (i1).toNatClampNeg (ia 147 (i2).toNatClampNeg)) 148 (i1).toNatClampNeg ((zu ia 147 (i1).toNatClampNeg (ia 147 (i2).toNatClampNeg)) 148 (i2).toNatClampNeg)) 149 (i2).toNatClampNeg)) 150 (i1).toNatClampNeg ((zu (zu (zu ia 147 (i1).toNatClampNeg (ia 147 (i2).toNatClampNeg)) 148 (i1).toNatClampNeg ((zu ia 147 (i1).toNatClampNeg (ia 147 (i2).toNatClampNeg)) 148 (i2).toNatClampNeg)) 149 (i1).toNatClampNeg ((zu (zu ia 147 (i1).toNatClampNeg (ia 147 (i2).toNatClampNeg)) 148 (i1).toNatClampNeg ((zu ia 147 (i1).toNatClampNeg (ia 147 (i2).toNatClampNeg)) 148 (i2).toNatClampNeg)) 149 (i2).toNatClampNeg)) 150 (i2).toNatClampNeg)) 151 (i2).toNatClampNeg)), la, zRA pl dr cp cw rp) K)) := by
  refine (Q_aload_n zm_170 (Or.inl (by decide)) D170_0 rfl).trans ?_
  refine (Q_getR (q := 147) zm_170 (Or.inl (by decide)) D170_1 zf_10_72 zs_10_35 zk_127.1 rfl).trans ?_
  refine (Q_iload_n zm_170 (Or.inl (by decide)) D170_4 rfl).trans ?_
  refine (Q_aload_n zm_170 (Or.inl (by decide)) D170_5 rfl).trans ?_
  refine (Q_getR (q := 147) zm_170 (Or.inl (by decide)) D170_6 zf_10_72 zs_10_35 zk_127.1 rfl).trans ?_
  refine (Q_iload_n zm_170 (Or.inl (by decide)) D170_9 rfl).trans ?_
  refine (Q_iaload zm_170 (Or.inl (by decide)) D170_10 zk_147.1 zk_147.2).trans ?_
  refine zand_c (fun h0_ => ?_)
  refine (Q_iastore zm_170 (Or.inl (by decide)) D170_11 zk_147.1 zk_147.2).trans ?_
  refine zand_c (fun h1_ => ?_)
  refine (Q_aload_n zm_170 (Or.inl (by decide)) D170_12 rfl).trans ?_
  refine (Q_getR (q := 148) zm_170 (Or.inl (by decide)) D170_13 zf_10_75 zs_10_36 zk_127.1 rfl).trans ?_
  refine (Q_iload_n zm_170 (Or.inl (by decide)) D170_16 rfl).trans ?_
  refine (Q_aload_n zm_170 (Or.inl (by decide)) D170_17 rfl).trans ?_
  refine (Q_getR (q := 148) zm_170 (Or.inl (by decide)) D170_18 zf_10_75 zs_10_36 zk_127.1 rfl).trans ?_
  refine (Q_iload_n zm_170 (Or.inl (by decide)) D170_21 rfl).trans ?_
  refine ((Q_iaload zm_170 (Or.inl (by decide)) D170_22 zk_148.1 zk_148.2).trans (zdrop h0_)).trans ?_
  refine ((Q_iastore zm_170 (Or.inl (by decide)) D170_23 zk_148.1 zk_148.2).trans (zdrop h1_)).trans ?_
  refine (Q_aload_n zm_170 (Or.inl (by decide)) D170_24 rfl).trans ?_
  refine (Q_getR (q := 149) zm_170 (Or.inl (by decide)) D170_25 zf_10_78 zs_10_37 zk_127.1 rfl).trans ?_
  refine (Q_iload_n zm_170 (Or.inl (by decide)) D170_28 rfl).trans ?_
  refine (Q_aload_n zm_170 (Or.inl (by decide)) D170_29 rfl).trans ?_
  refine (Q_getR (q := 149) zm_170 (Or.inl (by decide)) D170_30 zf_10_78 zs_10_37 zk_127.1 rfl).trans ?_
  refine (Q_iload_n zm_170 (Or.inl (by decide)) D170_33 rfl).trans ?_
  refine ((Q_iaload zm_170 (Or.inl (by decide)) D170_34 zk_149.1 zk_149.2).trans (zdrop h0_)).trans ?_
  refine ((Q_iastore zm_170 (Or.inl (by decide)) D170_35 zk_149.1 zk_149.2).trans (zdrop h1_)).trans ?_
  refine (Q_aload_n zm_170 (Or.inl (by decide)) D170_36 rfl).trans ?_
  refine (Q_getR (q := 150) zm_170 (Or.inl (by decide)) D170_37 zf_10_81 zs_10_38 zk_127.1 rfl).trans ?_
  refine (Q_iload_n zm_170 (Or.inl (by decide)) D170_40 rfl).trans ?_
  refine (Q_aload_n zm_170 (Or.inl (by decide)) D170_41 rfl).trans ?_
  refine (Q_getR (q := 150) zm_170 (Or.inl (by decide)) D170_42 zf_10_81 zs_10_38 zk_127.1 rfl).trans ?_
  refine (Q_iload_n zm_170 (Or.inl (by decide)) D170_45 rfl).trans ?_
  refine ((Q_iaload zm_170 (Or.inl (by decide)) D170_46 zk_150.1 zk_150.2).trans (zdrop h0_)).trans ?_
  refine ((Q_iastore zm_170 (Or.inl (by decide)) D170_47 zk_150.1 zk_150.2).trans (zdrop h1_)).trans ?_
  refine (Q_aload_n zm_170 (Or.inl (by decide)) D170_48 rfl).trans ?_
  refine (Q_getR (q := 151) zm_170 (Or.inl (by decide)) D170_49 zf_10_84 zs_10_39 zk_127.1 rfl).trans ?_
  refine (Q_iload_n zm_170 (Or.inl (by decide)) D170_52 rfl).trans ?_
  refine (Q_aload_n zm_170 (Or.inl (by decide)) D170_53 rfl).trans ?_
  refine (Q_getR (q := 151) zm_170 (Or.inl (by decide)) D170_54 zf_10_84 zs_10_39 zk_127.1 rfl).trans ?_
  refine (Q_iload_n zm_170 (Or.inl (by decide)) D170_57 rfl).trans ?_
  refine ((Q_iaload zm_170 (Or.inl (by decide)) D170_58 zk_151.1 zk_151.2).trans (zdrop h0_)).trans ?_
  refine ((Q_iastore zm_170 (Or.inl (by decide)) D170_59 zk_151.1 zk_151.2).trans (zdrop h1_)).trans ?_
  refine (Q_iconst (v := 0) zm_170 (Or.inl (by decide)) D170_60 (by decide)).trans ?_
  refine (Q_istore_n (ls' := [some (.ref 127), some (.int i1), some (.int i2), some (.int (0 : Int32)), none, none, none]) zm_170 (Or.inl (by decide)) D170_61 rfl (Nat.le_of_ble_eq_true rfl) rfl).trans ?_
  rfl

theorem b170_62 {d : Nat} {i1 : Int32} {i2 : Int32} {i3 : Int32} {a4 : Option Value} {a5 : Option Value} {a6 : Option Value} {ia : Nat → Nat → Int32} {la : Nat → Nat → Int64} {pl dr : Nat} {cp : Option Nat} {cw : Option Nat} {rp : Option Nat} {K : Option Value → zHP → Prop}  : zWP d 170 62 [some (.ref 127), some (.int i1), some (.int i2), some (.int i3), a4, a5, a6] [] (ia, la, zRA pl dr cp cw rp) K = (if (6 : Int32) ≤ i3 then zWP d 170 187 [some (.ref 127), some (.int i1), some (.int i2), some (.int (0 : Int32)), a4, a5, a6] [] (ia, la, zRA pl dr cp cw rp) K else zWP d 170 87 [some (.ref 127), some (.int i1), some (.int i2), some (.int i3), some (.int (((6 : Int32) * i1) + i3)), some (.int (((6 : Int32) * i2) + i3)), some (.int (0 : Int32))] [] (ia, la, zRA pl dr cp cw rp) K) := by
  refine (Q_iload_n zm_170 (Or.inl (by decide)) D170_62 rfl).trans ?_
  refine (Q_bipush (v := 6) zm_170 (Or.inl (by decide)) D170_63 (by decide)).trans ?_
  refine (Q_ic_ge (tgt := 185) zm_170 (Or.inl (by decide)) D170_65 (by decide)).trans ?_
  refine zif_c (fun h0_ => ?_) (fun h0_ => ?_)
  · refine (Q_iconst (v := 0) zm_170 (Or.inl (by decide)) D170_185 (by decide)).trans ?_
    refine (Q_istore_n (ls' := [some (.ref 127), some (.int i1), some (.int i2), some (.int (0 : Int32)), a4, a5, a6]) zm_170 (Or.inl (by decide)) D170_186 rfl (Nat.le_of_ble_eq_true rfl) rfl).trans ?_
    rfl
  · refine (Q_bipush (v := 6) zm_170 (Or.inl (by decide)) D170_68 (by decide)).trans ?_
    refine (Q_iload_n zm_170 (Or.inl (by decide)) D170_70 rfl).trans ?_
    refine (Q_imul zm_170 (Or.inl (by decide)) D170_71).trans ?_
    refine (Q_iload_n zm_170 (Or.inl (by decide)) D170_72 rfl).trans ?_
    refine (Q_iadd zm_170 (Or.inl (by decide)) D170_73).trans ?_
    refine (Q_istore (ls' := [some (.ref 127), some (.int i1), some (.int i2), some (.int i3), some (.int (((6 : Int32) * i1) + i3)), a5, a6]) zm_170 (Or.inl (by decide)) D170_74 rfl (Nat.le_of_ble_eq_true rfl) rfl).trans ?_
    refine (Q_bipush (v := 6) zm_170 (Or.inl (by decide)) D170_76 (by decide)).trans ?_
    refine (Q_iload_n zm_170 (Or.inl (by decide)) D170_78 rfl).trans ?_
    refine (Q_imul zm_170 (Or.inl (by decide)) D170_79).trans ?_
    refine (Q_iload_n zm_170 (Or.inl (by decide)) D170_80 rfl).trans ?_
    refine (Q_iadd zm_170 (Or.inl (by decide)) D170_81).trans ?_
    refine (Q_istore (ls' := [some (.ref 127), some (.int i1), some (.int i2), some (.int i3), some (.int (((6 : Int32) * i1) + i3)), some (.int (((6 : Int32) * i2) + i3)), a6]) zm_170 (Or.inl (by decide)) D170_82 rfl (Nat.le_of_ble_eq_true rfl) rfl).trans ?_
    refine (Q_iconst (v := 0) zm_170 (Or.inl (by decide)) D170_84 (by decide)).trans ?_
    refine (Q_istore (ls' := [some (.ref 127), some (.int i1), some (.int i2), some (.int i3), some (.int (((6 : Int32) * i1) + i3)), some (.int (((6 : Int32) * i2) + i3)), some (.int (0 : Int32))]) zm_170 (Or.inl (by decide)) D170_85 rfl (Nat.le_of_ble_eq_true rfl) rfl).trans ?_
    rfl

theorem b170_187 {d : Nat} {i1 : Int32} {i2 : Int32} {i3 : Int32} {a4 : Option Value} {a5 : Option Value} {a6 : Option Value} {ia : Nat → Nat → Int32} {la : Nat → Nat → Int64} {pl dr : Nat} {cp : Option Nat} {cw : Option Nat} {rp : Option Nat} {K : Option Value → zHP → Prop}  : zWP d 170 187 [some (.ref 127), some (.int i1), some (.int i2), some (.int i3), a4, a5, a6] [] (ia, la, zRA pl dr cp cw rp) K = (if (12 : Int32) ≤ i3 then K none (ia, la, zRA pl dr cp cw rp) else (vp_in (((12 : Int32) * i2) + i3) 276 ∧ (vp_in (((12 : Int32) * i1) + i3) 276 ∧ zWP d 170 226 [some (.ref 127), some (.int i1), some (.int i2), some (.int i3), some (.int (((12 : Int32) * i1) + i3)), some (.int (((12 : Int32) * i2) + i3)), some (.int (0 : Int32))] [] ((zu ia 157 ((((12 : Int32) * i1) + i3)).toNatClampNeg (ia 157 ((((12 : Int32) * i2) + i3)).toNatClampNeg)), la, zRA pl dr cp cw rp) K))) := by
  refine (Q_iload_n zm_170 (Or.inl (by decide)) D170_187 rfl).trans ?_
  refine (Q_bipush (v := 12) zm_170 (Or.inl (by decide)) D170_188 (by decide)).trans ?_
  refine (Q_ic_ge (tgt := 268) zm_170 (Or.inl (by decide)) D170_190 (by decide)).trans ?_
  refine zif_c (fun h0_ => ?_) (fun h0_ => ?_)
  · exact Q_return zm_170 (Or.inl (by decide)) D170_268 rfl
  · refine (Q_bipush (v := 12) zm_170 (Or.inl (by decide)) D170_193 (by decide)).trans ?_
    refine (Q_iload_n zm_170 (Or.inl (by decide)) D170_195 rfl).trans ?_
    refine (Q_imul zm_170 (Or.inl (by decide)) D170_196).trans ?_
    refine (Q_iload_n zm_170 (Or.inl (by decide)) D170_197 rfl).trans ?_
    refine (Q_iadd zm_170 (Or.inl (by decide)) D170_198).trans ?_
    refine (Q_istore (ls' := [some (.ref 127), some (.int i1), some (.int i2), some (.int i3), some (.int (((12 : Int32) * i1) + i3)), a5, a6]) zm_170 (Or.inl (by decide)) D170_199 rfl (Nat.le_of_ble_eq_true rfl) rfl).trans ?_
    refine (Q_bipush (v := 12) zm_170 (Or.inl (by decide)) D170_201 (by decide)).trans ?_
    refine (Q_iload_n zm_170 (Or.inl (by decide)) D170_203 rfl).trans ?_
    refine (Q_imul zm_170 (Or.inl (by decide)) D170_204).trans ?_
    refine (Q_iload_n zm_170 (Or.inl (by decide)) D170_205 rfl).trans ?_
    refine (Q_iadd zm_170 (Or.inl (by decide)) D170_206).trans ?_
    refine (Q_istore (ls' := [some (.ref 127), some (.int i1), some (.int i2), some (.int i3), some (.int (((12 : Int32) * i1) + i3)), some (.int (((12 : Int32) * i2) + i3)), a6]) zm_170 (Or.inl (by decide)) D170_207 rfl (Nat.le_of_ble_eq_true rfl) rfl).trans ?_
    refine (Q_aload_n zm_170 (Or.inl (by decide)) D170_209 rfl).trans ?_
    refine (Q_getR (q := 157) zm_170 (Or.inl (by decide)) D170_210 zf_10_102 zs_10_45 zk_127.1 rfl).trans ?_
    refine (Q_iload zm_170 (Or.inl (by decide)) D170_213 rfl).trans ?_
    refine (Q_aload_n zm_170 (Or.inl (by decide)) D170_215 rfl).trans ?_
    refine (Q_getR (q := 157) zm_170 (Or.inl (by decide)) D170_216 zf_10_102 zs_10_45 zk_127.1 rfl).trans ?_
    refine (Q_iload zm_170 (Or.inl (by decide)) D170_219 rfl).trans ?_
    refine (Q_iaload zm_170 (Or.inl (by decide)) D170_221 zk_157.1 zk_157.2).trans ?_
    refine zand_c (fun h1_ => ?_)
    refine (Q_iastore zm_170 (Or.inl (by decide)) D170_222 zk_157.1 zk_157.2).trans ?_
    refine zand_c (fun h2_ => ?_)
    refine (Q_iconst (v := 0) zm_170 (Or.inl (by decide)) D170_223 (by decide)).trans ?_
    refine (Q_istore (ls' := [some (.ref 127), some (.int i1), some (.int i2), some (.int i3), some (.int (((12 : Int32) * i1) + i3)), some (.int (((12 : Int32) * i2) + i3)), some (.int (0 : Int32))]) zm_170 (Or.inl (by decide)) D170_224 rfl (Nat.le_of_ble_eq_true rfl) rfl).trans ?_
    rfl

theorem b170_87 {d : Nat} {i1 : Int32} {i2 : Int32} {i3 : Int32} {i4 : Int32} {i5 : Int32} {i6 : Int32} {ia : Nat → Nat → Int32} {la : Nat → Nat → Int64} {pl dr : Nat} {cp : Option Nat} {cw : Option Nat} {rp : Option Nat} {K : Option Value → zHP → Prop}  : zWP d 170 87 [some (.ref 127), some (.int i1), some (.int i2), some (.int i3), some (.int i4), some (.int i5), some (.int i6)] [] (ia, la, zRA pl dr cp cw rp) K = (if (3 : Int32) ≤ i6 then (vp_in i5 138 ∧ (vp_in i4 138 ∧ zWP d 170 62 [some (.ref 127), some (.int i1), some (.int i2), some (.int (i3 + (1 : Int32))), some (.int i4), some (.int i5), some (.int i6)] [] ((zu (zu (zu (zu ia 153 (i4).toNatClampNeg (ia 153 (i5).toNatClampNeg)) 154 (i4).toNatClampNeg ((zu ia 153 (i4).toNatClampNeg (ia 153 (i5).toNatClampNeg)) 154 (i5).toNatClampNeg)) 155 (i4).toNatClampNeg ((zu (zu ia 153 (i4).toNatClampNeg (ia 153 (i5).toNatClampNeg)) 154 (i4).toNatClampNeg ((zu ia 153 (i4).toNatClampNeg (ia 153 (i5).toNatClampNeg)) 154 (i5).toNatClampNeg)) 155 (i5).toNatClampNeg)) 156 (i4).toNatClampNeg ((zu (zu (zu ia 153 (i4).toNatClampNeg (ia 153 (i5).toNatClampNeg)) 154 (i4).toNatClampNeg ((zu ia 153 (i4).toNatClampNeg (ia 153 (i5).toNatClampNeg)) 154 (i5).toNatClampNeg)) 155 (i4).toNatClampNeg ((zu (zu ia 153 (i4).toNatClampNeg (ia 153 (i5).toNatClampNeg)) 154 (i4).toNatClampNeg ((zu ia 153 (i4).toNatClampNeg (ia 153 (i5).toNatClampNeg)) 154 (i5).toNatClampNeg)) 155 (i5).toNatClampNeg)) 156 (i5).toNatClampNeg)), la, zRA pl dr cp cw rp) K)) else (vp_in (((3 : Int32) * i5) + i6) 414 ∧ (vp_in (((3 : Int32) * i4) + i6) 414 ∧ zWP d 170 87 [some (.ref 127), some (.int i1), some (.int i2), some (.int i3), some (.int i4), some (.int i5), some (.int (i6 + (1 : Int32)))] [] ((zu ia 152 ((((3 : Int32) * i4) + i6)).toNatClampNeg (ia 152 ((((3 : Int32) * i5) + i6)).toNatClampNeg)), la, zRA pl dr cp cw rp) K))) := by
  refine (Q_iload zm_170 (Or.inl (by decide)) D170_87 rfl).trans ?_
  refine (Q_iconst (v := 3) zm_170 (Or.inl (by decide)) D170_89 (by decide)).trans ?_
  refine (Q_ic_ge (tgt := 123) zm_170 (Or.inl (by decide)) D170_90 (by decide)).trans ?_
  refine zif_c (fun h0_ => ?_) (fun h0_ => ?_)
  · refine (Q_aload_n zm_170 (Or.inl (by decide)) D170_123 rfl).trans ?_
    refine (Q_getR (q := 153) zm_170 (Or.inl (by decide)) D170_124 zf_10_90 zs_10_41 zk_127.1 rfl).trans ?_
    refine (Q_iload zm_170 (Or.inl (by decide)) D170_127 rfl).trans ?_
    refine (Q_aload_n zm_170 (Or.inl (by decide)) D170_129 rfl).trans ?_
    refine (Q_getR (q := 153) zm_170 (Or.inl (by decide)) D170_130 zf_10_90 zs_10_41 zk_127.1 rfl).trans ?_
    refine (Q_iload zm_170 (Or.inl (by decide)) D170_133 rfl).trans ?_
    refine (Q_iaload zm_170 (Or.inl (by decide)) D170_135 zk_153.1 zk_153.2).trans ?_
    refine zand_c (fun h1_ => ?_)
    refine (Q_iastore zm_170 (Or.inl (by decide)) D170_136 zk_153.1 zk_153.2).trans ?_
    refine zand_c (fun h2_ => ?_)
    refine (Q_aload_n zm_170 (Or.inl (by decide)) D170_137 rfl).trans ?_
    refine (Q_getR (q := 154) zm_170 (Or.inl (by decide)) D170_138 zf_10_93 zs_10_42 zk_127.1 rfl).trans ?_
    refine (Q_iload zm_170 (Or.inl (by decide)) D170_141 rfl).trans ?_
    refine (Q_aload_n zm_170 (Or.inl (by decide)) D170_143 rfl).trans ?_
    refine (Q_getR (q := 154) zm_170 (Or.inl (by decide)) D170_144 zf_10_93 zs_10_42 zk_127.1 rfl).trans ?_
    refine (Q_iload zm_170 (Or.inl (by decide)) D170_147 rfl).trans ?_
    refine ((Q_iaload zm_170 (Or.inl (by decide)) D170_149 zk_154.1 zk_154.2).trans (zdrop h1_)).trans ?_
    refine ((Q_iastore zm_170 (Or.inl (by decide)) D170_150 zk_154.1 zk_154.2).trans (zdrop h2_)).trans ?_
    refine (Q_aload_n zm_170 (Or.inl (by decide)) D170_151 rfl).trans ?_
    refine (Q_getR (q := 155) zm_170 (Or.inl (by decide)) D170_152 zf_10_96 zs_10_43 zk_127.1 rfl).trans ?_
    refine (Q_iload zm_170 (Or.inl (by decide)) D170_155 rfl).trans ?_
    refine (Q_aload_n zm_170 (Or.inl (by decide)) D170_157 rfl).trans ?_
    refine (Q_getR (q := 155) zm_170 (Or.inl (by decide)) D170_158 zf_10_96 zs_10_43 zk_127.1 rfl).trans ?_
    refine (Q_iload zm_170 (Or.inl (by decide)) D170_161 rfl).trans ?_
    refine ((Q_iaload zm_170 (Or.inl (by decide)) D170_163 zk_155.1 zk_155.2).trans (zdrop h1_)).trans ?_
    refine ((Q_iastore zm_170 (Or.inl (by decide)) D170_164 zk_155.1 zk_155.2).trans (zdrop h2_)).trans ?_
    refine (Q_aload_n zm_170 (Or.inl (by decide)) D170_165 rfl).trans ?_
    refine (Q_getR (q := 156) zm_170 (Or.inl (by decide)) D170_166 zf_10_99 zs_10_44 zk_127.1 rfl).trans ?_
    refine (Q_iload zm_170 (Or.inl (by decide)) D170_169 rfl).trans ?_
    refine (Q_aload_n zm_170 (Or.inl (by decide)) D170_171 rfl).trans ?_
    refine (Q_getR (q := 156) zm_170 (Or.inl (by decide)) D170_172 zf_10_99 zs_10_44 zk_127.1 rfl).trans ?_
    refine (Q_iload zm_170 (Or.inl (by decide)) D170_175 rfl).trans ?_
    refine ((Q_iaload zm_170 (Or.inl (by decide)) D170_177 zk_156.1 zk_156.2).trans (zdrop h1_)).trans ?_
    refine ((Q_iastore zm_170 (Or.inl (by decide)) D170_178 zk_156.1 zk_156.2).trans (zdrop h2_)).trans ?_
    refine (Q_iinc (v := 1) (ls' := [some (.ref 127), some (.int i1), some (.int i2), some (.int (i3 + (1 : Int32))), some (.int i4), some (.int i5), some (.int i6)]) zm_170 (Or.inl (by decide)) D170_179 rfl rfl (by decide) rfl).trans ?_
    refine (Q_goto (tgt := 62) zm_170 (Or.inl (by decide)) D170_182 (by decide)).trans ?_
    rfl
  · refine (Q_aload_n zm_170 (Or.inl (by decide)) D170_93 rfl).trans ?_
    refine (Q_getR (q := 152) zm_170 (Or.inl (by decide)) D170_94 zf_10_87 zs_10_40 zk_127.1 rfl).trans ?_
    refine (Q_iconst (v := 3) zm_170 (Or.inl (by decide)) D170_97 (by decide)).trans ?_
    refine (Q_iload zm_170 (Or.inl (by decide)) D170_98 rfl).trans ?_
    refine (Q_imul zm_170 (Or.inl (by decide)) D170_100).trans ?_
    refine (Q_iload zm_170 (Or.inl (by decide)) D170_101 rfl).trans ?_
    refine (Q_iadd zm_170 (Or.inl (by decide)) D170_103).trans ?_
    refine (Q_aload_n zm_170 (Or.inl (by decide)) D170_104 rfl).trans ?_
    refine (Q_getR (q := 152) zm_170 (Or.inl (by decide)) D170_105 zf_10_87 zs_10_40 zk_127.1 rfl).trans ?_
    refine (Q_iconst (v := 3) zm_170 (Or.inl (by decide)) D170_108 (by decide)).trans ?_
    refine (Q_iload zm_170 (Or.inl (by decide)) D170_109 rfl).trans ?_
    refine (Q_imul zm_170 (Or.inl (by decide)) D170_111).trans ?_
    refine (Q_iload zm_170 (Or.inl (by decide)) D170_112 rfl).trans ?_
    refine (Q_iadd zm_170 (Or.inl (by decide)) D170_114).trans ?_
    refine (Q_iaload zm_170 (Or.inl (by decide)) D170_115 zk_152.1 zk_152.2).trans ?_
    refine zand_c (fun h3_ => ?_)
    refine (Q_iastore zm_170 (Or.inl (by decide)) D170_116 zk_152.1 zk_152.2).trans ?_
    refine zand_c (fun h4_ => ?_)
    refine (Q_iinc (v := 1) (ls' := [some (.ref 127), some (.int i1), some (.int i2), some (.int i3), some (.int i4), some (.int i5), some (.int (i6 + (1 : Int32)))]) zm_170 (Or.inl (by decide)) D170_117 rfl rfl (by decide) rfl).trans ?_
    refine (Q_goto (tgt := 87) zm_170 (Or.inl (by decide)) D170_120 (by decide)).trans ?_
    rfl

theorem b170_226 {d : Nat} {i1 : Int32} {i2 : Int32} {i3 : Int32} {i4 : Int32} {i5 : Int32} {i6 : Int32} {ia : Nat → Nat → Int32} {la : Nat → Nat → Int64} {pl dr : Nat} {cp : Option Nat} {cw : Option Nat} {rp : Option Nat} {K : Option Value → zHP → Prop}  : zWP d 170 226 [some (.ref 127), some (.int i1), some (.int i2), some (.int i3), some (.int i4), some (.int i5), some (.int i6)] [] (ia, la, zRA pl dr cp cw rp) K = (if (3 : Int32) ≤ i6 then zWP d 170 187 [some (.ref 127), some (.int i1), some (.int i2), some (.int (i3 + (1 : Int32))), some (.int i4), some (.int i5), some (.int i6)] [] (ia, la, zRA pl dr cp cw rp) K else (vp_in (((3 : Int32) * i5) + i6) 828 ∧ (vp_in (((3 : Int32) * i4) + i6) 828 ∧ zWP d 170 226 [some (.ref 127), some (.int i1), some (.int i2), some (.int i3), some (.int i4), some (.int i5), some (.int (i6 + (1 : Int32)))] [] ((zu ia 158 ((((3 : Int32) * i4) + i6)).toNatClampNeg (ia 158 ((((3 : Int32) * i5) + i6)).toNatClampNeg)), la, zRA pl dr cp cw rp) K))) := by
  refine (Q_iload zm_170 (Or.inl (by decide)) D170_226 rfl).trans ?_
  refine (Q_iconst (v := 3) zm_170 (Or.inl (by decide)) D170_228 (by decide)).trans ?_
  refine (Q_ic_ge (tgt := 262) zm_170 (Or.inl (by decide)) D170_229 (by decide)).trans ?_
  refine zif_c (fun h0_ => ?_) (fun h0_ => ?_)
  · refine (Q_iinc (v := 1) (ls' := [some (.ref 127), some (.int i1), some (.int i2), some (.int (i3 + (1 : Int32))), some (.int i4), some (.int i5), some (.int i6)]) zm_170 (Or.inl (by decide)) D170_262 rfl rfl (by decide) rfl).trans ?_
    refine (Q_goto (tgt := 187) zm_170 (Or.inl (by decide)) D170_265 (by decide)).trans ?_
    rfl
  · refine (Q_aload_n zm_170 (Or.inl (by decide)) D170_232 rfl).trans ?_
    refine (Q_getR (q := 158) zm_170 (Or.inl (by decide)) D170_233 zf_10_105 zs_10_46 zk_127.1 rfl).trans ?_
    refine (Q_iconst (v := 3) zm_170 (Or.inl (by decide)) D170_236 (by decide)).trans ?_
    refine (Q_iload zm_170 (Or.inl (by decide)) D170_237 rfl).trans ?_
    refine (Q_imul zm_170 (Or.inl (by decide)) D170_239).trans ?_
    refine (Q_iload zm_170 (Or.inl (by decide)) D170_240 rfl).trans ?_
    refine (Q_iadd zm_170 (Or.inl (by decide)) D170_242).trans ?_
    refine (Q_aload_n zm_170 (Or.inl (by decide)) D170_243 rfl).trans ?_
    refine (Q_getR (q := 158) zm_170 (Or.inl (by decide)) D170_244 zf_10_105 zs_10_46 zk_127.1 rfl).trans ?_
    refine (Q_iconst (v := 3) zm_170 (Or.inl (by decide)) D170_247 (by decide)).trans ?_
    refine (Q_iload zm_170 (Or.inl (by decide)) D170_248 rfl).trans ?_
    refine (Q_imul zm_170 (Or.inl (by decide)) D170_250).trans ?_
    refine (Q_iload zm_170 (Or.inl (by decide)) D170_251 rfl).trans ?_
    refine (Q_iadd zm_170 (Or.inl (by decide)) D170_253).trans ?_
    refine (Q_iaload zm_170 (Or.inl (by decide)) D170_254 zk_158.1 zk_158.2).trans ?_
    refine zand_c (fun h1_ => ?_)
    refine (Q_iastore zm_170 (Or.inl (by decide)) D170_255 zk_158.1 zk_158.2).trans ?_
    refine zand_c (fun h2_ => ?_)
    refine (Q_iinc (v := 1) (ls' := [some (.ref 127), some (.int i1), some (.int i2), some (.int i3), some (.int i4), some (.int i5), some (.int (i6 + (1 : Int32)))]) zm_170 (Or.inl (by decide)) D170_256 rfl rfl (by decide) rfl).trans ?_
    refine (Q_goto (tgt := 226) zm_170 (Or.inl (by decide)) D170_259 (by decide)).trans ?_
    rfl

/-! HandsLetModel.isMan(I)Z -/
theorem D171_0 : decode prog_12_method_45_code 0 = .ok (.iload_n 1, 1) := by decide +kernel
theorem D171_1 : decode prog_12_method_45_code 1 = .ok (.ifCond .lt 17, 3) := by decide +kernel
theorem D171_4 : decode prog_12_method_45_code 4 = .ok (.iload_n 1, 1) := by decide +kernel
theorem D171_5 : decode prog_12_method_45_code 5 = .ok (.aload_n 0, 1) := by decide +kernel
theorem D171_6 : decode prog_12_method_45_code 6 = .ok (.getfield 13, 3) := by decide +kernel
theorem D171_9 : decode prog_12_method_45_code 9 = .ok (.iconst 0, 1) := by decide +kernel
theorem D171_10 : decode prog_12_method_45_code 10 = .ok (.iaload, 1) := by decide +kernel
theorem D171_11 : decode prog_12_method_45_code 11 = .ok (.if_icmp .ge 7, 3) := by decide +kernel
theorem D171_14 : decode prog_12_method_45_code 14 = .ok (.iconst 1, 1) := by decide +kernel
theorem D171_15 : decode prog_12_method_45_code 15 = .ok (.goto 4, 3) := by decide +kernel
theorem D171_18 : decode prog_12_method_45_code 18 = .ok (.iconst 0, 1) := by decide +kernel
theorem D171_19 : decode prog_12_method_45_code 19 = .ok (.ireturn, 1) := by decide +kernel

theorem b171_0 {d : Nat} {i1 : Int32} {ia : Nat → Nat → Int32} {la : Nat → Nat → Int64} {pl dr : Nat} {cp : Option Nat} {cw : Option Nat} {rp : Option Nat} {K : Option Value → zHP → Prop}  : zWP d 171 0 [some (.ref 127), some (.int i1)] [] (ia, la, zRA pl dr cp cw rp) K = (if i1 < 0 then K (some (.int (0 : Int32))) (ia, la, zRA pl dr cp cw rp) else (if (ia 129 0) ≤ i1 then K (some (.int (0 : Int32))) (ia, la, zRA pl dr cp cw rp) else K (some (.int (1 : Int32))) (ia, la, zRA pl dr cp cw rp))) := by
  refine (Q_iload_n zm_171 (Or.inl (by decide)) D171_0 rfl).trans ?_
  refine (Q_if_lt (tgt := 18) zm_171 (Or.inl (by decide)) D171_1 (by decide)).trans ?_
  refine zif_c (fun h0_ => ?_) (fun h0_ => ?_)
  · refine (Q_iconst (v := 0) zm_171 (Or.inl (by decide)) D171_18 (by decide)).trans ?_
    exact Q_zreturn zm_171 (Or.inl (by decide)) D171_19 rfl (by decide)
  · refine (Q_iload_n zm_171 (Or.inl (by decide)) D171_4 rfl).trans ?_
    refine (Q_aload_n zm_171 (Or.inl (by decide)) D171_5 rfl).trans ?_
    refine (Q_getR (q := 129) zm_171 (Or.inl (by decide)) D171_6 zf_10_13 zs_10_3 zk_127.1 rfl).trans ?_
    refine (Q_iconst (v := 0) zm_171 (Or.inl (by decide)) D171_9 (by decide)).trans ?_
    refine ((Q_iaload zm_171 (Or.inl (by decide)) D171_10 zk_129.1 zk_129.2).trans (zdrop (zin_spec (by decide)))).trans ?_
    refine (Q_ic_ge (tgt := 18) zm_171 (Or.inl (by decide)) D171_11 (by decide)).trans ?_
    refine zif_c (fun h1_ => ?_) (fun h1_ => ?_)
    · refine (Q_iconst (v := 0) zm_171 (Or.inl (by decide)) D171_18 (by decide)).trans ?_
      exact Q_zreturn zm_171 (Or.inl (by decide)) D171_19 rfl (by decide)
    · refine (Q_iconst (v := 1) zm_171 (Or.inl (by decide)) D171_14 (by decide)).trans ?_
      refine (Q_goto (tgt := 19) zm_171 (Or.inl (by decide)) D171_15 (by decide)).trans ?_
      exact Q_zreturn zm_171 (Or.inl (by decide)) D171_19 rfl (by decide)

/-! HandsLetModel.isLet(II)Z -/
theorem D172_0 : decode prog_12_method_46_code 0 = .ok (.aload_n 0, 1) := by decide +kernel
theorem D172_1 : decode prog_12_method_46_code 1 = .ok (.getfield 90, 3) := by decide +kernel
theorem D172_4 : decode prog_12_method_46_code 4 = .ok (.bipush 6, 2) := by decide +kernel
theorem D172_6 : decode prog_12_method_46_code 6 = .ok (.iload_n 1, 1) := by decide +kernel
theorem D172_7 : decode prog_12_method_46_code 7 = .ok (.imul, 1) := by decide +kernel
theorem D172_8 : decode prog_12_method_46_code 8 = .ok (.iload_n 2, 1) := by decide +kernel
theorem D172_9 : decode prog_12_method_46_code 9 = .ok (.iadd, 1) := by decide +kernel
theorem D172_10 : decode prog_12_method_46_code 10 = .ok (.iaload, 1) := by decide +kernel
theorem D172_11 : decode prog_12_method_46_code 11 = .ok (.iconst (-1), 1) := by decide +kernel
theorem D172_12 : decode prog_12_method_46_code 12 = .ok (.if_icmp .eq 7, 3) := by decide +kernel
theorem D172_15 : decode prog_12_method_46_code 15 = .ok (.iconst 1, 1) := by decide +kernel
theorem D172_16 : decode prog_12_method_46_code 16 = .ok (.goto 4, 3) := by decide +kernel
theorem D172_19 : decode prog_12_method_46_code 19 = .ok (.iconst 0, 1) := by decide +kernel
theorem D172_20 : decode prog_12_method_46_code 20 = .ok (.ireturn, 1) := by decide +kernel

theorem b172_0 {d : Nat} {i1 : Int32} {i2 : Int32} {ia : Nat → Nat → Int32} {la : Nat → Nat → Int64} {pl dr : Nat} {cp : Option Nat} {cw : Option Nat} {rp : Option Nat} {K : Option Value → zHP → Prop}  : zWP d 172 0 [some (.ref 127), some (.int i1), some (.int i2)] [] (ia, la, zRA pl dr cp cw rp) K = (vp_in (((6 : Int32) * i1) + i2) 138 ∧ (if (ia 153 ((((6 : Int32) * i1) + i2)).toNatClampNeg) = (-1 : Int32) then K (some (.int (0 : Int32))) (ia, la, zRA pl dr cp cw rp) else K (some (.int (1 : Int32))) (ia, la, zRA pl dr cp cw rp))) := by
  refine (Q_aload_n zm_172 (Or.inl (by decide)) D172_0 rfl).trans ?_
  refine (Q_getR (q := 153) zm_172 (Or.inl (by decide)) D172_1 zf_10_90 zs_10_41 zk_127.1 rfl).trans ?_
  refine (Q_bipush (v := 6) zm_172 (Or.inl (by decide)) D172_4 (by decide)).trans ?_
  refine (Q_iload_n zm_172 (Or.inl (by decide)) D172_6 rfl).trans ?_
  refine (Q_imul zm_172 (Or.inl (by decide)) D172_7).trans ?_
  refine (Q_iload_n zm_172 (Or.inl (by decide)) D172_8 rfl).trans ?_
  refine (Q_iadd zm_172 (Or.inl (by decide)) D172_9).trans ?_
  refine (Q_iaload zm_172 (Or.inl (by decide)) D172_10 zk_153.1 zk_153.2).trans ?_
  refine zand_c (fun h0_ => ?_)
  refine (Q_iconst (v := -1) zm_172 (Or.inl (by decide)) D172_11 (by decide)).trans ?_
  refine (Q_ic_eq (tgt := 19) zm_172 (Or.inl (by decide)) D172_12 (by decide)).trans ?_
  refine zif_c (fun h1_ => ?_) (fun h1_ => ?_)
  · refine (Q_iconst (v := 0) zm_172 (Or.inl (by decide)) D172_19 (by decide)).trans ?_
    exact Q_zreturn zm_172 (Or.inl (by decide)) D172_20 rfl (by decide)
  · refine (Q_iconst (v := 1) zm_172 (Or.inl (by decide)) D172_15 (by decide)).trans ?_
    refine (Q_goto (tgt := 20) zm_172 (Or.inl (by decide)) D172_16 (by decide)).trans ?_
    exact Q_zreturn zm_172 (Or.inl (by decide)) D172_20 rfl (by decide)

/-! HandsLetModel.holderOf(II)I -/
theorem D173_0 : decode prog_12_method_47_code 0 = .ok (.aload_n 0, 1) := by decide +kernel
theorem D173_1 : decode prog_12_method_47_code 1 = .ok (.iload_n 1, 1) := by decide +kernel
theorem D173_2 : decode prog_12_method_47_code 2 = .ok (.iload_n 2, 1) := by decide +kernel
theorem D173_3 : decode prog_12_method_47_code 3 = .ok (.invokevirtual 340, 3) := by decide +kernel
theorem D173_6 : decode prog_12_method_47_code 6 = .ok (.ifCond .eq 17, 3) := by decide +kernel
theorem D173_9 : decode prog_12_method_47_code 9 = .ok (.aload_n 0, 1) := by decide +kernel
theorem D173_10 : decode prog_12_method_47_code 10 = .ok (.getfield 90, 3) := by decide +kernel
theorem D173_13 : decode prog_12_method_47_code 13 = .ok (.bipush 6, 2) := by decide +kernel
theorem D173_15 : decode prog_12_method_47_code 15 = .ok (.iload_n 1, 1) := by decide +kernel
theorem D173_16 : decode prog_12_method_47_code 16 = .ok (.imul, 1) := by decide +kernel
theorem D173_17 : decode prog_12_method_47_code 17 = .ok (.iload_n 2, 1) := by decide +kernel
theorem D173_18 : decode prog_12_method_47_code 18 = .ok (.iadd, 1) := by decide +kernel
theorem D173_19 : decode prog_12_method_47_code 19 = .ok (.iaload, 1) := by decide +kernel
theorem D173_20 : decode prog_12_method_47_code 20 = .ok (.goto 4, 3) := by decide +kernel
theorem D173_23 : decode prog_12_method_47_code 23 = .ok (.iload_n 2, 1) := by decide +kernel
theorem D173_24 : decode prog_12_method_47_code 24 = .ok (.ireturn, 1) := by decide +kernel

theorem b173_0 {d : Nat} {i1 : Int32} {i2 : Int32} {ia : Nat → Nat → Int32} {la : Nat → Nat → Int64} {pl dr : Nat} {cp : Option Nat} {cw : Option Nat} {rp : Option Nat} {K : Option Value → zHP → Prop}  : zWP (d + 1) 173 0 [some (.ref 127), some (.int i1), some (.int i2)] [] (ia, la, zRA pl dr cp cw rp) K = zWM d 172 [.ref 127, .int i1, .int i2] (ia, la, zRA pl dr cp cw rp) (zK (d + 1) 173 6 [some (.ref 127), some (.int i1), some (.int i2)] [] K) := by
  refine (Q_aload_n zm_173 (Or.inl (by decide)) D173_0 rfl).trans ?_
  refine (Q_iload_n zm_173 (Or.inl (by decide)) D173_1 rfl).trans ?_
  refine (Q_iload_n zm_173 (Or.inl (by decide)) D173_2 rfl).trans ?_
  exact Q_callv (as := [.int i1, .int i2]) (b := 127) (rest := []) zm_173 (Or.inl (by decide)) D173_3 zc_10_340 rfl zk_127.1 (by decide) (by decide +kernel) (by decide) (by simp [zcat, Value.category]) zm_172 rfl

theorem b173_6 {d : Nat} {i1 : Int32} {i2 : Int32} {s0 : Int32} {ia : Nat → Nat → Int32} {la : Nat → Nat → Int64} {pl dr : Nat} {cp : Option Nat} {cw : Option Nat} {rp : Option Nat} {K : Option Value → zHP → Prop}  : zWP d 173 6 [some (.ref 127), some (.int i1), some (.int i2)] [.int s0] (ia, la, zRA pl dr cp cw rp) K = (if s0 = 0 then K (some (.int i2)) (ia, la, zRA pl dr cp cw rp) else (vp_in (((6 : Int32) * i1) + i2) 138 ∧ K (some (.int (ia 153 ((((6 : Int32) * i1) + i2)).toNatClampNeg))) (ia, la, zRA pl dr cp cw rp))) := by
  refine (Q_if_eq (tgt := 23) zm_173 (Or.inl (by decide)) D173_6 (by decide)).trans ?_
  refine zif_c (fun h0_ => ?_) (fun h0_ => ?_)
  · refine (Q_iload_n zm_173 (Or.inl (by decide)) D173_23 rfl).trans ?_
    exact Q_ireturn zm_173 (Or.inl (by decide)) D173_24 rfl
  · refine (Q_aload_n zm_173 (Or.inl (by decide)) D173_9 rfl).trans ?_
    refine (Q_getR (q := 153) zm_173 (Or.inl (by decide)) D173_10 zf_10_90 zs_10_41 zk_127.1 rfl).trans ?_
    refine (Q_bipush (v := 6) zm_173 (Or.inl (by decide)) D173_13 (by decide)).trans ?_
    refine (Q_iload_n zm_173 (Or.inl (by decide)) D173_15 rfl).trans ?_
    refine (Q_imul zm_173 (Or.inl (by decide)) D173_16).trans ?_
    refine (Q_iload_n zm_173 (Or.inl (by decide)) D173_17 rfl).trans ?_
    refine (Q_iadd zm_173 (Or.inl (by decide)) D173_18).trans ?_
    refine (Q_iaload zm_173 (Or.inl (by decide)) D173_19 zk_153.1 zk_153.2).trans ?_
    refine zand_c (fun h1_ => ?_)
    refine (Q_goto (tgt := 24) zm_173 (Or.inl (by decide)) D173_20 (by decide)).trans ?_
    exact Q_ireturn zm_173 (Or.inl (by decide)) D173_24 rfl

/-! HandsLetModel.bitsOf(I)I -/
theorem D174_0 : decode prog_12_method_48_code 0 = .ok (.iconst 0, 1) := by decide +kernel
theorem D174_1 : decode prog_12_method_48_code 1 = .ok (.istore_n 1, 1) := by decide +kernel
theorem D174_2 : decode prog_12_method_48_code 2 = .ok (.iconst 0, 1) := by decide +kernel
theorem D174_3 : decode prog_12_method_48_code 3 = .ok (.istore_n 2, 1) := by decide +kernel
theorem D174_4 : decode prog_12_method_48_code 4 = .ok (.iload_n 2, 1) := by decide +kernel
theorem D174_5 : decode prog_12_method_48_code 5 = .ok (.bipush 12, 2) := by decide +kernel
theorem D174_7 : decode prog_12_method_48_code 7 = .ok (.if_icmp .ge 17, 3) := by decide +kernel
theorem D174_10 : decode prog_12_method_48_code 10 = .ok (.iload_n 1, 1) := by decide +kernel
theorem D174_11 : decode prog_12_method_48_code 11 = .ok (.iload_n 0, 1) := by decide +kernel
theorem D174_12 : decode prog_12_method_48_code 12 = .ok (.iload_n 2, 1) := by decide +kernel
theorem D174_13 : decode prog_12_method_48_code 13 = .ok (.ishr, 1) := by decide +kernel
theorem D174_14 : decode prog_12_method_48_code 14 = .ok (.iconst 1, 1) := by decide +kernel
theorem D174_15 : decode prog_12_method_48_code 15 = .ok (.iand, 1) := by decide +kernel
theorem D174_16 : decode prog_12_method_48_code 16 = .ok (.iadd, 1) := by decide +kernel
theorem D174_17 : decode prog_12_method_48_code 17 = .ok (.istore_n 1, 1) := by decide +kernel
theorem D174_18 : decode prog_12_method_48_code 18 = .ok (.iinc 2 1, 3) := by decide +kernel
theorem D174_21 : decode prog_12_method_48_code 21 = .ok (.goto (-17), 3) := by decide +kernel
theorem D174_24 : decode prog_12_method_48_code 24 = .ok (.iload_n 1, 1) := by decide +kernel
theorem D174_25 : decode prog_12_method_48_code 25 = .ok (.ireturn, 1) := by decide +kernel

theorem b174_0 {d : Nat} {i0 : Int32} {ia : Nat → Nat → Int32} {la : Nat → Nat → Int64} {pl dr : Nat} {cp : Option Nat} {cw : Option Nat} {rp : Option Nat} {K : Option Value → zHP → Prop}  : zWP d 174 0 [some (.int i0), none, none] [] (ia, la, zRA pl dr cp cw rp) K = zWP d 174 4 [some (.int i0), some (.int (0 : Int32)), some (.int (0 : Int32))] [] (ia, la, zRA pl dr cp cw rp) K := by
  refine (Q_iconst (v := 0) zm_174 (Or.inl (by decide)) D174_0 (by decide)).trans ?_
  refine (Q_istore_n (ls' := [some (.int i0), some (.int (0 : Int32)), none]) zm_174 (Or.inl (by decide)) D174_1 rfl (Nat.le_of_ble_eq_true rfl) rfl).trans ?_
  refine (Q_iconst (v := 0) zm_174 (Or.inl (by decide)) D174_2 (by decide)).trans ?_
  refine (Q_istore_n (ls' := [some (.int i0), some (.int (0 : Int32)), some (.int (0 : Int32))]) zm_174 (Or.inl (by decide)) D174_3 rfl (Nat.le_of_ble_eq_true rfl) rfl).trans ?_
  rfl

theorem b174_4 {d : Nat} {i0 : Int32} {i1 : Int32} {i2 : Int32} {ia : Nat → Nat → Int32} {la : Nat → Nat → Int64} {pl dr : Nat} {cp : Option Nat} {cw : Option Nat} {rp : Option Nat} {K : Option Value → zHP → Prop}  : zWP d 174 4 [some (.int i0), some (.int i1), some (.int i2)] [] (ia, la, zRA pl dr cp cw rp) K = (if (12 : Int32) ≤ i2 then K (some (.int i1)) (ia, la, zRA pl dr cp cw rp) else zWP d 174 4 [some (.int i0), some (.int (i1 + ((i0 >>> (i2 &&& 31)) &&& (1 : Int32)))), some (.int (i2 + (1 : Int32)))] [] (ia, la, zRA pl dr cp cw rp) K) := by
  refine (Q_iload_n zm_174 (Or.inl (by decide)) D174_4 rfl).trans ?_
  refine (Q_bipush (v := 12) zm_174 (Or.inl (by decide)) D174_5 (by decide)).trans ?_
  refine (Q_ic_ge (tgt := 24) zm_174 (Or.inl (by decide)) D174_7 (by decide)).trans ?_
  refine zif_c (fun h0_ => ?_) (fun h0_ => ?_)
  · refine (Q_iload_n zm_174 (Or.inl (by decide)) D174_24 rfl).trans ?_
    exact Q_ireturn zm_174 (Or.inl (by decide)) D174_25 rfl
  · refine (Q_iload_n zm_174 (Or.inl (by decide)) D174_10 rfl).trans ?_
    refine (Q_iload_n zm_174 (Or.inl (by decide)) D174_11 rfl).trans ?_
    refine (Q_iload_n zm_174 (Or.inl (by decide)) D174_12 rfl).trans ?_
    refine (Q_ishr zm_174 (Or.inl (by decide)) D174_13).trans ?_
    refine (Q_iconst (v := 1) zm_174 (Or.inl (by decide)) D174_14 (by decide)).trans ?_
    refine (Q_iand zm_174 (Or.inl (by decide)) D174_15).trans ?_
    refine (Q_iadd zm_174 (Or.inl (by decide)) D174_16).trans ?_
    refine (Q_istore_n (ls' := [some (.int i0), some (.int (i1 + ((i0 >>> (i2 &&& 31)) &&& (1 : Int32)))), some (.int i2)]) zm_174 (Or.inl (by decide)) D174_17 rfl (Nat.le_of_ble_eq_true rfl) rfl).trans ?_
    refine (Q_iinc (v := 1) (ls' := [some (.int i0), some (.int (i1 + ((i0 >>> (i2 &&& 31)) &&& (1 : Int32)))), some (.int (i2 + (1 : Int32)))]) zm_174 (Or.inl (by decide)) D174_18 rfl rfl (by decide) rfl).trans ?_
    refine (Q_goto (tgt := 4) zm_174 (Or.inl (by decide)) D174_21 (by decide)).trans ?_
    rfl

/-! HandsLetModel.calls(IIII)V -/
theorem D175_0 : decode prog_12_method_49_code 0 = .ok (.iconst 0, 1) := by decide +kernel
theorem D175_1 : decode prog_12_method_49_code 1 = .ok (.istore 5, 2) := by decide +kernel
theorem D175_3 : decode prog_12_method_49_code 3 = .ok (.iload 5, 2) := by decide +kernel
theorem D175_5 : decode prog_12_method_49_code 5 = .ok (.iconst 3, 1) := by decide +kernel
theorem D175_6 : decode prog_12_method_49_code 6 = .ok (.if_icmp .ge 37, 3) := by decide +kernel
theorem D175_9 : decode prog_12_method_49_code 9 = .ok (.aload_n 0, 1) := by decide +kernel
theorem D175_10 : decode prog_12_method_49_code 10 = .ok (.getfield 65, 3) := by decide +kernel
theorem D175_13 : decode prog_12_method_49_code 13 = .ok (.iload 5, 2) := by decide +kernel
theorem D175_15 : decode prog_12_method_49_code 15 = .ok (.aload_n 0, 1) := by decide +kernel
theorem D175_16 : decode prog_12_method_49_code 16 = .ok (.getfield 87, 3) := by decide +kernel
theorem D175_19 : decode prog_12_method_49_code 19 = .ok (.iconst 3, 1) := by decide +kernel
theorem D175_20 : decode prog_12_method_49_code 20 = .ok (.bipush 6, 2) := by decide +kernel
theorem D175_22 : decode prog_12_method_49_code 22 = .ok (.iload_n 1, 1) := by decide +kernel
theorem D175_23 : decode prog_12_method_49_code 23 = .ok (.imul, 1) := by decide +kernel
theorem D175_24 : decode prog_12_method_49_code 24 = .ok (.iload_n 2, 1) := by decide +kernel
theorem D175_25 : decode prog_12_method_49_code 25 = .ok (.iadd, 1) := by decide +kernel
theorem D175_26 : decode prog_12_method_49_code 26 = .ok (.imul, 1) := by decide +kernel
theorem D175_27 : decode prog_12_method_49_code 27 = .ok (.iload 5, 2) := by decide +kernel
theorem D175_29 : decode prog_12_method_49_code 29 = .ok (.iadd, 1) := by decide +kernel
theorem D175_30 : decode prog_12_method_49_code 30 = .ok (.iaload, 1) := by decide +kernel
theorem D175_31 : decode prog_12_method_49_code 31 = .ok (.sipush 1000, 3) := by decide +kernel
theorem D175_34 : decode prog_12_method_49_code 34 = .ok (.idiv, 1) := by decide +kernel
theorem D175_35 : decode prog_12_method_49_code 35 = .ok (.i2l, 1) := by decide +kernel
theorem D175_36 : decode prog_12_method_49_code 36 = .ok (.lastore, 1) := by decide +kernel
theorem D175_37 : decode prog_12_method_49_code 37 = .ok (.iinc 5 1, 3) := by decide +kernel
theorem D175_40 : decode prog_12_method_49_code 40 = .ok (.goto (-37), 3) := by decide +kernel
theorem D175_43 : decode prog_12_method_49_code 43 = .ok (.aload_n 0, 1) := by decide +kernel
theorem D175_44 : decode prog_12_method_49_code 44 = .ok (.getfield 65, 3) := by decide +kernel
theorem D175_47 : decode prog_12_method_49_code 47 = .ok (.iconst 3, 1) := by decide +kernel
theorem D175_48 : decode prog_12_method_49_code 48 = .ok (.aload_n 0, 1) := by decide +kernel
theorem D175_49 : decode prog_12_method_49_code 49 = .ok (.getfield 99, 3) := by decide +kernel
theorem D175_52 : decode prog_12_method_49_code 52 = .ok (.bipush 6, 2) := by decide +kernel
theorem D175_54 : decode prog_12_method_49_code 54 = .ok (.iload_n 1, 1) := by decide +kernel
theorem D175_55 : decode prog_12_method_49_code 55 = .ok (.imul, 1) := by decide +kernel
theorem D175_56 : decode prog_12_method_49_code 56 = .ok (.iload_n 3, 1) := by decide +kernel
theorem D175_57 : decode prog_12_method_49_code 57 = .ok (.iadd, 1) := by decide +kernel
theorem D175_58 : decode prog_12_method_49_code 58 = .ok (.iaload, 1) := by decide +kernel
theorem D175_59 : decode prog_12_method_49_code 59 = .ok (.i2l, 1) := by decide +kernel
theorem D175_60 : decode prog_12_method_49_code 60 = .ok (.lastore, 1) := by decide +kernel
theorem D175_61 : decode prog_12_method_49_code 61 = .ok (.aload_n 0, 1) := by decide +kernel
theorem D175_62 : decode prog_12_method_49_code 62 = .ok (.getfield 65, 3) := by decide +kernel
theorem D175_65 : decode prog_12_method_49_code 65 = .ok (.iconst 4, 1) := by decide +kernel
theorem D175_66 : decode prog_12_method_49_code 66 = .ok (.iload 4, 2) := by decide +kernel
theorem D175_68 : decode prog_12_method_49_code 68 = .ok (.i2l, 1) := by decide +kernel
theorem D175_69 : decode prog_12_method_49_code 69 = .ok (.lastore, 1) := by decide +kernel
theorem D175_70 : decode prog_12_method_49_code 70 = .ok (.aload_n 0, 1) := by decide +kernel
theorem D175_71 : decode prog_12_method_49_code 71 = .ok (.getfield 65, 3) := by decide +kernel
theorem D175_74 : decode prog_12_method_49_code 74 = .ok (.iconst 5, 1) := by decide +kernel
theorem D175_75 : decode prog_12_method_49_code 75 = .ok (.aload_n 0, 1) := by decide +kernel
theorem D175_76 : decode prog_12_method_49_code 76 = .ok (.getfield 96, 3) := by decide +kernel
theorem D175_79 : decode prog_12_method_49_code 79 = .ok (.bipush 6, 2) := by decide +kernel
theorem D175_81 : decode prog_12_method_49_code 81 = .ok (.iload_n 1, 1) := by decide +kernel
theorem D175_82 : decode prog_12_method_49_code 82 = .ok (.imul, 1) := by decide +kernel
theorem D175_83 : decode prog_12_method_49_code 83 = .ok (.iload_n 2, 1) := by decide +kernel
theorem D175_84 : decode prog_12_method_49_code 84 = .ok (.iadd, 1) := by decide +kernel
theorem D175_85 : decode prog_12_method_49_code 85 = .ok (.iaload, 1) := by decide +kernel
theorem D175_86 : decode prog_12_method_49_code 86 = .ok (.i2l, 1) := by decide +kernel
theorem D175_87 : decode prog_12_method_49_code 87 = .ok (.lastore, 1) := by decide +kernel
theorem D175_88 : decode prog_12_method_49_code 88 = .ok (.aload_n 0, 1) := by decide +kernel
theorem D175_89 : decode prog_12_method_49_code 89 = .ok (.getfield 65, 3) := by decide +kernel
theorem D175_92 : decode prog_12_method_49_code 92 = .ok (.bipush 6, 2) := by decide +kernel
theorem D175_94 : decode prog_12_method_49_code 94 = .ok (.aload_n 0, 1) := by decide +kernel
theorem D175_95 : decode prog_12_method_49_code 95 = .ok (.getfield 72, 3) := by decide +kernel
theorem D175_98 : decode prog_12_method_49_code 98 = .ok (.iload_n 1, 1) := by decide +kernel
theorem D175_99 : decode prog_12_method_49_code 99 = .ok (.iaload, 1) := by decide +kernel
theorem D175_100 : decode prog_12_method_49_code 100 = .ok (.i2l, 1) := by decide +kernel
theorem D175_101 : decode prog_12_method_49_code 101 = .ok (.lastore, 1) := by decide +kernel
theorem D175_102 : decode prog_12_method_49_code 102 = .ok (.return_, 1) := by decide +kernel

theorem b175_0 {d : Nat} {i1 : Int32} {i2 : Int32} {i3 : Int32} {i4 : Int32} {ia : Nat → Nat → Int32} {la : Nat → Nat → Int64} {pl dr : Nat} {cp : Option Nat} {cw : Option Nat} {rp : Option Nat} {K : Option Value → zHP → Prop}  : zWP d 175 0 [some (.ref 127), some (.int i1), some (.int i2), some (.int i3), some (.int i4), none] [] (ia, la, zRA pl dr cp cw rp) K = zWP d 175 3 [some (.ref 127), some (.int i1), some (.int i2), some (.int i3), some (.int i4), some (.int (0 : Int32))] [] (ia, la, zRA pl dr cp cw rp) K := by
  refine (Q_iconst (v := 0) zm_175 (Or.inl (by decide)) D175_0 (by decide)).trans ?_
  refine (Q_istore (ls' := [some (.ref 127), some (.int i1), some (.int i2), some (.int i3), some (.int i4), some (.int (0 : Int32))]) zm_175 (Or.inl (by decide)) D175_1 rfl (Nat.le_of_ble_eq_true rfl) rfl).trans ?_
  rfl

theorem b175_3 {d : Nat} {i1 : Int32} {i2 : Int32} {i3 : Int32} {i4 : Int32} {i5 : Int32} {ia : Nat → Nat → Int32} {la : Nat → Nat → Int64} {pl dr : Nat} {cp : Option Nat} {cw : Option Nat} {rp : Option Nat} {K : Option Value → zHP → Prop}  : zWP d 175 3 [some (.ref 127), some (.int i1), some (.int i2), some (.int i3), some (.int i4), some (.int i5)] [] (ia, la, zRA pl dr cp cw rp) K = (if (3 : Int32) ≤ i5 then (vp_in (((6 : Int32) * i1) + i3) 138 ∧ (vp_in (((6 : Int32) * i1) + i2) 138 ∧ (vp_in i1 23 ∧ K none (ia, (zu (zu (zu (zu la 145 3 ((ia 156 ((((6 : Int32) * i1) + i3)).toNatClampNeg)).toInt64) 145 4 (i4).toInt64) 145 5 ((ia 155 ((((6 : Int32) * i1) + i2)).toNatClampNeg)).toInt64) 145 6 ((ia 147 (i1).toNatClampNeg)).toInt64), zRA pl dr cp cw rp)))) else (vp_in (((3 : Int32) * (((6 : Int32) * i1) + i2)) + i5) 414 ∧ (vp_in i5 7 ∧ zWP d 175 3 [some (.ref 127), some (.int i1), some (.int i2), some (.int i3), some (.int i4), some (.int (i5 + (1 : Int32)))] [] (ia, (zu la 145 (i5).toNatClampNeg (((ia 152 ((((3 : Int32) * (((6 : Int32) * i1) + i2)) + i5)).toNatClampNeg) / (1000 : Int32))).toInt64), zRA pl dr cp cw rp) K))) := by
  refine (Q_iload zm_175 (Or.inl (by decide)) D175_3 rfl).trans ?_
  refine (Q_iconst (v := 3) zm_175 (Or.inl (by decide)) D175_5 (by decide)).trans ?_
  refine (Q_ic_ge (tgt := 43) zm_175 (Or.inl (by decide)) D175_6 (by decide)).trans ?_
  refine zif_c (fun h0_ => ?_) (fun h0_ => ?_)
  · refine (Q_aload_n zm_175 (Or.inl (by decide)) D175_43 rfl).trans ?_
    refine (Q_getR (q := 145) zm_175 (Or.inl (by decide)) D175_44 zf_10_65 zs_10_32 zk_127.1 rfl).trans ?_
    refine (Q_iconst (v := 3) zm_175 (Or.inl (by decide)) D175_47 (by decide)).trans ?_
    refine (Q_aload_n zm_175 (Or.inl (by decide)) D175_48 rfl).trans ?_
    refine (Q_getR (q := 156) zm_175 (Or.inl (by decide)) D175_49 zf_10_99 zs_10_44 zk_127.1 rfl).trans ?_
    refine (Q_bipush (v := 6) zm_175 (Or.inl (by decide)) D175_52 (by decide)).trans ?_
    refine (Q_iload_n zm_175 (Or.inl (by decide)) D175_54 rfl).trans ?_
    refine (Q_imul zm_175 (Or.inl (by decide)) D175_55).trans ?_
    refine (Q_iload_n zm_175 (Or.inl (by decide)) D175_56 rfl).trans ?_
    refine (Q_iadd zm_175 (Or.inl (by decide)) D175_57).trans ?_
    refine (Q_iaload zm_175 (Or.inl (by decide)) D175_58 zk_156.1 zk_156.2).trans ?_
    refine zand_c (fun h1_ => ?_)
    refine (Q_i2l zm_175 (Or.inl (by decide)) D175_59).trans ?_
    refine ((Q_lastore zm_175 (Or.inl (by decide)) D175_60 zk_145.1 zk_145.2).trans (zdrop (zin_spec (by decide)))).trans ?_
    refine (Q_aload_n zm_175 (Or.inl (by decide)) D175_61 rfl).trans ?_
    refine (Q_getR (q := 145) zm_175 (Or.inl (by decide)) D175_62 zf_10_65 zs_10_32 zk_127.1 rfl).trans ?_
    refine (Q_iconst (v := 4) zm_175 (Or.inl (by decide)) D175_65 (by decide)).trans ?_
    refine (Q_iload zm_175 (Or.inl (by decide)) D175_66 rfl).trans ?_
    refine (Q_i2l zm_175 (Or.inl (by decide)) D175_68).trans ?_
    refine ((Q_lastore zm_175 (Or.inl (by decide)) D175_69 zk_145.1 zk_145.2).trans (zdrop (zin_spec (by decide)))).trans ?_
    refine (Q_aload_n zm_175 (Or.inl (by decide)) D175_70 rfl).trans ?_
    refine (Q_getR (q := 145) zm_175 (Or.inl (by decide)) D175_71 zf_10_65 zs_10_32 zk_127.1 rfl).trans ?_
    refine (Q_iconst (v := 5) zm_175 (Or.inl (by decide)) D175_74 (by decide)).trans ?_
    refine (Q_aload_n zm_175 (Or.inl (by decide)) D175_75 rfl).trans ?_
    refine (Q_getR (q := 155) zm_175 (Or.inl (by decide)) D175_76 zf_10_96 zs_10_43 zk_127.1 rfl).trans ?_
    refine (Q_bipush (v := 6) zm_175 (Or.inl (by decide)) D175_79 (by decide)).trans ?_
    refine (Q_iload_n zm_175 (Or.inl (by decide)) D175_81 rfl).trans ?_
    refine (Q_imul zm_175 (Or.inl (by decide)) D175_82).trans ?_
    refine (Q_iload_n zm_175 (Or.inl (by decide)) D175_83 rfl).trans ?_
    refine (Q_iadd zm_175 (Or.inl (by decide)) D175_84).trans ?_
    refine (Q_iaload zm_175 (Or.inl (by decide)) D175_85 zk_155.1 zk_155.2).trans ?_
    refine zand_c (fun h2_ => ?_)
    refine (Q_i2l zm_175 (Or.inl (by decide)) D175_86).trans ?_
    refine ((Q_lastore zm_175 (Or.inl (by decide)) D175_87 zk_145.1 zk_145.2).trans (zdrop (zin_spec (by decide)))).trans ?_
    refine (Q_aload_n zm_175 (Or.inl (by decide)) D175_88 rfl).trans ?_
    refine (Q_getR (q := 145) zm_175 (Or.inl (by decide)) D175_89 zf_10_65 zs_10_32 zk_127.1 rfl).trans ?_
    refine (Q_bipush (v := 6) zm_175 (Or.inl (by decide)) D175_92 (by decide)).trans ?_
    refine (Q_aload_n zm_175 (Or.inl (by decide)) D175_94 rfl).trans ?_
    refine (Q_getR (q := 147) zm_175 (Or.inl (by decide)) D175_95 zf_10_72 zs_10_35 zk_127.1 rfl).trans ?_
    refine (Q_iload_n zm_175 (Or.inl (by decide)) D175_98 rfl).trans ?_
    refine (Q_iaload zm_175 (Or.inl (by decide)) D175_99 zk_147.1 zk_147.2).trans ?_
    refine zand_c (fun h3_ => ?_)
    refine (Q_i2l zm_175 (Or.inl (by decide)) D175_100).trans ?_
    refine ((Q_lastore zm_175 (Or.inl (by decide)) D175_101 zk_145.1 zk_145.2).trans (zdrop (zin_spec (by decide)))).trans ?_
    exact Q_return zm_175 (Or.inl (by decide)) D175_102 rfl
  · refine (Q_aload_n zm_175 (Or.inl (by decide)) D175_9 rfl).trans ?_
    refine (Q_getR (q := 145) zm_175 (Or.inl (by decide)) D175_10 zf_10_65 zs_10_32 zk_127.1 rfl).trans ?_
    refine (Q_iload zm_175 (Or.inl (by decide)) D175_13 rfl).trans ?_
    refine (Q_aload_n zm_175 (Or.inl (by decide)) D175_15 rfl).trans ?_
    refine (Q_getR (q := 152) zm_175 (Or.inl (by decide)) D175_16 zf_10_87 zs_10_40 zk_127.1 rfl).trans ?_
    refine (Q_iconst (v := 3) zm_175 (Or.inl (by decide)) D175_19 (by decide)).trans ?_
    refine (Q_bipush (v := 6) zm_175 (Or.inl (by decide)) D175_20 (by decide)).trans ?_
    refine (Q_iload_n zm_175 (Or.inl (by decide)) D175_22 rfl).trans ?_
    refine (Q_imul zm_175 (Or.inl (by decide)) D175_23).trans ?_
    refine (Q_iload_n zm_175 (Or.inl (by decide)) D175_24 rfl).trans ?_
    refine (Q_iadd zm_175 (Or.inl (by decide)) D175_25).trans ?_
    refine (Q_imul zm_175 (Or.inl (by decide)) D175_26).trans ?_
    refine (Q_iload zm_175 (Or.inl (by decide)) D175_27 rfl).trans ?_
    refine (Q_iadd zm_175 (Or.inl (by decide)) D175_29).trans ?_
    refine (Q_iaload zm_175 (Or.inl (by decide)) D175_30 zk_152.1 zk_152.2).trans ?_
    refine zand_c (fun h4_ => ?_)
    refine (Q_sipush (v := 1000) zm_175 (Or.inl (by decide)) D175_31 (by decide)).trans ?_
    refine (Q_idiv zm_175 (Or.inl (by decide)) D175_34 (by decide)).trans ?_
    refine (Q_i2l zm_175 (Or.inl (by decide)) D175_35).trans ?_
    refine (Q_lastore zm_175 (Or.inl (by decide)) D175_36 zk_145.1 zk_145.2).trans ?_
    refine zand_c (fun h5_ => ?_)
    refine (Q_iinc (v := 1) (ls' := [some (.ref 127), some (.int i1), some (.int i2), some (.int i3), some (.int i4), some (.int (i5 + (1 : Int32)))]) zm_175 (Or.inl (by decide)) D175_37 rfl rfl (by decide) rfl).trans ?_
    refine (Q_goto (tgt := 3) zm_175 (Or.inl (by decide)) D175_40 (by decide)).trans ?_
    rfl

/-! HandsLetModel.within(III)I -/
theorem D176_0 : decode prog_12_method_50_code 0 = .ok (.aload_n 0, 1) := by decide +kernel
theorem D176_1 : decode prog_12_method_50_code 1 = .ok (.iload_n 1, 1) := by decide +kernel
theorem D176_2 : decode prog_12_method_50_code 2 = .ok (.invokevirtual 344, 3) := by decide +kernel
theorem D176_5 : decode prog_12_method_50_code 5 = .ok (.ifCond .eq 11, 3) := by decide +kernel
theorem D176_8 : decode prog_12_method_50_code 8 = .ok (.aload_n 0, 1) := by decide +kernel
theorem D176_9 : decode prog_12_method_50_code 9 = .ok (.iload_n 1, 1) := by decide +kernel
theorem D176_10 : decode prog_12_method_50_code 10 = .ok (.invokevirtual 347, 3) := by decide +kernel
theorem D176_13 : decode prog_12_method_50_code 13 = .ok (.ifCond .ne 5, 3) := by decide +kernel
theorem D176_16 : decode prog_12_method_50_code 16 = .ok (.iload_n 3, 1) := by decide +kernel
theorem D176_17 : decode prog_12_method_50_code 17 = .ok (.ireturn, 1) := by decide +kernel
theorem D176_18 : decode prog_12_method_50_code 18 = .ok (.lconst 0, 1) := by decide +kernel
theorem D176_19 : decode prog_12_method_50_code 19 = .ok (.iload_n 2, 1) := by decide +kernel
theorem D176_20 : decode prog_12_method_50_code 20 = .ok (.i2l, 1) := by decide +kernel
theorem D176_21 : decode prog_12_method_50_code 21 = .ok (.aload_n 0, 1) := by decide +kernel
theorem D176_22 : decode prog_12_method_50_code 22 = .ok (.getfield 69, 3) := by decide +kernel
theorem D176_25 : decode prog_12_method_50_code 25 = .ok (.iconst 0, 1) := by decide +kernel
theorem D176_26 : decode prog_12_method_50_code 26 = .ok (.laload, 1) := by decide +kernel
theorem D176_27 : decode prog_12_method_50_code 27 = .ok (.invokestatic 350, 3) := by decide +kernel
theorem D176_30 : decode prog_12_method_50_code 30 = .ok (.invokestatic 354, 3) := by decide +kernel
theorem D176_33 : decode prog_12_method_50_code 33 = .ok (.l2i, 1) := by decide +kernel
theorem D176_34 : decode prog_12_method_50_code 34 = .ok (.ireturn, 1) := by decide +kernel

theorem b176_0 {d : Nat} {i1 : Int32} {i2 : Int32} {i3 : Int32} {ia : Nat → Nat → Int32} {la : Nat → Nat → Int64} {pl dr : Nat} {cp : Option Nat} {cw : Option Nat} {rp : Option Nat} {K : Option Value → zHP → Prop}  : zWP (d + 1) 176 0 [some (.ref 127), some (.int i1), some (.int i2), some (.int i3)] [] (ia, la, zRA pl dr cp cw rp) K = zWM d 167 [.ref 127, .int i1] (ia, la, zRA pl dr cp cw rp) (zK (d + 1) 176 5 [some (.ref 127), some (.int i1), some (.int i2), some (.int i3)] [] K) := by
  refine (Q_aload_n zm_176 (Or.inl (by decide)) D176_0 rfl).trans ?_
  refine (Q_iload_n zm_176 (Or.inl (by decide)) D176_1 rfl).trans ?_
  exact Q_callv (as := [.int i1]) (b := 127) (rest := []) zm_176 (Or.inl (by decide)) D176_2 zc_10_344 rfl zk_127.1 (by decide) (by decide +kernel) (by decide) (by simp [zcat, Value.category]) zm_167 rfl

theorem b176_5 {d : Nat} {i1 : Int32} {i2 : Int32} {i3 : Int32} {s0 : Int32} {ia : Nat → Nat → Int32} {la : Nat → Nat → Int64} {pl dr : Nat} {cp : Option Nat} {cw : Option Nat} {rp : Option Nat} {K : Option Value → zHP → Prop}  : zWP (d + 1) 176 5 [some (.ref 127), some (.int i1), some (.int i2), some (.int i3)] [.int s0] (ia, la, zRA pl dr cp cw rp) K = (if s0 = 0 then K (some (.int i3)) (ia, la, zRA pl dr cp cw rp) else zWM d 166 [.ref 127, .int i1] (ia, la, zRA pl dr cp cw rp) (zK (d + 1) 176 13 [some (.ref 127), some (.int i1), some (.int i2), some (.int i3)] [] K)) := by
  refine (Q_if_eq (tgt := 16) zm_176 (Or.inl (by decide)) D176_5 (by decide)).trans ?_
  refine zif_c (fun h0_ => ?_) (fun h0_ => ?_)
  · refine (Q_iload_n zm_176 (Or.inl (by decide)) D176_16 rfl).trans ?_
    exact Q_ireturn zm_176 (Or.inl (by decide)) D176_17 rfl
  · refine (Q_aload_n zm_176 (Or.inl (by decide)) D176_8 rfl).trans ?_
    refine (Q_iload_n zm_176 (Or.inl (by decide)) D176_9 rfl).trans ?_
    exact Q_callv (as := [.int i1]) (b := 127) (rest := []) zm_176 (Or.inl (by decide)) D176_10 zc_10_347 rfl zk_127.1 (by decide) (by decide +kernel) (by decide) (by simp [zcat, Value.category]) zm_166 rfl

theorem b176_13 {d : Nat} {i1 : Int32} {i2 : Int32} {i3 : Int32} {s0 : Int32} {ia : Nat → Nat → Int32} {la : Nat → Nat → Int64} {pl dr : Nat} {cp : Option Nat} {cw : Option Nat} {rp : Option Nat} {K : Option Value → zHP → Prop}  : zWP (d + 5) 176 13 [some (.ref 127), some (.int i1), some (.int i2), some (.int i3)] [.int s0] (ia, la, zRA pl dr cp cw rp) K = (if ¬ s0 = 0 then K (some (.int ((if (if (la 146 0) < (i2).toInt64 then (la 146 0) else (i2).toInt64) < (0 : Int64) then (0 : Int64) else (if (la 146 0) < (i2).toInt64 then (la 146 0) else (i2).toInt64))).toInt32)) (ia, la, zRA pl dr cp cw rp) else K (some (.int i3)) (ia, la, zRA pl dr cp cw rp)) := by
  refine (Q_if_ne (tgt := 18) zm_176 (Or.inl (by decide)) D176_13 (by decide)).trans ?_
  refine zif_c (fun h0_ => ?_) (fun h0_ => ?_)
  · refine (Q_lconst (v := 0) zm_176 (Or.inl (by decide)) D176_18 (by decide)).trans ?_
    refine (Q_iload_n zm_176 (Or.inl (by decide)) D176_19 rfl).trans ?_
    refine (Q_i2l zm_176 (Or.inl (by decide)) D176_20).trans ?_
    refine (Q_aload_n zm_176 (Or.inl (by decide)) D176_21 rfl).trans ?_
    refine (Q_getR (q := 146) zm_176 (Or.inl (by decide)) D176_22 zf_10_69 zs_10_33 zk_127.1 rfl).trans ?_
    refine (Q_iconst (v := 0) zm_176 (Or.inl (by decide)) D176_25 (by decide)).trans ?_
    refine ((Q_laload zm_176 (Or.inl (by decide)) D176_26 zk_146.1 zk_146.2).trans (zdrop (zin_spec (by decide)))).trans ?_
    refine (Q_bis (as := [.long (i2).toInt64, .long (la 146 0)]) (rest := [.long (0 : Int64)]) zm_176 (Or.inl (by decide)) D176_27 zc_10_350 rfl (by decide) (by simp [zcat, Value.category]) rfl).trans ?_
    refine (Q_bis (as := [.long (0 : Int64), .long (if (la 146 0) < (i2).toInt64 then (la 146 0) else (i2).toInt64)]) (rest := []) zm_176 (Or.inl (by decide)) D176_30 zc_10_354 rfl (by decide) (by simp [zcat, Value.category]) rfl).trans ?_
    refine (Q_l2i zm_176 (Or.inl (by decide)) D176_33).trans ?_
    exact Q_ireturn zm_176 (Or.inl (by decide)) D176_34 rfl
  · refine (Q_iload_n zm_176 (Or.inl (by decide)) D176_16 rfl).trans ?_
    exact Q_ireturn zm_176 (Or.inl (by decide)) D176_17 rfl

/-! HandsLetModel.rentOf(IIII)I -/
theorem D177_0 : decode prog_12_method_51_code 0 = .ok (.aload_n 0, 1) := by decide +kernel
theorem D177_1 : decode prog_12_method_51_code 1 = .ok (.getfield 357, 3) := by decide +kernel
theorem D177_4 : decode prog_12_method_51_code 4 = .ok (.iconst 3, 1) := by decide +kernel
theorem D177_5 : decode prog_12_method_51_code 5 = .ok (.if_icmp .ne 5, 3) := by decide +kernel
theorem D177_8 : decode prog_12_method_51_code 8 = .ok (.iconst 0, 1) := by decide +kernel
theorem D177_9 : decode prog_12_method_51_code 9 = .ok (.ireturn, 1) := by decide +kernel
theorem D177_10 : decode prog_12_method_51_code 10 = .ok (.aload_n 0, 1) := by decide +kernel
theorem D177_11 : decode prog_12_method_51_code 11 = .ok (.iload_n 1, 1) := by decide +kernel
theorem D177_12 : decode prog_12_method_51_code 12 = .ok (.iload_n 2, 1) := by decide +kernel
theorem D177_13 : decode prog_12_method_51_code 13 = .ok (.iload_n 3, 1) := by decide +kernel
theorem D177_14 : decode prog_12_method_51_code 14 = .ok (.iload 4, 2) := by decide +kernel
theorem D177_16 : decode prog_12_method_51_code 16 = .ok (.invokevirtual 360, 3) := by decide +kernel
theorem D177_19 : decode prog_12_method_51_code 19 = .ok (.aload_n 0, 1) := by decide +kernel
theorem D177_20 : decode prog_12_method_51_code 20 = .ok (.iconst 0, 1) := by decide +kernel
theorem D177_21 : decode prog_12_method_51_code 21 = .ok (.sipush 999, 3) := by decide +kernel
theorem D177_24 : decode prog_12_method_51_code 24 = .ok (.iload 4, 2) := by decide +kernel
theorem D177_26 : decode prog_12_method_51_code 26 = .ok (.invokevirtual 364, 3) := by decide +kernel
theorem D177_29 : decode prog_12_method_51_code 29 = .ok (.ireturn, 1) := by decide +kernel

theorem b177_0 {d : Nat} {i1 : Int32} {i2 : Int32} {i3 : Int32} {i4 : Int32} {ia : Nat → Nat → Int32} {la : Nat → Nat → Int64} {pl dr : Nat} {cp : Option Nat} {cw : Option Nat} {rp : Option Nat} {K : Option Value → zHP → Prop}  : zWP (d + 1) 177 0 [some (.ref 127), some (.int i1), some (.int i2), some (.int i3), some (.int i4)] [] (ia, la, zRA pl dr cp cw rp) K = (if ¬ (ia 127 49) = (3 : Int32) then zWM d 175 [.ref 127, .int i1, .int i2, .int i3, .int i4] (ia, la, zRA pl dr cp cw rp) (zK (d + 1) 177 19 [some (.ref 127), some (.int i1), some (.int i2), some (.int i3), some (.int i4)] [] K) else K (some (.int (0 : Int32))) (ia, la, zRA pl dr cp cw rp)) := by
  refine (Q_aload_n zm_177 (Or.inl (by decide)) D177_0 rfl).trans ?_
  refine (Q_getI zm_177 (Or.inl (by decide)) D177_1 zf_10_357 (Or.inl zs_10_49) zk_127.1).trans ?_
  refine (Q_iconst (v := 3) zm_177 (Or.inl (by decide)) D177_4 (by decide)).trans ?_
  refine (Q_ic_ne (tgt := 10) zm_177 (Or.inl (by decide)) D177_5 (by decide)).trans ?_
  refine zif_c (fun h0_ => ?_) (fun h0_ => ?_)
  · refine (Q_aload_n zm_177 (Or.inl (by decide)) D177_10 rfl).trans ?_
    refine (Q_iload_n zm_177 (Or.inl (by decide)) D177_11 rfl).trans ?_
    refine (Q_iload_n zm_177 (Or.inl (by decide)) D177_12 rfl).trans ?_
    refine (Q_iload_n zm_177 (Or.inl (by decide)) D177_13 rfl).trans ?_
    refine (Q_iload zm_177 (Or.inl (by decide)) D177_14 rfl).trans ?_
    exact Q_callv (as := [.int i1, .int i2, .int i3, .int i4]) (b := 127) (rest := []) zm_177 (Or.inl (by decide)) D177_16 zc_10_360 rfl zk_127.1 (by decide) (by decide +kernel) (by decide) (by simp [zcat, Value.category]) zm_175 rfl
  · refine (Q_iconst (v := 0) zm_177 (Or.inl (by decide)) D177_8 (by decide)).trans ?_
    exact Q_ireturn zm_177 (Or.inl (by decide)) D177_9 rfl

theorem b177_19 {d : Nat} {i1 : Int32} {i2 : Int32} {i3 : Int32} {i4 : Int32} {ia : Nat → Nat → Int32} {la : Nat → Nat → Int64} {pl dr : Nat} {cp : Option Nat} {cw : Option Nat} {rp : Option Nat} {K : Option Value → zHP → Prop}  : zWP (d + 1) 177 19 [some (.ref 127), some (.int i1), some (.int i2), some (.int i3), some (.int i4)] [] (ia, la, zRA pl dr cp cw rp) K = zWM d 176 [.ref 127, .int (0 : Int32), .int (999 : Int32), .int i4] (ia, la, zRA pl dr cp cw rp) (zK (d + 1) 177 29 [some (.ref 127), some (.int i1), some (.int i2), some (.int i3), some (.int i4)] [] K) := by
  refine (Q_aload_n zm_177 (Or.inl (by decide)) D177_19 rfl).trans ?_
  refine (Q_iconst (v := 0) zm_177 (Or.inl (by decide)) D177_20 (by decide)).trans ?_
  refine (Q_sipush (v := 999) zm_177 (Or.inl (by decide)) D177_21 (by decide)).trans ?_
  refine (Q_iload zm_177 (Or.inl (by decide)) D177_24 rfl).trans ?_
  exact Q_callv (as := [.int (0 : Int32), .int (999 : Int32), .int i4]) (b := 127) (rest := []) zm_177 (Or.inl (by decide)) D177_26 zc_10_364 rfl zk_127.1 (by decide) (by decide +kernel) (by decide) (by simp [zcat, Value.category]) zm_176 rfl

theorem b177_29 {d : Nat} {i1 : Int32} {i2 : Int32} {i3 : Int32} {i4 : Int32} {s0 : Int32} {ia : Nat → Nat → Int32} {la : Nat → Nat → Int64} {pl dr : Nat} {cp : Option Nat} {cw : Option Nat} {rp : Option Nat} {K : Option Value → zHP → Prop}  : zWP d 177 29 [some (.ref 127), some (.int i1), some (.int i2), some (.int i3), some (.int i4)] [.int s0] (ia, la, zRA pl dr cp cw rp) K = K (some (.int s0)) (ia, la, zRA pl dr cp cw rp) := by
  exact Q_ireturn zm_177 (Or.inl (by decide)) D177_29 rfl

/-! HandsLetModel.canLet(IIII)Z -/
theorem D178_0 : decode prog_12_method_52_code 0 = .ok (.aload_n 0, 1) := by decide +kernel
theorem D178_1 : decode prog_12_method_52_code 1 = .ok (.iload_n 1, 1) := by decide +kernel
theorem D178_2 : decode prog_12_method_52_code 2 = .ok (.iload_n 2, 1) := by decide +kernel
theorem D178_3 : decode prog_12_method_52_code 3 = .ok (.invokevirtual 340, 3) := by decide +kernel
theorem D178_6 : decode prog_12_method_52_code 6 = .ok (.ifCond .ne 30, 3) := by decide +kernel
theorem D178_9 : decode prog_12_method_52_code 9 = .ok (.aload_n 0, 1) := by decide +kernel
theorem D178_10 : decode prog_12_method_52_code 10 = .ok (.getfield 99, 3) := by decide +kernel
theorem D178_13 : decode prog_12_method_52_code 13 = .ok (.bipush 6, 2) := by decide +kernel
theorem D178_15 : decode prog_12_method_52_code 15 = .ok (.iload_n 1, 1) := by decide +kernel
theorem D178_16 : decode prog_12_method_52_code 16 = .ok (.imul, 1) := by decide +kernel
theorem D178_17 : decode prog_12_method_52_code 17 = .ok (.iload_n 3, 1) := by decide +kernel
theorem D178_18 : decode prog_12_method_52_code 18 = .ok (.iadd, 1) := by decide +kernel
theorem D178_19 : decode prog_12_method_52_code 19 = .ok (.iaload, 1) := by decide +kernel
theorem D178_20 : decode prog_12_method_52_code 20 = .ok (.aload_n 0, 1) := by decide +kernel
theorem D178_21 : decode prog_12_method_52_code 21 = .ok (.iload_n 1, 1) := by decide +kernel
theorem D178_22 : decode prog_12_method_52_code 22 = .ok (.iload_n 2, 1) := by decide +kernel
theorem D178_23 : decode prog_12_method_52_code 23 = .ok (.iload_n 3, 1) := by decide +kernel
theorem D178_24 : decode prog_12_method_52_code 24 = .ok (.iload 4, 2) := by decide +kernel
theorem D178_26 : decode prog_12_method_52_code 26 = .ok (.invokevirtual 368, 3) := by decide +kernel
theorem D178_29 : decode prog_12_method_52_code 29 = .ok (.if_icmp .lt 7, 3) := by decide +kernel
theorem D178_32 : decode prog_12_method_52_code 32 = .ok (.iconst 1, 1) := by decide +kernel
theorem D178_33 : decode prog_12_method_52_code 33 = .ok (.goto 4, 3) := by decide +kernel
theorem D178_36 : decode prog_12_method_52_code 36 = .ok (.iconst 0, 1) := by decide +kernel
theorem D178_37 : decode prog_12_method_52_code 37 = .ok (.ireturn, 1) := by decide +kernel

theorem b178_0 {d : Nat} {i1 : Int32} {i2 : Int32} {i3 : Int32} {i4 : Int32} {ia : Nat → Nat → Int32} {la : Nat → Nat → Int64} {pl dr : Nat} {cp : Option Nat} {cw : Option Nat} {rp : Option Nat} {K : Option Value → zHP → Prop}  : zWP (d + 1) 178 0 [some (.ref 127), some (.int i1), some (.int i2), some (.int i3), some (.int i4)] [] (ia, la, zRA pl dr cp cw rp) K = zWM d 172 [.ref 127, .int i1, .int i2] (ia, la, zRA pl dr cp cw rp) (zK (d + 1) 178 6 [some (.ref 127), some (.int i1), some (.int i2), some (.int i3), some (.int i4)] [] K) := by
  refine (Q_aload_n zm_178 (Or.inl (by decide)) D178_0 rfl).trans ?_
  refine (Q_iload_n zm_178 (Or.inl (by decide)) D178_1 rfl).trans ?_
  refine (Q_iload_n zm_178 (Or.inl (by decide)) D178_2 rfl).trans ?_
  exact Q_callv (as := [.int i1, .int i2]) (b := 127) (rest := []) zm_178 (Or.inl (by decide)) D178_3 zc_10_340 rfl zk_127.1 (by decide) (by decide +kernel) (by decide) (by simp [zcat, Value.category]) zm_172 rfl

theorem b178_6 {d : Nat} {i1 : Int32} {i2 : Int32} {i3 : Int32} {i4 : Int32} {s0 : Int32} {ia : Nat → Nat → Int32} {la : Nat → Nat → Int64} {pl dr : Nat} {cp : Option Nat} {cw : Option Nat} {rp : Option Nat} {K : Option Value → zHP → Prop}  : zWP (d + 1) 178 6 [some (.ref 127), some (.int i1), some (.int i2), some (.int i3), some (.int i4)] [.int s0] (ia, la, zRA pl dr cp cw rp) K = (if ¬ s0 = 0 then K (some (.int (0 : Int32))) (ia, la, zRA pl dr cp cw rp) else (vp_in (((6 : Int32) * i1) + i3) 138 ∧ zWM d 177 [.ref 127, .int i1, .int i2, .int i3, .int i4] (ia, la, zRA pl dr cp cw rp) (zK (d + 1) 178 29 [some (.ref 127), some (.int i1), some (.int i2), some (.int i3), some (.int i4)] [.int (ia 156 ((((6 : Int32) * i1) + i3)).toNatClampNeg)] K))) := by
  refine (Q_if_ne (tgt := 36) zm_178 (Or.inl (by decide)) D178_6 (by decide)).trans ?_
  refine zif_c (fun h0_ => ?_) (fun h0_ => ?_)
  · refine (Q_iconst (v := 0) zm_178 (Or.inl (by decide)) D178_36 (by decide)).trans ?_
    exact Q_zreturn zm_178 (Or.inl (by decide)) D178_37 rfl (by decide)
  · refine (Q_aload_n zm_178 (Or.inl (by decide)) D178_9 rfl).trans ?_
    refine (Q_getR (q := 156) zm_178 (Or.inl (by decide)) D178_10 zf_10_99 zs_10_44 zk_127.1 rfl).trans ?_
    refine (Q_bipush (v := 6) zm_178 (Or.inl (by decide)) D178_13 (by decide)).trans ?_
    refine (Q_iload_n zm_178 (Or.inl (by decide)) D178_15 rfl).trans ?_
    refine (Q_imul zm_178 (Or.inl (by decide)) D178_16).trans ?_
    refine (Q_iload_n zm_178 (Or.inl (by decide)) D178_17 rfl).trans ?_
    refine (Q_iadd zm_178 (Or.inl (by decide)) D178_18).trans ?_
    refine (Q_iaload zm_178 (Or.inl (by decide)) D178_19 zk_156.1 zk_156.2).trans ?_
    refine zand_c (fun h1_ => ?_)
    refine (Q_aload_n zm_178 (Or.inl (by decide)) D178_20 rfl).trans ?_
    refine (Q_iload_n zm_178 (Or.inl (by decide)) D178_21 rfl).trans ?_
    refine (Q_iload_n zm_178 (Or.inl (by decide)) D178_22 rfl).trans ?_
    refine (Q_iload_n zm_178 (Or.inl (by decide)) D178_23 rfl).trans ?_
    refine (Q_iload zm_178 (Or.inl (by decide)) D178_24 rfl).trans ?_
    exact Q_callv (as := [.int i1, .int i2, .int i3, .int i4]) (b := 127) (rest := [.int (ia 156 ((((6 : Int32) * i1) + i3)).toNatClampNeg)]) zm_178 (Or.inl (by decide)) D178_26 zc_10_368 rfl zk_127.1 (by decide) (by decide +kernel) (by decide) (by simp [zcat, Value.category]) zm_177 rfl

theorem b178_29 {d : Nat} {i1 : Int32} {i2 : Int32} {i3 : Int32} {i4 : Int32} {s0 : Int32} {s1 : Int32} {ia : Nat → Nat → Int32} {la : Nat → Nat → Int64} {pl dr : Nat} {cp : Option Nat} {cw : Option Nat} {rp : Option Nat} {K : Option Value → zHP → Prop}  : zWP d 178 29 [some (.ref 127), some (.int i1), some (.int i2), some (.int i3), some (.int i4)] [.int s1, .int s0] (ia, la, zRA pl dr cp cw rp) K = (if s0 < s1 then K (some (.int (0 : Int32))) (ia, la, zRA pl dr cp cw rp) else K (some (.int (1 : Int32))) (ia, la, zRA pl dr cp cw rp)) := by
  refine (Q_ic_lt (tgt := 36) zm_178 (Or.inl (by decide)) D178_29 (by decide)).trans ?_
  refine zif_c (fun h0_ => ?_) (fun h0_ => ?_)
  · refine (Q_iconst (v := 0) zm_178 (Or.inl (by decide)) D178_36 (by decide)).trans ?_
    exact Q_zreturn zm_178 (Or.inl (by decide)) D178_37 rfl (by decide)
  · refine (Q_iconst (v := 1) zm_178 (Or.inl (by decide)) D178_32 (by decide)).trans ?_
    refine (Q_goto (tgt := 37) zm_178 (Or.inl (by decide)) D178_33 (by decide)).trans ?_
    exact Q_zreturn zm_178 (Or.inl (by decide)) D178_37 rfl (by decide)

/-! HandsLetModel.lets(IIIII)V -/
theorem D179_0 : decode prog_12_method_53_code 0 = .ok (.aload_n 0, 1) := by decide +kernel
theorem D179_1 : decode prog_12_method_53_code 1 = .ok (.iload_n 1, 1) := by decide +kernel
theorem D179_2 : decode prog_12_method_53_code 2 = .ok (.iload_n 2, 1) := by decide +kernel
theorem D179_3 : decode prog_12_method_53_code 3 = .ok (.iload_n 3, 1) := by decide +kernel
theorem D179_4 : decode prog_12_method_53_code 4 = .ok (.iload 5, 2) := by decide +kernel
theorem D179_6 : decode prog_12_method_53_code 6 = .ok (.invokevirtual 368, 3) := by decide +kernel
theorem D179_9 : decode prog_12_method_53_code 9 = .ok (.istore 6, 2) := by decide +kernel
theorem D179_11 : decode prog_12_method_53_code 11 = .ok (.aload_n 0, 1) := by decide +kernel
theorem D179_12 : decode prog_12_method_53_code 12 = .ok (.getfield 90, 3) := by decide +kernel
theorem D179_15 : decode prog_12_method_53_code 15 = .ok (.bipush 6, 2) := by decide +kernel
theorem D179_17 : decode prog_12_method_53_code 17 = .ok (.iload_n 1, 1) := by decide +kernel
theorem D179_18 : decode prog_12_method_53_code 18 = .ok (.imul, 1) := by decide +kernel
theorem D179_19 : decode prog_12_method_53_code 19 = .ok (.iload_n 2, 1) := by decide +kernel
theorem D179_20 : decode prog_12_method_53_code 20 = .ok (.iadd, 1) := by decide +kernel
theorem D179_21 : decode prog_12_method_53_code 21 = .ok (.iload_n 3, 1) := by decide +kernel
theorem D179_22 : decode prog_12_method_53_code 22 = .ok (.iastore, 1) := by decide +kernel
theorem D179_23 : decode prog_12_method_53_code 23 = .ok (.aload_n 0, 1) := by decide +kernel
theorem D179_24 : decode prog_12_method_53_code 24 = .ok (.getfield 93, 3) := by decide +kernel
theorem D179_27 : decode prog_12_method_53_code 27 = .ok (.bipush 6, 2) := by decide +kernel
theorem D179_29 : decode prog_12_method_53_code 29 = .ok (.iload_n 1, 1) := by decide +kernel
theorem D179_30 : decode prog_12_method_53_code 30 = .ok (.imul, 1) := by decide +kernel
theorem D179_31 : decode prog_12_method_53_code 31 = .ok (.iload_n 2, 1) := by decide +kernel
theorem D179_32 : decode prog_12_method_53_code 32 = .ok (.iadd, 1) := by decide +kernel
theorem D179_33 : decode prog_12_method_53_code 33 = .ok (.iload 4, 2) := by decide +kernel
theorem D179_35 : decode prog_12_method_53_code 35 = .ok (.iastore, 1) := by decide +kernel
theorem D179_36 : decode prog_12_method_53_code 36 = .ok (.aload_n 0, 1) := by decide +kernel
theorem D179_37 : decode prog_12_method_53_code 37 = .ok (.getfield 99, 3) := by decide +kernel
theorem D179_40 : decode prog_12_method_53_code 40 = .ok (.bipush 6, 2) := by decide +kernel
theorem D179_42 : decode prog_12_method_53_code 42 = .ok (.iload_n 1, 1) := by decide +kernel
theorem D179_43 : decode prog_12_method_53_code 43 = .ok (.imul, 1) := by decide +kernel
theorem D179_44 : decode prog_12_method_53_code 44 = .ok (.iload_n 3, 1) := by decide +kernel
theorem D179_45 : decode prog_12_method_53_code 45 = .ok (.iadd, 1) := by decide +kernel
theorem D179_46 : decode prog_12_method_53_code 46 = .ok (.dup2, 1) := by decide +kernel
theorem D179_47 : decode prog_12_method_53_code 47 = .ok (.iaload, 1) := by decide +kernel
theorem D179_48 : decode prog_12_method_53_code 48 = .ok (.iload 6, 2) := by decide +kernel
theorem D179_50 : decode prog_12_method_53_code 50 = .ok (.isub, 1) := by decide +kernel
theorem D179_51 : decode prog_12_method_53_code 51 = .ok (.iastore, 1) := by decide +kernel
theorem D179_52 : decode prog_12_method_53_code 52 = .ok (.aload_n 0, 1) := by decide +kernel
theorem D179_53 : decode prog_12_method_53_code 53 = .ok (.getfield 99, 3) := by decide +kernel
theorem D179_56 : decode prog_12_method_53_code 56 = .ok (.bipush 6, 2) := by decide +kernel
theorem D179_58 : decode prog_12_method_53_code 58 = .ok (.iload_n 1, 1) := by decide +kernel
theorem D179_59 : decode prog_12_method_53_code 59 = .ok (.imul, 1) := by decide +kernel
theorem D179_60 : decode prog_12_method_53_code 60 = .ok (.iload_n 2, 1) := by decide +kernel
theorem D179_61 : decode prog_12_method_53_code 61 = .ok (.iadd, 1) := by decide +kernel
theorem D179_62 : decode prog_12_method_53_code 62 = .ok (.sipush 9999, 3) := by decide +kernel
theorem D179_65 : decode prog_12_method_53_code 65 = .ok (.aload_n 0, 1) := by decide +kernel
theorem D179_66 : decode prog_12_method_53_code 66 = .ok (.getfield 99, 3) := by decide +kernel
theorem D179_69 : decode prog_12_method_53_code 69 = .ok (.bipush 6, 2) := by decide +kernel
theorem D179_71 : decode prog_12_method_53_code 71 = .ok (.iload_n 1, 1) := by decide +kernel
theorem D179_72 : decode prog_12_method_53_code 72 = .ok (.imul, 1) := by decide +kernel
theorem D179_73 : decode prog_12_method_53_code 73 = .ok (.iload_n 2, 1) := by decide +kernel
theorem D179_74 : decode prog_12_method_53_code 74 = .ok (.iadd, 1) := by decide +kernel
theorem D179_75 : decode prog_12_method_53_code 75 = .ok (.iaload, 1) := by decide +kernel
theorem D179_76 : decode prog_12_method_53_code 76 = .ok (.iload 6, 2) := by decide +kernel
theorem D179_78 : decode prog_12_method_53_code 78 = .ok (.iadd, 1) := by decide +kernel
theorem D179_79 : decode prog_12_method_53_code 79 = .ok (.invokestatic 372, 3) := by decide +kernel
theorem D179_82 : decode prog_12_method_53_code 82 = .ok (.iastore, 1) := by decide +kernel
theorem D179_83 : decode prog_12_method_53_code 83 = .ok (.return_, 1) := by decide +kernel

theorem b179_0 {d : Nat} {i1 : Int32} {i2 : Int32} {i3 : Int32} {i4 : Int32} {i5 : Int32} {ia : Nat → Nat → Int32} {la : Nat → Nat → Int64} {pl dr : Nat} {cp : Option Nat} {cw : Option Nat} {rp : Option Nat} {K : Option Value → zHP → Prop}  : zWP (d + 1) 179 0 [some (.ref 127), some (.int i1), some (.int i2), some (.int i3), some (.int i4), some (.int i5), none] [] (ia, la, zRA pl dr cp cw rp) K = zWM d 177 [.ref 127, .int i1, .int i2, .int i3, .int i5] (ia, la, zRA pl dr cp cw rp) (zK (d + 1) 179 9 [some (.ref 127), some (.int i1), some (.int i2), some (.int i3), some (.int i4), some (.int i5), none] [] K) := by
  refine (Q_aload_n zm_179 (Or.inl (by decide)) D179_0 rfl).trans ?_
  refine (Q_iload_n zm_179 (Or.inl (by decide)) D179_1 rfl).trans ?_
  refine (Q_iload_n zm_179 (Or.inl (by decide)) D179_2 rfl).trans ?_
  refine (Q_iload_n zm_179 (Or.inl (by decide)) D179_3 rfl).trans ?_
  refine (Q_iload zm_179 (Or.inl (by decide)) D179_4 rfl).trans ?_
  exact Q_callv (as := [.int i1, .int i2, .int i3, .int i5]) (b := 127) (rest := []) zm_179 (Or.inl (by decide)) D179_6 zc_10_368 rfl zk_127.1 (by decide) (by decide +kernel) (by decide) (by simp [zcat, Value.category]) zm_177 rfl

theorem b179_9 {d : Nat} {i1 : Int32} {i2 : Int32} {i3 : Int32} {i4 : Int32} {i5 : Int32} {s0 : Int32} {ia : Nat → Nat → Int32} {la : Nat → Nat → Int64} {pl dr : Nat} {cp : Option Nat} {cw : Option Nat} {rp : Option Nat} {K : Option Value → zHP → Prop}  : zWP (d + 5) 179 9 [some (.ref 127), some (.int i1), some (.int i2), some (.int i3), some (.int i4), some (.int i5), none] [.int s0] (ia, la, zRA pl dr cp cw rp) K = (vp_in (((6 : Int32) * i1) + i2) 138 ∧ (vp_in (((6 : Int32) * i1) + i3) 138 ∧ K none ((zu (zu (zu (zu ia 153 ((((6 : Int32) * i1) + i2)).toNatClampNeg i3) 154 ((((6 : Int32) * i1) + i2)).toNatClampNeg i4) 156 ((((6 : Int32) * i1) + i3)).toNatClampNeg (((zu (zu ia 153 ((((6 : Int32) * i1) + i2)).toNatClampNeg i3) 154 ((((6 : Int32) * i1) + i2)).toNatClampNeg i4) 156 ((((6 : Int32) * i1) + i3)).toNatClampNeg) - s0)) 156 ((((6 : Int32) * i1) + i2)).toNatClampNeg (if (((zu (zu (zu ia 153 ((((6 : Int32) * i1) + i2)).toNatClampNeg i3) 154 ((((6 : Int32) * i1) + i2)).toNatClampNeg i4) 156 ((((6 : Int32) * i1) + i3)).toNatClampNeg (((zu (zu ia 153 ((((6 : Int32) * i1) + i2)).toNatClampNeg i3) 154 ((((6 : Int32) * i1) + i2)).toNatClampNeg i4) 156 ((((6 : Int32) * i1) + i3)).toNatClampNeg) - s0)) 156 ((((6 : Int32) * i1) + i2)).toNatClampNeg) + s0) < (9999 : Int32) then (((zu (zu (zu ia 153 ((((6 : Int32) * i1) + i2)).toNatClampNeg i3) 154 ((((6 : Int32) * i1) + i2)).toNatClampNeg i4) 156 ((((6 : Int32) * i1) + i3)).toNatClampNeg (((zu (zu ia 153 ((((6 : Int32) * i1) + i2)).toNatClampNeg i3) 154 ((((6 : Int32) * i1) + i2)).toNatClampNeg i4) 156 ((((6 : Int32) * i1) + i3)).toNatClampNeg) - s0)) 156 ((((6 : Int32) * i1) + i2)).toNatClampNeg) + s0) else (9999 : Int32))), la, zRA pl dr cp cw rp))) := by
  refine (Q_istore (ls' := [some (.ref 127), some (.int i1), some (.int i2), some (.int i3), some (.int i4), some (.int i5), some (.int s0)]) zm_179 (Or.inl (by decide)) D179_9 rfl (Nat.le_of_ble_eq_true rfl) rfl).trans ?_
  refine (Q_aload_n zm_179 (Or.inl (by decide)) D179_11 rfl).trans ?_
  refine (Q_getR (q := 153) zm_179 (Or.inl (by decide)) D179_12 zf_10_90 zs_10_41 zk_127.1 rfl).trans ?_
  refine (Q_bipush (v := 6) zm_179 (Or.inl (by decide)) D179_15 (by decide)).trans ?_
  refine (Q_iload_n zm_179 (Or.inl (by decide)) D179_17 rfl).trans ?_
  refine (Q_imul zm_179 (Or.inl (by decide)) D179_18).trans ?_
  refine (Q_iload_n zm_179 (Or.inl (by decide)) D179_19 rfl).trans ?_
  refine (Q_iadd zm_179 (Or.inl (by decide)) D179_20).trans ?_
  refine (Q_iload_n zm_179 (Or.inl (by decide)) D179_21 rfl).trans ?_
  refine (Q_iastore zm_179 (Or.inl (by decide)) D179_22 zk_153.1 zk_153.2).trans ?_
  refine zand_c (fun h0_ => ?_)
  refine (Q_aload_n zm_179 (Or.inl (by decide)) D179_23 rfl).trans ?_
  refine (Q_getR (q := 154) zm_179 (Or.inl (by decide)) D179_24 zf_10_93 zs_10_42 zk_127.1 rfl).trans ?_
  refine (Q_bipush (v := 6) zm_179 (Or.inl (by decide)) D179_27 (by decide)).trans ?_
  refine (Q_iload_n zm_179 (Or.inl (by decide)) D179_29 rfl).trans ?_
  refine (Q_imul zm_179 (Or.inl (by decide)) D179_30).trans ?_
  refine (Q_iload_n zm_179 (Or.inl (by decide)) D179_31 rfl).trans ?_
  refine (Q_iadd zm_179 (Or.inl (by decide)) D179_32).trans ?_
  refine (Q_iload zm_179 (Or.inl (by decide)) D179_33 rfl).trans ?_
  refine ((Q_iastore zm_179 (Or.inl (by decide)) D179_35 zk_154.1 zk_154.2).trans (zdrop h0_)).trans ?_
  refine (Q_aload_n zm_179 (Or.inl (by decide)) D179_36 rfl).trans ?_
  refine (Q_getR (q := 156) zm_179 (Or.inl (by decide)) D179_37 zf_10_99 zs_10_44 zk_127.1 rfl).trans ?_
  refine (Q_bipush (v := 6) zm_179 (Or.inl (by decide)) D179_40 (by decide)).trans ?_
  refine (Q_iload_n zm_179 (Or.inl (by decide)) D179_42 rfl).trans ?_
  refine (Q_imul zm_179 (Or.inl (by decide)) D179_43).trans ?_
  refine (Q_iload_n zm_179 (Or.inl (by decide)) D179_44 rfl).trans ?_
  refine (Q_iadd zm_179 (Or.inl (by decide)) D179_45).trans ?_
  refine (Q_dup2 zm_179 (Or.inl (by decide)) D179_46 rfl rfl).trans ?_
  refine (Q_iaload zm_179 (Or.inl (by decide)) D179_47 zk_156.1 zk_156.2).trans ?_
  refine zand_c (fun h1_ => ?_)
  refine (Q_iload zm_179 (Or.inl (by decide)) D179_48 rfl).trans ?_
  refine (Q_isub zm_179 (Or.inl (by decide)) D179_50).trans ?_
  refine ((Q_iastore zm_179 (Or.inl (by decide)) D179_51 zk_156.1 zk_156.2).trans (zdrop h1_)).trans ?_
  refine (Q_aload_n zm_179 (Or.inl (by decide)) D179_52 rfl).trans ?_
  refine (Q_getR (q := 156) zm_179 (Or.inl (by decide)) D179_53 zf_10_99 zs_10_44 zk_127.1 rfl).trans ?_
  refine (Q_bipush (v := 6) zm_179 (Or.inl (by decide)) D179_56 (by decide)).trans ?_
  refine (Q_iload_n zm_179 (Or.inl (by decide)) D179_58 rfl).trans ?_
  refine (Q_imul zm_179 (Or.inl (by decide)) D179_59).trans ?_
  refine (Q_iload_n zm_179 (Or.inl (by decide)) D179_60 rfl).trans ?_
  refine (Q_iadd zm_179 (Or.inl (by decide)) D179_61).trans ?_
  refine (Q_sipush (v := 9999) zm_179 (Or.inl (by decide)) D179_62 (by decide)).trans ?_
  refine (Q_aload_n zm_179 (Or.inl (by decide)) D179_65 rfl).trans ?_
  refine (Q_getR (q := 156) zm_179 (Or.inl (by decide)) D179_66 zf_10_99 zs_10_44 zk_127.1 rfl).trans ?_
  refine (Q_bipush (v := 6) zm_179 (Or.inl (by decide)) D179_69 (by decide)).trans ?_
  refine (Q_iload_n zm_179 (Or.inl (by decide)) D179_71 rfl).trans ?_
  refine (Q_imul zm_179 (Or.inl (by decide)) D179_72).trans ?_
  refine (Q_iload_n zm_179 (Or.inl (by decide)) D179_73 rfl).trans ?_
  refine (Q_iadd zm_179 (Or.inl (by decide)) D179_74).trans ?_
  refine ((Q_iaload zm_179 (Or.inl (by decide)) D179_75 zk_156.1 zk_156.2).trans (zdrop h0_)).trans ?_
  refine (Q_iload zm_179 (Or.inl (by decide)) D179_76 rfl).trans ?_
  refine (Q_iadd zm_179 (Or.inl (by decide)) D179_78).trans ?_
  refine (Q_bis (as := [.int (9999 : Int32), .int (((zu (zu (zu ia 153 ((((6 : Int32) * i1) + i2)).toNatClampNeg i3) 154 ((((6 : Int32) * i1) + i2)).toNatClampNeg i4) 156 ((((6 : Int32) * i1) + i3)).toNatClampNeg (((zu (zu ia 153 ((((6 : Int32) * i1) + i2)).toNatClampNeg i3) 154 ((((6 : Int32) * i1) + i2)).toNatClampNeg i4) 156 ((((6 : Int32) * i1) + i3)).toNatClampNeg) - s0)) 156 ((((6 : Int32) * i1) + i2)).toNatClampNeg) + s0)]) (rest := [.int (((6 : Int32) * i1) + i2), .ref 156]) zm_179 (Or.inl (by decide)) D179_79 zc_10_372 rfl (by decide) (by simp [zcat, Value.category]) rfl).trans ?_
  refine ((Q_iastore zm_179 (Or.inl (by decide)) D179_82 zk_156.1 zk_156.2).trans (zdrop h0_)).trans ?_
  exact Q_return zm_179 (Or.inl (by decide)) D179_83 rfl

/-! HandsLetModel.writes(II)V -/
theorem D180_0 : decode prog_12_method_54_code 0 = .ok (.aload_n 0, 1) := by decide +kernel
theorem D180_1 : decode prog_12_method_54_code 1 = .ok (.getfield 43, 3) := by decide +kernel
theorem D180_4 : decode prog_12_method_54_code 4 = .ok (.iload_n 2, 1) := by decide +kernel
theorem D180_5 : decode prog_12_method_54_code 5 = .ok (.iaload, 1) := by decide +kernel
theorem D180_6 : decode prog_12_method_54_code 6 = .ok (.istore_n 3, 1) := by decide +kernel
theorem D180_7 : decode prog_12_method_54_code 7 = .ok (.aload_n 0, 1) := by decide +kernel
theorem D180_8 : decode prog_12_method_54_code 8 = .ok (.getfield 40, 3) := by decide +kernel
theorem D180_11 : decode prog_12_method_54_code 11 = .ok (.iload_n 2, 1) := by decide +kernel
theorem D180_12 : decode prog_12_method_54_code 12 = .ok (.iaload, 1) := by decide +kernel
theorem D180_13 : decode prog_12_method_54_code 13 = .ok (.istore 4, 2) := by decide +kernel
theorem D180_15 : decode prog_12_method_54_code 15 = .ok (.bipush 12, 2) := by decide +kernel
theorem D180_17 : decode prog_12_method_54_code 17 = .ok (.iload_n 1, 1) := by decide +kernel
theorem D180_18 : decode prog_12_method_54_code 18 = .ok (.imul, 1) := by decide +kernel
theorem D180_19 : decode prog_12_method_54_code 19 = .ok (.iload_n 2, 1) := by decide +kernel
theorem D180_20 : decode prog_12_method_54_code 20 = .ok (.iadd, 1) := by decide +kernel
theorem D180_21 : decode prog_12_method_54_code 21 = .ok (.istore 5, 2) := by decide +kernel
theorem D180_23 : decode prog_12_method_54_code 23 = .ok (.aload_n 0, 1) := by decide +kernel
theorem D180_24 : decode prog_12_method_54_code 24 = .ok (.iload_n 1, 1) := by decide +kernel
theorem D180_25 : decode prog_12_method_54_code 25 = .ok (.iload_n 3, 1) := by decide +kernel
theorem D180_26 : decode prog_12_method_54_code 26 = .ok (.invokevirtual 374, 3) := by decide +kernel
theorem D180_29 : decode prog_12_method_54_code 29 = .ok (.iload 4, 2) := by decide +kernel
theorem D180_31 : decode prog_12_method_54_code 31 = .ok (.if_icmp .ne 7, 3) := by decide +kernel
theorem D180_34 : decode prog_12_method_54_code 34 = .ok (.iconst 1, 1) := by decide +kernel
theorem D180_35 : decode prog_12_method_54_code 35 = .ok (.goto 4, 3) := by decide +kernel
theorem D180_38 : decode prog_12_method_54_code 38 = .ok (.iconst 0, 1) := by decide +kernel
theorem D180_39 : decode prog_12_method_54_code 39 = .ok (.istore 6, 2) := by decide +kernel
theorem D180_41 : decode prog_12_method_54_code 41 = .ok (.aload_n 0, 1) := by decide +kernel
theorem D180_42 : decode prog_12_method_54_code 42 = .ok (.getfield 102, 3) := by decide +kernel
theorem D180_45 : decode prog_12_method_54_code 45 = .ok (.iload 5, 2) := by decide +kernel
theorem D180_47 : decode prog_12_method_54_code 47 = .ok (.iload 6, 2) := by decide +kernel
theorem D180_49 : decode prog_12_method_54_code 49 = .ok (.ifCond .eq 7, 3) := by decide +kernel
theorem D180_52 : decode prog_12_method_54_code 52 = .ok (.iconst 1, 1) := by decide +kernel
theorem D180_53 : decode prog_12_method_54_code 53 = .ok (.goto 4, 3) := by decide +kernel
theorem D180_56 : decode prog_12_method_54_code 56 = .ok (.iconst 2, 1) := by decide +kernel
theorem D180_57 : decode prog_12_method_54_code 57 = .ok (.iastore, 1) := by decide +kernel
theorem D180_58 : decode prog_12_method_54_code 58 = .ok (.iconst 0, 1) := by decide +kernel
theorem D180_59 : decode prog_12_method_54_code 59 = .ok (.istore 7, 2) := by decide +kernel
theorem D180_61 : decode prog_12_method_54_code 61 = .ok (.iload 7, 2) := by decide +kernel
theorem D180_63 : decode prog_12_method_54_code 63 = .ok (.iconst 3, 1) := by decide +kernel
theorem D180_64 : decode prog_12_method_54_code 64 = .ok (.if_icmp .ge 70, 3) := by decide +kernel
theorem D180_67 : decode prog_12_method_54_code 67 = .ok (.aload_n 0, 1) := by decide +kernel
theorem D180_68 : decode prog_12_method_54_code 68 = .ok (.getfield 87, 3) := by decide +kernel
theorem D180_71 : decode prog_12_method_54_code 71 = .ok (.iconst 3, 1) := by decide +kernel
theorem D180_72 : decode prog_12_method_54_code 72 = .ok (.bipush 6, 2) := by decide +kernel
theorem D180_74 : decode prog_12_method_54_code 74 = .ok (.iload_n 1, 1) := by decide +kernel
theorem D180_75 : decode prog_12_method_54_code 75 = .ok (.imul, 1) := by decide +kernel
theorem D180_76 : decode prog_12_method_54_code 76 = .ok (.iload_n 3, 1) := by decide +kernel
theorem D180_77 : decode prog_12_method_54_code 77 = .ok (.iadd, 1) := by decide +kernel
theorem D180_78 : decode prog_12_method_54_code 78 = .ok (.imul, 1) := by decide +kernel
theorem D180_79 : decode prog_12_method_54_code 79 = .ok (.iload 7, 2) := by decide +kernel
theorem D180_81 : decode prog_12_method_54_code 81 = .ok (.iadd, 1) := by decide +kernel
theorem D180_82 : decode prog_12_method_54_code 82 = .ok (.iaload, 1) := by decide +kernel
theorem D180_83 : decode prog_12_method_54_code 83 = .ok (.istore 8, 2) := by decide +kernel
theorem D180_85 : decode prog_12_method_54_code 85 = .ok (.aload_n 0, 1) := by decide +kernel
theorem D180_86 : decode prog_12_method_54_code 86 = .ok (.getfield 105, 3) := by decide +kernel
theorem D180_89 : decode prog_12_method_54_code 89 = .ok (.iconst 3, 1) := by decide +kernel
theorem D180_90 : decode prog_12_method_54_code 90 = .ok (.iload 5, 2) := by decide +kernel
theorem D180_92 : decode prog_12_method_54_code 92 = .ok (.imul, 1) := by decide +kernel
theorem D180_93 : decode prog_12_method_54_code 93 = .ok (.iload 7, 2) := by decide +kernel
theorem D180_95 : decode prog_12_method_54_code 95 = .ok (.iadd, 1) := by decide +kernel
theorem D180_96 : decode prog_12_method_54_code 96 = .ok (.iload 6, 2) := by decide +kernel
theorem D180_98 : decode prog_12_method_54_code 98 = .ok (.ifCond .eq 8, 3) := by decide +kernel
theorem D180_101 : decode prog_12_method_54_code 101 = .ok (.iload 8, 2) := by decide +kernel
theorem D180_103 : decode prog_12_method_54_code 103 = .ok (.goto 24, 3) := by decide +kernel
theorem D180_106 : decode prog_12_method_54_code 106 = .ok (.iload 8, 2) := by decide +kernel
theorem D180_108 : decode prog_12_method_54_code 108 = .ok (.sipush 1000, 3) := by decide +kernel
theorem D180_111 : decode prog_12_method_54_code 111 = .ok (.aload_n 0, 1) := by decide +kernel
theorem D180_112 : decode prog_12_method_54_code 112 = .ok (.getfield 19, 3) := by decide +kernel
theorem D180_115 : decode prog_12_method_54_code 115 = .ok (.iconst 3, 1) := by decide +kernel
theorem D180_116 : decode prog_12_method_54_code 116 = .ok (.iload 4, 2) := by decide +kernel
theorem D180_118 : decode prog_12_method_54_code 118 = .ok (.imul, 1) := by decide +kernel
theorem D180_119 : decode prog_12_method_54_code 119 = .ok (.iload 7, 2) := by decide +kernel
theorem D180_121 : decode prog_12_method_54_code 121 = .ok (.iadd, 1) := by decide +kernel
theorem D180_122 : decode prog_12_method_54_code 122 = .ok (.iaload, 1) := by decide +kernel
theorem D180_123 : decode prog_12_method_54_code 123 = .ok (.imul, 1) := by decide +kernel
theorem D180_124 : decode prog_12_method_54_code 124 = .ok (.iadd, 1) := by decide +kernel
theorem D180_125 : decode prog_12_method_54_code 125 = .ok (.iconst 2, 1) := by decide +kernel
theorem D180_126 : decode prog_12_method_54_code 126 = .ok (.idiv, 1) := by decide +kernel
theorem D180_127 : decode prog_12_method_54_code 127 = .ok (.iastore, 1) := by decide +kernel
theorem D180_128 : decode prog_12_method_54_code 128 = .ok (.iinc 7 1, 3) := by decide +kernel
theorem D180_131 : decode prog_12_method_54_code 131 = .ok (.goto (-70), 3) := by decide +kernel
theorem D180_134 : decode prog_12_method_54_code 134 = .ok (.iconst 0, 1) := by decide +kernel
theorem D180_135 : decode prog_12_method_54_code 135 = .ok (.istore 7, 2) := by decide +kernel
theorem D180_137 : decode prog_12_method_54_code 137 = .ok (.iload 7, 2) := by decide +kernel
theorem D180_139 : decode prog_12_method_54_code 139 = .ok (.iload_n 2, 1) := by decide +kernel
theorem D180_140 : decode prog_12_method_54_code 140 = .ok (.if_icmp .ge 75, 3) := by decide +kernel
theorem D180_143 : decode prog_12_method_54_code 143 = .ok (.aload_n 0, 1) := by decide +kernel
theorem D180_144 : decode prog_12_method_54_code 144 = .ok (.getfield 46, 3) := by decide +kernel
theorem D180_147 : decode prog_12_method_54_code 147 = .ok (.iload 7, 2) := by decide +kernel
theorem D180_149 : decode prog_12_method_54_code 149 = .ok (.iaload, 1) := by decide +kernel
theorem D180_150 : decode prog_12_method_54_code 150 = .ok (.aload_n 0, 1) := by decide +kernel
theorem D180_151 : decode prog_12_method_54_code 151 = .ok (.getfield 72, 3) := by decide +kernel
theorem D180_154 : decode prog_12_method_54_code 154 = .ok (.iload_n 1, 1) := by decide +kernel
theorem D180_155 : decode prog_12_method_54_code 155 = .ok (.iaload, 1) := by decide +kernel
theorem D180_156 : decode prog_12_method_54_code 156 = .ok (.if_icmp .ne 33, 3) := by decide +kernel
theorem D180_159 : decode prog_12_method_54_code 159 = .ok (.aload_n 0, 1) := by decide +kernel
theorem D180_160 : decode prog_12_method_54_code 160 = .ok (.getfield 43, 3) := by decide +kernel
theorem D180_163 : decode prog_12_method_54_code 163 = .ok (.iload 7, 2) := by decide +kernel
theorem D180_165 : decode prog_12_method_54_code 165 = .ok (.iaload, 1) := by decide +kernel
theorem D180_166 : decode prog_12_method_54_code 166 = .ok (.iload_n 3, 1) := by decide +kernel
theorem D180_167 : decode prog_12_method_54_code 167 = .ok (.if_icmp .ne 22, 3) := by decide +kernel
theorem D180_170 : decode prog_12_method_54_code 170 = .ok (.aload_n 0, 1) := by decide +kernel
theorem D180_171 : decode prog_12_method_54_code 171 = .ok (.getfield 102, 3) := by decide +kernel
theorem D180_174 : decode prog_12_method_54_code 174 = .ok (.bipush 12, 2) := by decide +kernel
theorem D180_176 : decode prog_12_method_54_code 176 = .ok (.iload_n 1, 1) := by decide +kernel
theorem D180_177 : decode prog_12_method_54_code 177 = .ok (.imul, 1) := by decide +kernel
theorem D180_178 : decode prog_12_method_54_code 178 = .ok (.iload 7, 2) := by decide +kernel
theorem D180_180 : decode prog_12_method_54_code 180 = .ok (.iadd, 1) := by decide +kernel
theorem D180_181 : decode prog_12_method_54_code 181 = .ok (.iaload, 1) := by decide +kernel
theorem D180_182 : decode prog_12_method_54_code 182 = .ok (.ifCond .eq 7, 3) := by decide +kernel
theorem D180_185 : decode prog_12_method_54_code 185 = .ok (.iconst 1, 1) := by decide +kernel
theorem D180_186 : decode prog_12_method_54_code 186 = .ok (.goto 4, 3) := by decide +kernel
theorem D180_189 : decode prog_12_method_54_code 189 = .ok (.iconst 0, 1) := by decide +kernel
theorem D180_190 : decode prog_12_method_54_code 190 = .ok (.istore 8, 2) := by decide +kernel
theorem D180_192 : decode prog_12_method_54_code 192 = .ok (.iload 8, 2) := by decide +kernel
theorem D180_194 : decode prog_12_method_54_code 194 = .ok (.ifCond .eq 15, 3) := by decide +kernel
theorem D180_197 : decode prog_12_method_54_code 197 = .ok (.aload_n 0, 1) := by decide +kernel
theorem D180_198 : decode prog_12_method_54_code 198 = .ok (.getfield 81, 3) := by decide +kernel
theorem D180_201 : decode prog_12_method_54_code 201 = .ok (.iload_n 1, 1) := by decide +kernel
theorem D180_202 : decode prog_12_method_54_code 202 = .ok (.dup2, 1) := by decide +kernel
theorem D180_203 : decode prog_12_method_54_code 203 = .ok (.iaload, 1) := by decide +kernel
theorem D180_204 : decode prog_12_method_54_code 204 = .ok (.iconst 1, 1) := by decide +kernel
theorem D180_205 : decode prog_12_method_54_code 205 = .ok (.iload_n 2, 1) := by decide +kernel
theorem D180_206 : decode prog_12_method_54_code 206 = .ok (.ishl, 1) := by decide +kernel
theorem D180_207 : decode prog_12_method_54_code 207 = .ok (.ior, 1) := by decide +kernel
theorem D180_208 : decode prog_12_method_54_code 208 = .ok (.iastore, 1) := by decide +kernel
theorem D180_209 : decode prog_12_method_54_code 209 = .ok (.iinc 7 1, 3) := by decide +kernel
theorem D180_212 : decode prog_12_method_54_code 212 = .ok (.goto (-75), 3) := by decide +kernel
theorem D180_215 : decode prog_12_method_54_code 215 = .ok (.return_, 1) := by decide +kernel

theorem b180_0 {d : Nat} {i1 : Int32} {i2 : Int32} {ia : Nat → Nat → Int32} {la : Nat → Nat → Int64} {pl dr : Nat} {cp : Option Nat} {cw : Option Nat} {rp : Option Nat} {K : Option Value → zHP → Prop}  : zWP (d + 1) 180 0 [some (.ref 127), some (.int i1), some (.int i2), none, none, none, none, none, none] [] (ia, la, zRA pl dr cp cw rp) K = (vp_in i2 24 ∧ zWM d 173 [.ref 127, .int i1, .int (ia 139 (i2).toNatClampNeg)] (ia, la, zRA pl dr cp cw rp) (zK (d + 1) 180 29 [some (.ref 127), some (.int i1), some (.int i2), some (.int (ia 139 (i2).toNatClampNeg)), some (.int (ia 138 (i2).toNatClampNeg)), some (.int (((12 : Int32) * i1) + i2)), none, none, none] [] K)) := by
  refine (Q_aload_n zm_180 (Or.inl (by decide)) D180_0 rfl).trans ?_
  refine (Q_getR (q := 139) zm_180 (Or.inl (by decide)) D180_1 zf_10_43 zs_10_13 zk_127.1 rfl).trans ?_
  refine (Q_iload_n zm_180 (Or.inl (by decide)) D180_4 rfl).trans ?_
  refine (Q_iaload zm_180 (Or.inl (by decide)) D180_5 zk_139.1 zk_139.2).trans ?_
  refine zand_c (fun h0_ => ?_)
  refine (Q_istore_n (ls' := [some (.ref 127), some (.int i1), some (.int i2), some (.int (ia 139 (i2).toNatClampNeg)), none, none, none, none, none]) zm_180 (Or.inl (by decide)) D180_6 rfl (Nat.le_of_ble_eq_true rfl) rfl).trans ?_
  refine (Q_aload_n zm_180 (Or.inl (by decide)) D180_7 rfl).trans ?_
  refine (Q_getR (q := 138) zm_180 (Or.inl (by decide)) D180_8 zf_10_40 zs_10_12 zk_127.1 rfl).trans ?_
  refine (Q_iload_n zm_180 (Or.inl (by decide)) D180_11 rfl).trans ?_
  refine ((Q_iaload zm_180 (Or.inl (by decide)) D180_12 zk_138.1 zk_138.2).trans (zdrop h0_)).trans ?_
  refine (Q_istore (ls' := [some (.ref 127), some (.int i1), some (.int i2), some (.int (ia 139 (i2).toNatClampNeg)), some (.int (ia 138 (i2).toNatClampNeg)), none, none, none, none]) zm_180 (Or.inl (by decide)) D180_13 rfl (Nat.le_of_ble_eq_true rfl) rfl).trans ?_
  refine (Q_bipush (v := 12) zm_180 (Or.inl (by decide)) D180_15 (by decide)).trans ?_
  refine (Q_iload_n zm_180 (Or.inl (by decide)) D180_17 rfl).trans ?_
  refine (Q_imul zm_180 (Or.inl (by decide)) D180_18).trans ?_
  refine (Q_iload_n zm_180 (Or.inl (by decide)) D180_19 rfl).trans ?_
  refine (Q_iadd zm_180 (Or.inl (by decide)) D180_20).trans ?_
  refine (Q_istore (ls' := [some (.ref 127), some (.int i1), some (.int i2), some (.int (ia 139 (i2).toNatClampNeg)), some (.int (ia 138 (i2).toNatClampNeg)), some (.int (((12 : Int32) * i1) + i2)), none, none, none]) zm_180 (Or.inl (by decide)) D180_21 rfl (Nat.le_of_ble_eq_true rfl) rfl).trans ?_
  refine (Q_aload_n zm_180 (Or.inl (by decide)) D180_23 rfl).trans ?_
  refine (Q_iload_n zm_180 (Or.inl (by decide)) D180_24 rfl).trans ?_
  refine (Q_iload_n zm_180 (Or.inl (by decide)) D180_25 rfl).trans ?_
  exact Q_callv (as := [.int i1, .int (ia 139 (i2).toNatClampNeg)]) (b := 127) (rest := []) zm_180 (Or.inl (by decide)) D180_26 zc_10_374 rfl zk_127.1 (by decide) (by decide +kernel) (by decide) (by simp [zcat, Value.category]) zm_173 rfl

theorem b180_29 {d : Nat} {i1 : Int32} {i2 : Int32} {i3 : Int32} {i4 : Int32} {i5 : Int32} {s0 : Int32} {ia : Nat → Nat → Int32} {la : Nat → Nat → Int64} {pl dr : Nat} {cp : Option Nat} {cw : Option Nat} {rp : Option Nat} {K : Option Value → zHP → Prop}  : zWP d 180 29 [some (.ref 127), some (.int i1), some (.int i2), some (.int i3), some (.int i4), some (.int i5), none, none, none] [.int s0] (ia, la, zRA pl dr cp cw rp) K = (if ¬ s0 = i4 then zWP d 180 39 [some (.ref 127), some (.int i1), some (.int i2), some (.int i3), some (.int i4), some (.int i5), none, none, none] [.int (0 : Int32)] (ia, la, zRA pl dr cp cw rp) K else zWP d 180 39 [some (.ref 127), some (.int i1), some (.int i2), some (.int i3), some (.int i4), some (.int i5), none, none, none] [.int (1 : Int32)] (ia, la, zRA pl dr cp cw rp) K) := by
  refine (Q_iload zm_180 (Or.inl (by decide)) D180_29 rfl).trans ?_
  refine (Q_ic_ne (tgt := 38) zm_180 (Or.inl (by decide)) D180_31 (by decide)).trans ?_
  refine zif_c (fun h0_ => ?_) (fun h0_ => ?_)
  · refine (Q_iconst (v := 0) zm_180 (Or.inl (by decide)) D180_38 (by decide)).trans ?_
    rfl
  · refine (Q_iconst (v := 1) zm_180 (Or.inl (by decide)) D180_34 (by decide)).trans ?_
    refine (Q_goto (tgt := 39) zm_180 (Or.inl (by decide)) D180_35 (by decide)).trans ?_
    rfl

theorem b180_39 {d : Nat} {i1 : Int32} {i2 : Int32} {i3 : Int32} {i4 : Int32} {i5 : Int32} {s0 : Int32} {ia : Nat → Nat → Int32} {la : Nat → Nat → Int64} {pl dr : Nat} {cp : Option Nat} {cw : Option Nat} {rp : Option Nat} {K : Option Value → zHP → Prop}  : zWP d 180 39 [some (.ref 127), some (.int i1), some (.int i2), some (.int i3), some (.int i4), some (.int i5), none, none, none] [.int s0] (ia, la, zRA pl dr cp cw rp) K = (if s0 = 0 then (vp_in i5 276 ∧ zWP d 180 61 [some (.ref 127), some (.int i1), some (.int i2), some (.int i3), some (.int i4), some (.int i5), some (.int s0), some (.int (0 : Int32)), none] [] ((zu ia 157 (i5).toNatClampNeg (2 : Int32)), la, zRA pl dr cp cw rp) K) else (vp_in i5 276 ∧ zWP d 180 61 [some (.ref 127), some (.int i1), some (.int i2), some (.int i3), some (.int i4), some (.int i5), some (.int s0), some (.int (0 : Int32)), none] [] ((zu ia 157 (i5).toNatClampNeg (1 : Int32)), la, zRA pl dr cp cw rp) K)) := by
  refine (Q_istore (ls' := [some (.ref 127), some (.int i1), some (.int i2), some (.int i3), some (.int i4), some (.int i5), some (.int s0), none, none]) zm_180 (Or.inl (by decide)) D180_39 rfl (Nat.le_of_ble_eq_true rfl) rfl).trans ?_
  refine (Q_aload_n zm_180 (Or.inl (by decide)) D180_41 rfl).trans ?_
  refine (Q_getR (q := 157) zm_180 (Or.inl (by decide)) D180_42 zf_10_102 zs_10_45 zk_127.1 rfl).trans ?_
  refine (Q_iload zm_180 (Or.inl (by decide)) D180_45 rfl).trans ?_
  refine (Q_iload zm_180 (Or.inl (by decide)) D180_47 rfl).trans ?_
  refine (Q_if_eq (tgt := 56) zm_180 (Or.inl (by decide)) D180_49 (by decide)).trans ?_
  refine zif_c (fun h0_ => ?_) (fun h0_ => ?_)
  · refine (Q_iconst (v := 2) zm_180 (Or.inl (by decide)) D180_56 (by decide)).trans ?_
    refine (Q_iastore zm_180 (Or.inl (by decide)) D180_57 zk_157.1 zk_157.2).trans ?_
    refine zand_c (fun h1_ => ?_)
    refine (Q_iconst (v := 0) zm_180 (Or.inl (by decide)) D180_58 (by decide)).trans ?_
    refine (Q_istore (ls' := [some (.ref 127), some (.int i1), some (.int i2), some (.int i3), some (.int i4), some (.int i5), some (.int s0), some (.int (0 : Int32)), none]) zm_180 (Or.inl (by decide)) D180_59 rfl (Nat.le_of_ble_eq_true rfl) rfl).trans ?_
    rfl
  · refine (Q_iconst (v := 1) zm_180 (Or.inl (by decide)) D180_52 (by decide)).trans ?_
    refine (Q_goto (tgt := 57) zm_180 (Or.inl (by decide)) D180_53 (by decide)).trans ?_
    refine (Q_iastore zm_180 (Or.inl (by decide)) D180_57 zk_157.1 zk_157.2).trans ?_
    refine zand_c (fun h2_ => ?_)
    refine (Q_iconst (v := 0) zm_180 (Or.inl (by decide)) D180_58 (by decide)).trans ?_
    refine (Q_istore (ls' := [some (.ref 127), some (.int i1), some (.int i2), some (.int i3), some (.int i4), some (.int i5), some (.int s0), some (.int (0 : Int32)), none]) zm_180 (Or.inl (by decide)) D180_59 rfl (Nat.le_of_ble_eq_true rfl) rfl).trans ?_
    rfl

theorem b180_61 {d : Nat} {i1 : Int32} {i2 : Int32} {i3 : Int32} {i4 : Int32} {i5 : Int32} {i6 : Int32} {i7 : Int32} {a8 : Option Value} {ia : Nat → Nat → Int32} {la : Nat → Nat → Int64} {pl dr : Nat} {cp : Option Nat} {cw : Option Nat} {rp : Option Nat} {K : Option Value → zHP → Prop}  : zWP d 180 61 [some (.ref 127), some (.int i1), some (.int i2), some (.int i3), some (.int i4), some (.int i5), some (.int i6), some (.int i7), a8] [] (ia, la, zRA pl dr cp cw rp) K = (if (3 : Int32) ≤ i7 then zWP d 180 137 [some (.ref 127), some (.int i1), some (.int i2), some (.int i3), some (.int i4), some (.int i5), some (.int i6), some (.int (0 : Int32)), a8] [] (ia, la, zRA pl dr cp cw rp) K else (vp_in (((3 : Int32) * (((6 : Int32) * i1) + i3)) + i7) 414 ∧ (if i6 = 0 then (vp_in (((3 : Int32) * i4) + i7) 36 ∧ (vp_in (((3 : Int32) * i5) + i7) 828 ∧ zWP d 180 61 [some (.ref 127), some (.int i1), some (.int i2), some (.int i3), some (.int i4), some (.int i5), some (.int i6), some (.int (i7 + (1 : Int32))), some (.int (ia 152 ((((3 : Int32) * (((6 : Int32) * i1) + i3)) + i7)).toNatClampNeg))] [] ((zu ia 158 ((((3 : Int32) * i5) + i7)).toNatClampNeg (((ia 152 ((((3 : Int32) * (((6 : Int32) * i1) + i3)) + i7)).toNatClampNeg) + ((1000 : Int32) * (ia 131 ((((3 : Int32) * i4) + i7)).toNatClampNeg))) / (2 : Int32))), la, zRA pl dr cp cw rp) K)) else (vp_in (((3 : Int32) * i5) + i7) 828 ∧ zWP d 180 61 [some (.ref 127), some (.int i1), some (.int i2), some (.int i3), some (.int i4), some (.int i5), some (.int i6), some (.int (i7 + (1 : Int32))), some (.int (ia 152 ((((3 : Int32) * (((6 : Int32) * i1) + i3)) + i7)).toNatClampNeg))] [] ((zu ia 158 ((((3 : Int32) * i5) + i7)).toNatClampNeg (ia 152 ((((3 : Int32) * (((6 : Int32) * i1) + i3)) + i7)).toNatClampNeg)), la, zRA pl dr cp cw rp) K)))) := by
  refine (Q_iload zm_180 (Or.inl (by decide)) D180_61 rfl).trans ?_
  refine (Q_iconst (v := 3) zm_180 (Or.inl (by decide)) D180_63 (by decide)).trans ?_
  refine (Q_ic_ge (tgt := 134) zm_180 (Or.inl (by decide)) D180_64 (by decide)).trans ?_
  refine zif_c (fun h0_ => ?_) (fun h0_ => ?_)
  · refine (Q_iconst (v := 0) zm_180 (Or.inl (by decide)) D180_134 (by decide)).trans ?_
    refine (Q_istore (ls' := [some (.ref 127), some (.int i1), some (.int i2), some (.int i3), some (.int i4), some (.int i5), some (.int i6), some (.int (0 : Int32)), a8]) zm_180 (Or.inl (by decide)) D180_135 rfl (Nat.le_of_ble_eq_true rfl) rfl).trans ?_
    rfl
  · refine (Q_aload_n zm_180 (Or.inl (by decide)) D180_67 rfl).trans ?_
    refine (Q_getR (q := 152) zm_180 (Or.inl (by decide)) D180_68 zf_10_87 zs_10_40 zk_127.1 rfl).trans ?_
    refine (Q_iconst (v := 3) zm_180 (Or.inl (by decide)) D180_71 (by decide)).trans ?_
    refine (Q_bipush (v := 6) zm_180 (Or.inl (by decide)) D180_72 (by decide)).trans ?_
    refine (Q_iload_n zm_180 (Or.inl (by decide)) D180_74 rfl).trans ?_
    refine (Q_imul zm_180 (Or.inl (by decide)) D180_75).trans ?_
    refine (Q_iload_n zm_180 (Or.inl (by decide)) D180_76 rfl).trans ?_
    refine (Q_iadd zm_180 (Or.inl (by decide)) D180_77).trans ?_
    refine (Q_imul zm_180 (Or.inl (by decide)) D180_78).trans ?_
    refine (Q_iload zm_180 (Or.inl (by decide)) D180_79 rfl).trans ?_
    refine (Q_iadd zm_180 (Or.inl (by decide)) D180_81).trans ?_
    refine (Q_iaload zm_180 (Or.inl (by decide)) D180_82 zk_152.1 zk_152.2).trans ?_
    refine zand_c (fun h1_ => ?_)
    refine (Q_istore (ls' := [some (.ref 127), some (.int i1), some (.int i2), some (.int i3), some (.int i4), some (.int i5), some (.int i6), some (.int i7), some (.int (ia 152 ((((3 : Int32) * (((6 : Int32) * i1) + i3)) + i7)).toNatClampNeg))]) zm_180 (Or.inl (by decide)) D180_83 rfl (Nat.le_of_ble_eq_true rfl) rfl).trans ?_
    refine (Q_aload_n zm_180 (Or.inl (by decide)) D180_85 rfl).trans ?_
    refine (Q_getR (q := 158) zm_180 (Or.inl (by decide)) D180_86 zf_10_105 zs_10_46 zk_127.1 rfl).trans ?_
    refine (Q_iconst (v := 3) zm_180 (Or.inl (by decide)) D180_89 (by decide)).trans ?_
    refine (Q_iload zm_180 (Or.inl (by decide)) D180_90 rfl).trans ?_
    refine (Q_imul zm_180 (Or.inl (by decide)) D180_92).trans ?_
    refine (Q_iload zm_180 (Or.inl (by decide)) D180_93 rfl).trans ?_
    refine (Q_iadd zm_180 (Or.inl (by decide)) D180_95).trans ?_
    refine (Q_iload zm_180 (Or.inl (by decide)) D180_96 rfl).trans ?_
    refine (Q_if_eq (tgt := 106) zm_180 (Or.inl (by decide)) D180_98 (by decide)).trans ?_
    refine zif_c (fun h2_ => ?_) (fun h2_ => ?_)
    · refine (Q_iload zm_180 (Or.inl (by decide)) D180_106 rfl).trans ?_
      refine (Q_sipush (v := 1000) zm_180 (Or.inl (by decide)) D180_108 (by decide)).trans ?_
      refine (Q_aload_n zm_180 (Or.inl (by decide)) D180_111 rfl).trans ?_
      refine (Q_getR (q := 131) zm_180 (Or.inl (by decide)) D180_112 zf_10_19 zs_10_5 zk_127.1 rfl).trans ?_
      refine (Q_iconst (v := 3) zm_180 (Or.inl (by decide)) D180_115 (by decide)).trans ?_
      refine (Q_iload zm_180 (Or.inl (by decide)) D180_116 rfl).trans ?_
      refine (Q_imul zm_180 (Or.inl (by decide)) D180_118).trans ?_
      refine (Q_iload zm_180 (Or.inl (by decide)) D180_119 rfl).trans ?_
      refine (Q_iadd zm_180 (Or.inl (by decide)) D180_121).trans ?_
      refine (Q_iaload zm_180 (Or.inl (by decide)) D180_122 zk_131.1 zk_131.2).trans ?_
      refine zand_c (fun h3_ => ?_)
      refine (Q_imul zm_180 (Or.inl (by decide)) D180_123).trans ?_
      refine (Q_iadd zm_180 (Or.inl (by decide)) D180_124).trans ?_
      refine (Q_iconst (v := 2) zm_180 (Or.inl (by decide)) D180_125 (by decide)).trans ?_
      refine (Q_idiv zm_180 (Or.inl (by decide)) D180_126 (by decide)).trans ?_
      refine (Q_iastore zm_180 (Or.inl (by decide)) D180_127 zk_158.1 zk_158.2).trans ?_
      refine zand_c (fun h4_ => ?_)
      refine (Q_iinc (v := 1) (ls' := [some (.ref 127), some (.int i1), some (.int i2), some (.int i3), some (.int i4), some (.int i5), some (.int i6), some (.int (i7 + (1 : Int32))), some (.int (ia 152 ((((3 : Int32) * (((6 : Int32) * i1) + i3)) + i7)).toNatClampNeg))]) zm_180 (Or.inl (by decide)) D180_128 rfl rfl (by decide) rfl).trans ?_
      refine (Q_goto (tgt := 61) zm_180 (Or.inl (by decide)) D180_131 (by decide)).trans ?_
      rfl
    · refine (Q_iload zm_180 (Or.inl (by decide)) D180_101 rfl).trans ?_
      refine (Q_goto (tgt := 127) zm_180 (Or.inl (by decide)) D180_103 (by decide)).trans ?_
      refine (Q_iastore zm_180 (Or.inl (by decide)) D180_127 zk_158.1 zk_158.2).trans ?_
      refine zand_c (fun h5_ => ?_)
      refine (Q_iinc (v := 1) (ls' := [some (.ref 127), some (.int i1), some (.int i2), some (.int i3), some (.int i4), some (.int i5), some (.int i6), some (.int (i7 + (1 : Int32))), some (.int (ia 152 ((((3 : Int32) * (((6 : Int32) * i1) + i3)) + i7)).toNatClampNeg))]) zm_180 (Or.inl (by decide)) D180_128 rfl rfl (by decide) rfl).trans ?_
      refine (Q_goto (tgt := 61) zm_180 (Or.inl (by decide)) D180_131 (by decide)).trans ?_
      rfl

theorem b180_137 {d : Nat} {i1 : Int32} {i2 : Int32} {i3 : Int32} {i4 : Int32} {i5 : Int32} {i6 : Int32} {i7 : Int32} {a8 : Option Value} {ia : Nat → Nat → Int32} {la : Nat → Nat → Int64} {pl dr : Nat} {cp : Option Nat} {cw : Option Nat} {rp : Option Nat} {K : Option Value → zHP → Prop}  : zWP d 180 137 [some (.ref 127), some (.int i1), some (.int i2), some (.int i3), some (.int i4), some (.int i5), some (.int i6), some (.int i7), a8] [] (ia, la, zRA pl dr cp cw rp) K = (if i2 ≤ i7 then K none (ia, la, zRA pl dr cp cw rp) else (vp_in i7 24 ∧ (vp_in i1 23 ∧ (if ¬ (ia 140 (i7).toNatClampNeg) = (ia 147 (i1).toNatClampNeg) then zWP d 180 189 [some (.ref 127), some (.int i1), some (.int i2), some (.int i3), some (.int i4), some (.int i5), some (.int i6), some (.int i7), a8] [] (ia, la, zRA pl dr cp cw rp) K else (if ¬ (ia 139 (i7).toNatClampNeg) = i3 then zWP d 180 189 [some (.ref 127), some (.int i1), some (.int i2), some (.int i3), some (.int i4), some (.int i5), some (.int i6), some (.int i7), a8] [] (ia, la, zRA pl dr cp cw rp) K else (vp_in (((12 : Int32) * i1) + i7) 276 ∧ (if (ia 157 ((((12 : Int32) * i1) + i7)).toNatClampNeg) = 0 then zWP d 180 189 [some (.ref 127), some (.int i1), some (.int i2), some (.int i3), some (.int i4), some (.int i5), some (.int i6), some (.int i7), a8] [] (ia, la, zRA pl dr cp cw rp) K else zWP d 180 190 [some (.ref 127), some (.int i1), some (.int i2), some (.int i3), some (.int i4), some (.int i5), some (.int i6), some (.int i7), a8] [.int (1 : Int32)] (ia, la, zRA pl dr cp cw rp) K))))))) := by
  refine (Q_iload zm_180 (Or.inl (by decide)) D180_137 rfl).trans ?_
  refine (Q_iload_n zm_180 (Or.inl (by decide)) D180_139 rfl).trans ?_
  refine (Q_ic_ge (tgt := 215) zm_180 (Or.inl (by decide)) D180_140 (by decide)).trans ?_
  refine zif_c (fun h0_ => ?_) (fun h0_ => ?_)
  · exact Q_return zm_180 (Or.inl (by decide)) D180_215 rfl
  · refine (Q_aload_n zm_180 (Or.inl (by decide)) D180_143 rfl).trans ?_
    refine (Q_getR (q := 140) zm_180 (Or.inl (by decide)) D180_144 zf_10_46 zs_10_14 zk_127.1 rfl).trans ?_
    refine (Q_iload zm_180 (Or.inl (by decide)) D180_147 rfl).trans ?_
    refine (Q_iaload zm_180 (Or.inl (by decide)) D180_149 zk_140.1 zk_140.2).trans ?_
    refine zand_c (fun h1_ => ?_)
    refine (Q_aload_n zm_180 (Or.inl (by decide)) D180_150 rfl).trans ?_
    refine (Q_getR (q := 147) zm_180 (Or.inl (by decide)) D180_151 zf_10_72 zs_10_35 zk_127.1 rfl).trans ?_
    refine (Q_iload_n zm_180 (Or.inl (by decide)) D180_154 rfl).trans ?_
    refine (Q_iaload zm_180 (Or.inl (by decide)) D180_155 zk_147.1 zk_147.2).trans ?_
    refine zand_c (fun h2_ => ?_)
    refine (Q_ic_ne (tgt := 189) zm_180 (Or.inl (by decide)) D180_156 (by decide)).trans ?_
    refine zif_c (fun h3_ => ?_) (fun h3_ => ?_)
    · rfl
    · refine (Q_aload_n zm_180 (Or.inl (by decide)) D180_159 rfl).trans ?_
      refine (Q_getR (q := 139) zm_180 (Or.inl (by decide)) D180_160 zf_10_43 zs_10_13 zk_127.1 rfl).trans ?_
      refine (Q_iload zm_180 (Or.inl (by decide)) D180_163 rfl).trans ?_
      refine ((Q_iaload zm_180 (Or.inl (by decide)) D180_165 zk_139.1 zk_139.2).trans (zdrop h1_)).trans ?_
      refine (Q_iload_n zm_180 (Or.inl (by decide)) D180_166 rfl).trans ?_
      refine (Q_ic_ne (tgt := 189) zm_180 (Or.inl (by decide)) D180_167 (by decide)).trans ?_
      refine zif_c (fun h4_ => ?_) (fun h4_ => ?_)
      · rfl
      · refine (Q_aload_n zm_180 (Or.inl (by decide)) D180_170 rfl).trans ?_
        refine (Q_getR (q := 157) zm_180 (Or.inl (by decide)) D180_171 zf_10_102 zs_10_45 zk_127.1 rfl).trans ?_
        refine (Q_bipush (v := 12) zm_180 (Or.inl (by decide)) D180_174 (by decide)).trans ?_
        refine (Q_iload_n zm_180 (Or.inl (by decide)) D180_176 rfl).trans ?_
        refine (Q_imul zm_180 (Or.inl (by decide)) D180_177).trans ?_
        refine (Q_iload zm_180 (Or.inl (by decide)) D180_178 rfl).trans ?_
        refine (Q_iadd zm_180 (Or.inl (by decide)) D180_180).trans ?_
        refine (Q_iaload zm_180 (Or.inl (by decide)) D180_181 zk_157.1 zk_157.2).trans ?_
        refine zand_c (fun h5_ => ?_)
        refine (Q_if_eq (tgt := 189) zm_180 (Or.inl (by decide)) D180_182 (by decide)).trans ?_
        refine zif_c (fun h6_ => ?_) (fun h6_ => ?_)
        · rfl
        · refine (Q_iconst (v := 1) zm_180 (Or.inl (by decide)) D180_185 (by decide)).trans ?_
          refine (Q_goto (tgt := 190) zm_180 (Or.inl (by decide)) D180_186 (by decide)).trans ?_
          rfl

theorem b180_189 {d : Nat} {i1 : Int32} {i2 : Int32} {i3 : Int32} {i4 : Int32} {i5 : Int32} {i6 : Int32} {i7 : Int32} {a8 : Option Value} {ia : Nat → Nat → Int32} {la : Nat → Nat → Int64} {pl dr : Nat} {cp : Option Nat} {cw : Option Nat} {rp : Option Nat} {K : Option Value → zHP → Prop}  : zWP d 180 189 [some (.ref 127), some (.int i1), some (.int i2), some (.int i3), some (.int i4), some (.int i5), some (.int i6), some (.int i7), a8] [] (ia, la, zRA pl dr cp cw rp) K = zWP d 180 190 [some (.ref 127), some (.int i1), some (.int i2), some (.int i3), some (.int i4), some (.int i5), some (.int i6), some (.int i7), a8] [.int (0 : Int32)] (ia, la, zRA pl dr cp cw rp) K := by
  refine (Q_iconst (v := 0) zm_180 (Or.inl (by decide)) D180_189 (by decide)).trans ?_
  rfl

theorem b180_190 {d : Nat} {i1 : Int32} {i2 : Int32} {i3 : Int32} {i4 : Int32} {i5 : Int32} {i6 : Int32} {i7 : Int32} {a8 : Option Value} {s0 : Int32} {ia : Nat → Nat → Int32} {la : Nat → Nat → Int64} {pl dr : Nat} {cp : Option Nat} {cw : Option Nat} {rp : Option Nat} {K : Option Value → zHP → Prop}  : zWP d 180 190 [some (.ref 127), some (.int i1), some (.int i2), some (.int i3), some (.int i4), some (.int i5), some (.int i6), some (.int i7), a8] [.int s0] (ia, la, zRA pl dr cp cw rp) K = (if s0 = 0 then zWP d 180 137 [some (.ref 127), some (.int i1), some (.int i2), some (.int i3), some (.int i4), some (.int i5), some (.int i6), some (.int (i7 + (1 : Int32))), some (.int s0)] [] (ia, la, zRA pl dr cp cw rp) K else (vp_in i1 23 ∧ zWP d 180 137 [some (.ref 127), some (.int i1), some (.int i2), some (.int i3), some (.int i4), some (.int i5), some (.int i6), some (.int (i7 + (1 : Int32))), some (.int s0)] [] ((zu ia 150 (i1).toNatClampNeg ((ia 150 (i1).toNatClampNeg) ||| ((1 : Int32) <<< (i2 &&& 31)))), la, zRA pl dr cp cw rp) K)) := by
  refine (Q_istore (ls' := [some (.ref 127), some (.int i1), some (.int i2), some (.int i3), some (.int i4), some (.int i5), some (.int i6), some (.int i7), some (.int s0)]) zm_180 (Or.inl (by decide)) D180_190 rfl (Nat.le_of_ble_eq_true rfl) rfl).trans ?_
  refine (Q_iload zm_180 (Or.inl (by decide)) D180_192 rfl).trans ?_
  refine (Q_if_eq (tgt := 209) zm_180 (Or.inl (by decide)) D180_194 (by decide)).trans ?_
  refine zif_c (fun h0_ => ?_) (fun h0_ => ?_)
  · refine (Q_iinc (v := 1) (ls' := [some (.ref 127), some (.int i1), some (.int i2), some (.int i3), some (.int i4), some (.int i5), some (.int i6), some (.int (i7 + (1 : Int32))), some (.int s0)]) zm_180 (Or.inl (by decide)) D180_209 rfl rfl (by decide) rfl).trans ?_
    refine (Q_goto (tgt := 137) zm_180 (Or.inl (by decide)) D180_212 (by decide)).trans ?_
    rfl
  · refine (Q_aload_n zm_180 (Or.inl (by decide)) D180_197 rfl).trans ?_
    refine (Q_getR (q := 150) zm_180 (Or.inl (by decide)) D180_198 zf_10_81 zs_10_38 zk_127.1 rfl).trans ?_
    refine (Q_iload_n zm_180 (Or.inl (by decide)) D180_201 rfl).trans ?_
    refine (Q_dup2 zm_180 (Or.inl (by decide)) D180_202 rfl rfl).trans ?_
    refine (Q_iaload zm_180 (Or.inl (by decide)) D180_203 zk_150.1 zk_150.2).trans ?_
    refine zand_c (fun h1_ => ?_)
    refine (Q_iconst (v := 1) zm_180 (Or.inl (by decide)) D180_204 (by decide)).trans ?_
    refine (Q_iload_n zm_180 (Or.inl (by decide)) D180_205 rfl).trans ?_
    refine (Q_ishl zm_180 (Or.inl (by decide)) D180_206).trans ?_
    refine (Q_ior zm_180 (Or.inl (by decide)) D180_207).trans ?_
    refine ((Q_iastore zm_180 (Or.inl (by decide)) D180_208 zk_150.1 zk_150.2).trans (zdrop h1_)).trans ?_
    refine (Q_iinc (v := 1) (ls' := [some (.ref 127), some (.int i1), some (.int i2), some (.int i3), some (.int i4), some (.int i5), some (.int i6), some (.int (i7 + (1 : Int32))), some (.int s0)]) zm_180 (Or.inl (by decide)) D180_209 rfl rfl (by decide) rfl).trans ?_
    refine (Q_goto (tgt := 137) zm_180 (Or.inl (by decide)) D180_212 (by decide)).trans ?_
    rfl

/-! HandsLetModel.doesLook(IZ)Z -/
theorem D181_0 : decode prog_12_method_55_code 0 = .ok (.aload_n 0, 1) := by decide +kernel
theorem D181_1 : decode prog_12_method_55_code 1 = .ok (.getfield 357, 3) := by decide +kernel
theorem D181_4 : decode prog_12_method_55_code 4 = .ok (.iconst 5, 1) := by decide +kernel
theorem D181_5 : decode prog_12_method_55_code 5 = .ok (.if_icmp .ne 5, 3) := by decide +kernel
theorem D181_8 : decode prog_12_method_55_code 8 = .ok (.iconst 0, 1) := by decide +kernel
theorem D181_9 : decode prog_12_method_55_code 9 = .ok (.ireturn, 1) := by decide +kernel
theorem D181_10 : decode prog_12_method_55_code 10 = .ok (.aload_n 0, 1) := by decide +kernel
theorem D181_11 : decode prog_12_method_55_code 11 = .ok (.getfield 357, 3) := by decide +kernel
theorem D181_14 : decode prog_12_method_55_code 14 = .ok (.iconst 1, 1) := by decide +kernel
theorem D181_15 : decode prog_12_method_55_code 15 = .ok (.if_icmp .ne 5, 3) := by decide +kernel
theorem D181_18 : decode prog_12_method_55_code 18 = .ok (.iconst 1, 1) := by decide +kernel
theorem D181_19 : decode prog_12_method_55_code 19 = .ok (.ireturn, 1) := by decide +kernel
theorem D181_20 : decode prog_12_method_55_code 20 = .ok (.aload_n 0, 1) := by decide +kernel
theorem D181_21 : decode prog_12_method_55_code 21 = .ok (.getfield 13, 3) := by decide +kernel
theorem D181_24 : decode prog_12_method_55_code 24 = .ok (.iconst 4, 1) := by decide +kernel
theorem D181_25 : decode prog_12_method_55_code 25 = .ok (.iaload, 1) := by decide +kernel
theorem D181_26 : decode prog_12_method_55_code 26 = .ok (.istore_n 3, 1) := by decide +kernel
theorem D181_27 : decode prog_12_method_55_code 27 = .ok (.iload_n 2, 1) := by decide +kernel
theorem D181_28 : decode prog_12_method_55_code 28 = .ok (.ifCond .eq 13, 3) := by decide +kernel
theorem D181_31 : decode prog_12_method_55_code 31 = .ok (.iload_n 3, 1) := by decide +kernel
theorem D181_32 : decode prog_12_method_55_code 32 = .ok (.ifCond .eq 9, 3) := by decide +kernel
theorem D181_35 : decode prog_12_method_55_code 35 = .ok (.iload_n 3, 1) := by decide +kernel
theorem D181_36 : decode prog_12_method_55_code 36 = .ok (.bipush 100, 2) := by decide +kernel
theorem D181_38 : decode prog_12_method_55_code 38 = .ok (.if_icmp .ne 15, 3) := by decide +kernel
theorem D181_41 : decode prog_12_method_55_code 41 = .ok (.iload_n 3, 1) := by decide +kernel
theorem D181_42 : decode prog_12_method_55_code 42 = .ok (.bipush 50, 2) := by decide +kernel
theorem D181_44 : decode prog_12_method_55_code 44 = .ok (.if_icmp .lt 7, 3) := by decide +kernel
theorem D181_47 : decode prog_12_method_55_code 47 = .ok (.iconst 1, 1) := by decide +kernel
theorem D181_48 : decode prog_12_method_55_code 48 = .ok (.goto 4, 3) := by decide +kernel
theorem D181_51 : decode prog_12_method_55_code 51 = .ok (.iconst 0, 1) := by decide +kernel
theorem D181_52 : decode prog_12_method_55_code 52 = .ok (.ireturn, 1) := by decide +kernel
theorem D181_53 : decode prog_12_method_55_code 53 = .ok (.aload_n 0, 1) := by decide +kernel
theorem D181_54 : decode prog_12_method_55_code 54 = .ok (.getfield 75, 3) := by decide +kernel
theorem D181_57 : decode prog_12_method_55_code 57 = .ok (.iload_n 1, 1) := by decide +kernel
theorem D181_58 : decode prog_12_method_55_code 58 = .ok (.aload_n 0, 1) := by decide +kernel
theorem D181_59 : decode prog_12_method_55_code 59 = .ok (.getfield 75, 3) := by decide +kernel
theorem D181_62 : decode prog_12_method_55_code 62 = .ok (.iload_n 1, 1) := by decide +kernel
theorem D181_63 : decode prog_12_method_55_code 63 = .ok (.iaload, 1) := by decide +kernel
theorem D181_64 : decode prog_12_method_55_code 64 = .ok (.ldc_w 377, 3) := by decide +kernel
theorem D181_67 : decode prog_12_method_55_code 67 = .ok (.imul, 1) := by decide +kernel
theorem D181_68 : decode prog_12_method_55_code 68 = .ok (.sipush 12345, 3) := by decide +kernel
theorem D181_71 : decode prog_12_method_55_code 71 = .ok (.iadd, 1) := by decide +kernel
theorem D181_72 : decode prog_12_method_55_code 72 = .ok (.ldc_w 380, 3) := by decide +kernel
theorem D181_75 : decode prog_12_method_55_code 75 = .ok (.iand, 1) := by decide +kernel
theorem D181_76 : decode prog_12_method_55_code 76 = .ok (.iastore, 1) := by decide +kernel
theorem D181_77 : decode prog_12_method_55_code 77 = .ok (.aload_n 0, 1) := by decide +kernel
theorem D181_78 : decode prog_12_method_55_code 78 = .ok (.getfield 75, 3) := by decide +kernel
theorem D181_81 : decode prog_12_method_55_code 81 = .ok (.iload_n 1, 1) := by decide +kernel
theorem D181_82 : decode prog_12_method_55_code 82 = .ok (.iaload, 1) := by decide +kernel
theorem D181_83 : decode prog_12_method_55_code 83 = .ok (.bipush 16, 2) := by decide +kernel
theorem D181_85 : decode prog_12_method_55_code 85 = .ok (.ishr, 1) := by decide +kernel
theorem D181_86 : decode prog_12_method_55_code 86 = .ok (.bipush 100, 2) := by decide +kernel
theorem D181_88 : decode prog_12_method_55_code 88 = .ok (.irem, 1) := by decide +kernel
theorem D181_89 : decode prog_12_method_55_code 89 = .ok (.iload_n 3, 1) := by decide +kernel
theorem D181_90 : decode prog_12_method_55_code 90 = .ok (.if_icmp .ge 7, 3) := by decide +kernel
theorem D181_93 : decode prog_12_method_55_code 93 = .ok (.iconst 1, 1) := by decide +kernel
theorem D181_94 : decode prog_12_method_55_code 94 = .ok (.goto 4, 3) := by decide +kernel
theorem D181_97 : decode prog_12_method_55_code 97 = .ok (.iconst 0, 1) := by decide +kernel
theorem D181_98 : decode prog_12_method_55_code 98 = .ok (.ireturn, 1) := by decide +kernel

theorem b181_0 {d : Nat} {i1 : Int32} {i2 : Int32} {ia : Nat → Nat → Int32} {la : Nat → Nat → Int64} {pl dr : Nat} {cp : Option Nat} {cw : Option Nat} {rp : Option Nat} {K : Option Value → zHP → Prop}  : zWP d 181 0 [some (.ref 127), some (.int i1), some (.int i2), none] [] (ia, la, zRA pl dr cp cw rp) K = (if ¬ (ia 127 49) = (5 : Int32) then (if ¬ (ia 127 49) = (1 : Int32) then (if i2 = 0 then (if (ia 129 4) < (50 : Int32) then K (some (.int (0 : Int32))) (ia, la, zRA pl dr cp cw rp) else K (some (.int (1 : Int32))) (ia, la, zRA pl dr cp cw rp)) else (if (ia 129 4) = 0 then (if (ia 129 4) < (50 : Int32) then K (some (.int (0 : Int32))) (ia, la, zRA pl dr cp cw rp) else K (some (.int (1 : Int32))) (ia, la, zRA pl dr cp cw rp)) else (if ¬ (ia 129 4) = (100 : Int32) then (vp_in i1 23 ∧ (if (ia 129 4) ≤ ((((zu ia 148 (i1).toNatClampNeg ((((ia 148 (i1).toNatClampNeg) * (1103515245 : Int32)) + (12345 : Int32)) &&& (2147483647 : Int32))) 148 (i1).toNatClampNeg) >>> ((16 : Int32) &&& 31)) - (((zu ia 148 (i1).toNatClampNeg ((((ia 148 (i1).toNatClampNeg) * (1103515245 : Int32)) + (12345 : Int32)) &&& (2147483647 : Int32))) 148 (i1).toNatClampNeg) >>> ((16 : Int32) &&& 31)) / (100 : Int32) * (100 : Int32)) then K (some (.int (0 : Int32))) ((zu ia 148 (i1).toNatClampNeg ((((ia 148 (i1).toNatClampNeg) * (1103515245 : Int32)) + (12345 : Int32)) &&& (2147483647 : Int32))), la, zRA pl dr cp cw rp) else K (some (.int (1 : Int32))) ((zu ia 148 (i1).toNatClampNeg ((((ia 148 (i1).toNatClampNeg) * (1103515245 : Int32)) + (12345 : Int32)) &&& (2147483647 : Int32))), la, zRA pl dr cp cw rp))) else (if (ia 129 4) < (50 : Int32) then K (some (.int (0 : Int32))) (ia, la, zRA pl dr cp cw rp) else K (some (.int (1 : Int32))) (ia, la, zRA pl dr cp cw rp))))) else K (some (.int (1 : Int32))) (ia, la, zRA pl dr cp cw rp)) else K (some (.int (0 : Int32))) (ia, la, zRA pl dr cp cw rp)) := by
  refine (Q_aload_n zm_181 (Or.inl (by decide)) D181_0 rfl).trans ?_
  refine (Q_getI zm_181 (Or.inl (by decide)) D181_1 zf_10_357 (Or.inl zs_10_49) zk_127.1).trans ?_
  refine (Q_iconst (v := 5) zm_181 (Or.inl (by decide)) D181_4 (by decide)).trans ?_
  refine (Q_ic_ne (tgt := 10) zm_181 (Or.inl (by decide)) D181_5 (by decide)).trans ?_
  refine zif_c (fun h0_ => ?_) (fun h0_ => ?_)
  · refine (Q_aload_n zm_181 (Or.inl (by decide)) D181_10 rfl).trans ?_
    refine (Q_getI zm_181 (Or.inl (by decide)) D181_11 zf_10_357 (Or.inl zs_10_49) zk_127.1).trans ?_
    refine (Q_iconst (v := 1) zm_181 (Or.inl (by decide)) D181_14 (by decide)).trans ?_
    refine (Q_ic_ne (tgt := 20) zm_181 (Or.inl (by decide)) D181_15 (by decide)).trans ?_
    refine zif_c (fun h1_ => ?_) (fun h1_ => ?_)
    · refine (Q_aload_n zm_181 (Or.inl (by decide)) D181_20 rfl).trans ?_
      refine (Q_getR (q := 129) zm_181 (Or.inl (by decide)) D181_21 zf_10_13 zs_10_3 zk_127.1 rfl).trans ?_
      refine (Q_iconst (v := 4) zm_181 (Or.inl (by decide)) D181_24 (by decide)).trans ?_
      refine ((Q_iaload zm_181 (Or.inl (by decide)) D181_25 zk_129.1 zk_129.2).trans (zdrop (zin_spec (by decide)))).trans ?_
      refine (Q_istore_n (ls' := [some (.ref 127), some (.int i1), some (.int i2), some (.int (ia 129 4))]) zm_181 (Or.inl (by decide)) D181_26 rfl (Nat.le_of_ble_eq_true rfl) rfl).trans ?_
      refine (Q_iload_n zm_181 (Or.inl (by decide)) D181_27 rfl).trans ?_
      refine (Q_if_eq (tgt := 41) zm_181 (Or.inl (by decide)) D181_28 (by decide)).trans ?_
      refine zif_c (fun h2_ => ?_) (fun h2_ => ?_)
      · refine (Q_iload_n zm_181 (Or.inl (by decide)) D181_41 rfl).trans ?_
        refine (Q_bipush (v := 50) zm_181 (Or.inl (by decide)) D181_42 (by decide)).trans ?_
        refine (Q_ic_lt (tgt := 51) zm_181 (Or.inl (by decide)) D181_44 (by decide)).trans ?_
        refine zif_c (fun h3_ => ?_) (fun h3_ => ?_)
        · refine (Q_iconst (v := 0) zm_181 (Or.inl (by decide)) D181_51 (by decide)).trans ?_
          exact Q_zreturn zm_181 (Or.inl (by decide)) D181_52 rfl (by decide)
        · refine (Q_iconst (v := 1) zm_181 (Or.inl (by decide)) D181_47 (by decide)).trans ?_
          refine (Q_goto (tgt := 52) zm_181 (Or.inl (by decide)) D181_48 (by decide)).trans ?_
          exact Q_zreturn zm_181 (Or.inl (by decide)) D181_52 rfl (by decide)
      · refine (Q_iload_n zm_181 (Or.inl (by decide)) D181_31 rfl).trans ?_
        refine (Q_if_eq (tgt := 41) zm_181 (Or.inl (by decide)) D181_32 (by decide)).trans ?_
        refine zif_c (fun h4_ => ?_) (fun h4_ => ?_)
        · refine (Q_iload_n zm_181 (Or.inl (by decide)) D181_41 rfl).trans ?_
          refine (Q_bipush (v := 50) zm_181 (Or.inl (by decide)) D181_42 (by decide)).trans ?_
          refine (Q_ic_lt (tgt := 51) zm_181 (Or.inl (by decide)) D181_44 (by decide)).trans ?_
          refine zif_c (fun h5_ => ?_) (fun h5_ => ?_)
          · refine (Q_iconst (v := 0) zm_181 (Or.inl (by decide)) D181_51 (by decide)).trans ?_
            exact Q_zreturn zm_181 (Or.inl (by decide)) D181_52 rfl (by decide)
          · refine (Q_iconst (v := 1) zm_181 (Or.inl (by decide)) D181_47 (by decide)).trans ?_
            refine (Q_goto (tgt := 52) zm_181 (Or.inl (by decide)) D181_48 (by decide)).trans ?_
            exact Q_zreturn zm_181 (Or.inl (by decide)) D181_52 rfl (by decide)
        · refine (Q_iload_n zm_181 (Or.inl (by decide)) D181_35 rfl).trans ?_
          refine (Q_bipush (v := 100) zm_181 (Or.inl (by decide)) D181_36 (by decide)).trans ?_
          refine (Q_ic_ne (tgt := 53) zm_181 (Or.inl (by decide)) D181_38 (by decide)).trans ?_
          refine zif_c (fun h6_ => ?_) (fun h6_ => ?_)
          · refine (Q_aload_n zm_181 (Or.inl (by decide)) D181_53 rfl).trans ?_
            refine (Q_getR (q := 148) zm_181 (Or.inl (by decide)) D181_54 zf_10_75 zs_10_36 zk_127.1 rfl).trans ?_
            refine (Q_iload_n zm_181 (Or.inl (by decide)) D181_57 rfl).trans ?_
            refine (Q_aload_n zm_181 (Or.inl (by decide)) D181_58 rfl).trans ?_
            refine (Q_getR (q := 148) zm_181 (Or.inl (by decide)) D181_59 zf_10_75 zs_10_36 zk_127.1 rfl).trans ?_
            refine (Q_iload_n zm_181 (Or.inl (by decide)) D181_62 rfl).trans ?_
            refine (Q_iaload zm_181 (Or.inl (by decide)) D181_63 zk_148.1 zk_148.2).trans ?_
            refine zand_c (fun h7_ => ?_)
            refine (Q_ldc_w (v := 1103515245) zm_181 (Or.inl (by decide)) D181_64 (by decide +kernel)).trans ?_
            refine (Q_imul zm_181 (Or.inl (by decide)) D181_67).trans ?_
            refine (Q_sipush (v := 12345) zm_181 (Or.inl (by decide)) D181_68 (by decide)).trans ?_
            refine (Q_iadd zm_181 (Or.inl (by decide)) D181_71).trans ?_
            refine (Q_ldc_w (v := 2147483647) zm_181 (Or.inl (by decide)) D181_72 (by decide +kernel)).trans ?_
            refine (Q_iand zm_181 (Or.inl (by decide)) D181_75).trans ?_
            refine ((Q_iastore zm_181 (Or.inl (by decide)) D181_76 zk_148.1 zk_148.2).trans (zdrop h7_)).trans ?_
            refine (Q_aload_n zm_181 (Or.inl (by decide)) D181_77 rfl).trans ?_
            refine (Q_getR (q := 148) zm_181 (Or.inl (by decide)) D181_78 zf_10_75 zs_10_36 zk_127.1 rfl).trans ?_
            refine (Q_iload_n zm_181 (Or.inl (by decide)) D181_81 rfl).trans ?_
            refine ((Q_iaload zm_181 (Or.inl (by decide)) D181_82 zk_148.1 zk_148.2).trans (zdrop h7_)).trans ?_
            refine (Q_bipush (v := 16) zm_181 (Or.inl (by decide)) D181_83 (by decide)).trans ?_
            refine (Q_ishr zm_181 (Or.inl (by decide)) D181_85).trans ?_
            refine (Q_bipush (v := 100) zm_181 (Or.inl (by decide)) D181_86 (by decide)).trans ?_
            refine (Q_irem zm_181 (Or.inl (by decide)) D181_88 (by decide)).trans ?_
            refine (Q_iload_n zm_181 (Or.inl (by decide)) D181_89 rfl).trans ?_
            refine (Q_ic_ge (tgt := 97) zm_181 (Or.inl (by decide)) D181_90 (by decide)).trans ?_
            refine zif_c (fun h8_ => ?_) (fun h8_ => ?_)
            · refine (Q_iconst (v := 0) zm_181 (Or.inl (by decide)) D181_97 (by decide)).trans ?_
              exact Q_zreturn zm_181 (Or.inl (by decide)) D181_98 rfl (by decide)
            · refine (Q_iconst (v := 1) zm_181 (Or.inl (by decide)) D181_93 (by decide)).trans ?_
              refine (Q_goto (tgt := 98) zm_181 (Or.inl (by decide)) D181_94 (by decide)).trans ?_
              exact Q_zreturn zm_181 (Or.inl (by decide)) D181_98 rfl (by decide)
          · refine (Q_iload_n zm_181 (Or.inl (by decide)) D181_41 rfl).trans ?_
            refine (Q_bipush (v := 50) zm_181 (Or.inl (by decide)) D181_42 (by decide)).trans ?_
            refine (Q_ic_lt (tgt := 51) zm_181 (Or.inl (by decide)) D181_44 (by decide)).trans ?_
            refine zif_c (fun h9_ => ?_) (fun h9_ => ?_)
            · refine (Q_iconst (v := 0) zm_181 (Or.inl (by decide)) D181_51 (by decide)).trans ?_
              exact Q_zreturn zm_181 (Or.inl (by decide)) D181_52 rfl (by decide)
            · refine (Q_iconst (v := 1) zm_181 (Or.inl (by decide)) D181_47 (by decide)).trans ?_
              refine (Q_goto (tgt := 52) zm_181 (Or.inl (by decide)) D181_48 (by decide)).trans ?_
              exact Q_zreturn zm_181 (Or.inl (by decide)) D181_52 rfl (by decide)
    · refine (Q_iconst (v := 1) zm_181 (Or.inl (by decide)) D181_18 (by decide)).trans ?_
      exact Q_zreturn zm_181 (Or.inl (by decide)) D181_19 rfl (by decide)
  · refine (Q_iconst (v := 0) zm_181 (Or.inl (by decide)) D181_8 (by decide)).trans ?_
    exact Q_zreturn zm_181 (Or.inl (by decide)) D181_9 rfl (by decide)

/-! HandsLetModel.isForgedToday(II)Z -/
theorem D182_0 : decode prog_12_method_56_code 0 = .ok (.aload_n 0, 1) := by decide +kernel
theorem D182_1 : decode prog_12_method_56_code 1 = .ok (.getfield 46, 3) := by decide +kernel
theorem D182_4 : decode prog_12_method_56_code 4 = .ok (.iload_n 2, 1) := by decide +kernel
theorem D182_5 : decode prog_12_method_56_code 5 = .ok (.iaload, 1) := by decide +kernel
theorem D182_6 : decode prog_12_method_56_code 6 = .ok (.aload_n 0, 1) := by decide +kernel
theorem D182_7 : decode prog_12_method_56_code 7 = .ok (.getfield 72, 3) := by decide +kernel
theorem D182_10 : decode prog_12_method_56_code 10 = .ok (.iload_n 1, 1) := by decide +kernel
theorem D182_11 : decode prog_12_method_56_code 11 = .ok (.iaload, 1) := by decide +kernel
theorem D182_12 : decode prog_12_method_56_code 12 = .ok (.if_icmp .ne 22, 3) := by decide +kernel
theorem D182_15 : decode prog_12_method_56_code 15 = .ok (.aload_n 0, 1) := by decide +kernel
theorem D182_16 : decode prog_12_method_56_code 16 = .ok (.getfield 102, 3) := by decide +kernel
theorem D182_19 : decode prog_12_method_56_code 19 = .ok (.bipush 12, 2) := by decide +kernel
theorem D182_21 : decode prog_12_method_56_code 21 = .ok (.iload_n 1, 1) := by decide +kernel
theorem D182_22 : decode prog_12_method_56_code 22 = .ok (.imul, 1) := by decide +kernel
theorem D182_23 : decode prog_12_method_56_code 23 = .ok (.iload_n 2, 1) := by decide +kernel
theorem D182_24 : decode prog_12_method_56_code 24 = .ok (.iadd, 1) := by decide +kernel
theorem D182_25 : decode prog_12_method_56_code 25 = .ok (.iaload, 1) := by decide +kernel
theorem D182_26 : decode prog_12_method_56_code 26 = .ok (.iconst 2, 1) := by decide +kernel
theorem D182_27 : decode prog_12_method_56_code 27 = .ok (.if_icmp .ne 7, 3) := by decide +kernel
theorem D182_30 : decode prog_12_method_56_code 30 = .ok (.iconst 1, 1) := by decide +kernel
theorem D182_31 : decode prog_12_method_56_code 31 = .ok (.goto 4, 3) := by decide +kernel
theorem D182_34 : decode prog_12_method_56_code 34 = .ok (.iconst 0, 1) := by decide +kernel
theorem D182_35 : decode prog_12_method_56_code 35 = .ok (.ireturn, 1) := by decide +kernel

theorem b182_0 {d : Nat} {i1 : Int32} {i2 : Int32} {ia : Nat → Nat → Int32} {la : Nat → Nat → Int64} {pl dr : Nat} {cp : Option Nat} {cw : Option Nat} {rp : Option Nat} {K : Option Value → zHP → Prop}  : zWP d 182 0 [some (.ref 127), some (.int i1), some (.int i2)] [] (ia, la, zRA pl dr cp cw rp) K = (vp_in i2 24 ∧ (vp_in i1 23 ∧ (if ¬ (ia 140 (i2).toNatClampNeg) = (ia 147 (i1).toNatClampNeg) then K (some (.int (0 : Int32))) (ia, la, zRA pl dr cp cw rp) else (vp_in (((12 : Int32) * i1) + i2) 276 ∧ (if ¬ (ia 157 ((((12 : Int32) * i1) + i2)).toNatClampNeg) = (2 : Int32) then K (some (.int (0 : Int32))) (ia, la, zRA pl dr cp cw rp) else K (some (.int (1 : Int32))) (ia, la, zRA pl dr cp cw rp)))))) := by
  refine (Q_aload_n zm_182 (Or.inl (by decide)) D182_0 rfl).trans ?_
  refine (Q_getR (q := 140) zm_182 (Or.inl (by decide)) D182_1 zf_10_46 zs_10_14 zk_127.1 rfl).trans ?_
  refine (Q_iload_n zm_182 (Or.inl (by decide)) D182_4 rfl).trans ?_
  refine (Q_iaload zm_182 (Or.inl (by decide)) D182_5 zk_140.1 zk_140.2).trans ?_
  refine zand_c (fun h0_ => ?_)
  refine (Q_aload_n zm_182 (Or.inl (by decide)) D182_6 rfl).trans ?_
  refine (Q_getR (q := 147) zm_182 (Or.inl (by decide)) D182_7 zf_10_72 zs_10_35 zk_127.1 rfl).trans ?_
  refine (Q_iload_n zm_182 (Or.inl (by decide)) D182_10 rfl).trans ?_
  refine (Q_iaload zm_182 (Or.inl (by decide)) D182_11 zk_147.1 zk_147.2).trans ?_
  refine zand_c (fun h1_ => ?_)
  refine (Q_ic_ne (tgt := 34) zm_182 (Or.inl (by decide)) D182_12 (by decide)).trans ?_
  refine zif_c (fun h2_ => ?_) (fun h2_ => ?_)
  · refine (Q_iconst (v := 0) zm_182 (Or.inl (by decide)) D182_34 (by decide)).trans ?_
    exact Q_zreturn zm_182 (Or.inl (by decide)) D182_35 rfl (by decide)
  · refine (Q_aload_n zm_182 (Or.inl (by decide)) D182_15 rfl).trans ?_
    refine (Q_getR (q := 157) zm_182 (Or.inl (by decide)) D182_16 zf_10_102 zs_10_45 zk_127.1 rfl).trans ?_
    refine (Q_bipush (v := 12) zm_182 (Or.inl (by decide)) D182_19 (by decide)).trans ?_
    refine (Q_iload_n zm_182 (Or.inl (by decide)) D182_21 rfl).trans ?_
    refine (Q_imul zm_182 (Or.inl (by decide)) D182_22).trans ?_
    refine (Q_iload_n zm_182 (Or.inl (by decide)) D182_23 rfl).trans ?_
    refine (Q_iadd zm_182 (Or.inl (by decide)) D182_24).trans ?_
    refine (Q_iaload zm_182 (Or.inl (by decide)) D182_25 zk_157.1 zk_157.2).trans ?_
    refine zand_c (fun h3_ => ?_)
    refine (Q_iconst (v := 2) zm_182 (Or.inl (by decide)) D182_26 (by decide)).trans ?_
    refine (Q_ic_ne (tgt := 34) zm_182 (Or.inl (by decide)) D182_27 (by decide)).trans ?_
    refine zif_c (fun h4_ => ?_) (fun h4_ => ?_)
    · refine (Q_iconst (v := 0) zm_182 (Or.inl (by decide)) D182_34 (by decide)).trans ?_
      exact Q_zreturn zm_182 (Or.inl (by decide)) D182_35 rfl (by decide)
    · refine (Q_iconst (v := 1) zm_182 (Or.inl (by decide)) D182_30 (by decide)).trans ?_
      refine (Q_goto (tgt := 35) zm_182 (Or.inl (by decide)) D182_31 (by decide)).trans ?_
      exact Q_zreturn zm_182 (Or.inl (by decide)) D182_35 rfl (by decide)

/-! HandsLetModel.looks(I)V -/
theorem D183_0 : decode prog_12_method_57_code 0 = .ok (.iconst 0, 1) := by decide +kernel
theorem D183_1 : decode prog_12_method_57_code 1 = .ok (.istore_n 2, 1) := by decide +kernel
theorem D183_2 : decode prog_12_method_57_code 2 = .ok (.iload_n 2, 1) := by decide +kernel
theorem D183_3 : decode prog_12_method_57_code 3 = .ok (.aload_n 0, 1) := by decide +kernel
theorem D183_4 : decode prog_12_method_57_code 4 = .ok (.getfield 13, 3) := by decide +kernel
theorem D183_7 : decode prog_12_method_57_code 7 = .ok (.iconst 2, 1) := by decide +kernel
theorem D183_8 : decode prog_12_method_57_code 8 = .ok (.iaload, 1) := by decide +kernel
theorem D183_9 : decode prog_12_method_57_code 9 = .ok (.if_icmp .ge 106, 3) := by decide +kernel
theorem D183_12 : decode prog_12_method_57_code 12 = .ok (.aload_n 0, 1) := by decide +kernel
theorem D183_13 : decode prog_12_method_57_code 13 = .ok (.iload_n 1, 1) := by decide +kernel
theorem D183_14 : decode prog_12_method_57_code 14 = .ok (.iload_n 2, 1) := by decide +kernel
theorem D183_15 : decode prog_12_method_57_code 15 = .ok (.invokevirtual 381, 3) := by decide +kernel
theorem D183_18 : decode prog_12_method_57_code 18 = .ok (.ifCond .ne 6, 3) := by decide +kernel
theorem D183_21 : decode prog_12_method_57_code 21 = .ok (.goto 88, 3) := by decide +kernel
theorem D183_24 : decode prog_12_method_57_code 24 = .ok (.aload_n 0, 1) := by decide +kernel
theorem D183_25 : decode prog_12_method_57_code 25 = .ok (.getfield 84, 3) := by decide +kernel
theorem D183_28 : decode prog_12_method_57_code 28 = .ok (.iload_n 1, 1) := by decide +kernel
theorem D183_29 : decode prog_12_method_57_code 29 = .ok (.dup2, 1) := by decide +kernel
theorem D183_30 : decode prog_12_method_57_code 30 = .ok (.iaload, 1) := by decide +kernel
theorem D183_31 : decode prog_12_method_57_code 31 = .ok (.iconst 1, 1) := by decide +kernel
theorem D183_32 : decode prog_12_method_57_code 32 = .ok (.iload_n 2, 1) := by decide +kernel
theorem D183_33 : decode prog_12_method_57_code 33 = .ok (.ishl, 1) := by decide +kernel
theorem D183_34 : decode prog_12_method_57_code 34 = .ok (.ior, 1) := by decide +kernel
theorem D183_35 : decode prog_12_method_57_code 35 = .ok (.iastore, 1) := by decide +kernel
theorem D183_36 : decode prog_12_method_57_code 36 = .ok (.bipush 6, 2) := by decide +kernel
theorem D183_38 : decode prog_12_method_57_code 38 = .ok (.iload_n 1, 1) := by decide +kernel
theorem D183_39 : decode prog_12_method_57_code 39 = .ok (.imul, 1) := by decide +kernel
theorem D183_40 : decode prog_12_method_57_code 40 = .ok (.aload_n 0, 1) := by decide +kernel
theorem D183_41 : decode prog_12_method_57_code 41 = .ok (.getfield 40, 3) := by decide +kernel
theorem D183_44 : decode prog_12_method_57_code 44 = .ok (.iload_n 2, 1) := by decide +kernel
theorem D183_45 : decode prog_12_method_57_code 45 = .ok (.iaload, 1) := by decide +kernel
theorem D183_46 : decode prog_12_method_57_code 46 = .ok (.iadd, 1) := by decide +kernel
theorem D183_47 : decode prog_12_method_57_code 47 = .ok (.istore_n 3, 1) := by decide +kernel
theorem D183_48 : decode prog_12_method_57_code 48 = .ok (.aload_n 0, 1) := by decide +kernel
theorem D183_49 : decode prog_12_method_57_code 49 = .ok (.iload_n 1, 1) := by decide +kernel
theorem D183_50 : decode prog_12_method_57_code 50 = .ok (.aload_n 0, 1) := by decide +kernel
theorem D183_51 : decode prog_12_method_57_code 51 = .ok (.getfield 43, 3) := by decide +kernel
theorem D183_54 : decode prog_12_method_57_code 54 = .ok (.iload_n 2, 1) := by decide +kernel
theorem D183_55 : decode prog_12_method_57_code 55 = .ok (.iaload, 1) := by decide +kernel
theorem D183_56 : decode prog_12_method_57_code 56 = .ok (.aload_n 0, 1) := by decide +kernel
theorem D183_57 : decode prog_12_method_57_code 57 = .ok (.getfield 40, 3) := by decide +kernel
theorem D183_60 : decode prog_12_method_57_code 60 = .ok (.iload_n 2, 1) := by decide +kernel
theorem D183_61 : decode prog_12_method_57_code 61 = .ok (.iaload, 1) := by decide +kernel
theorem D183_62 : decode prog_12_method_57_code 62 = .ok (.iconst 0, 1) := by decide +kernel
theorem D183_63 : decode prog_12_method_57_code 63 = .ok (.invokevirtual 360, 3) := by decide +kernel
theorem D183_66 : decode prog_12_method_57_code 66 = .ok (.aload_n 0, 1) := by decide +kernel
theorem D183_67 : decode prog_12_method_57_code 67 = .ok (.getfield 357, 3) := by decide +kernel
theorem D183_70 : decode prog_12_method_57_code 70 = .ok (.iconst 4, 1) := by decide +kernel
theorem D183_71 : decode prog_12_method_57_code 71 = .ok (.if_icmp .ne 7, 3) := by decide +kernel
theorem D183_74 : decode prog_12_method_57_code 74 = .ok (.iconst 0, 1) := by decide +kernel
theorem D183_75 : decode prog_12_method_57_code 75 = .ok (.goto 13, 3) := by decide +kernel
theorem D183_78 : decode prog_12_method_57_code 78 = .ok (.aload_n 0, 1) := by decide +kernel
theorem D183_79 : decode prog_12_method_57_code 79 = .ok (.iconst 2, 1) := by decide +kernel
theorem D183_80 : decode prog_12_method_57_code 80 = .ok (.sipush 999, 3) := by decide +kernel
theorem D183_83 : decode prog_12_method_57_code 83 = .ok (.bipush 10, 2) := by decide +kernel
theorem D183_85 : decode prog_12_method_57_code 85 = .ok (.invokevirtual 364, 3) := by decide +kernel
theorem D183_88 : decode prog_12_method_57_code 88 = .ok (.istore 4, 2) := by decide +kernel
theorem D183_90 : decode prog_12_method_57_code 90 = .ok (.aload_n 0, 1) := by decide +kernel
theorem D183_91 : decode prog_12_method_57_code 91 = .ok (.getfield 99, 3) := by decide +kernel
theorem D183_94 : decode prog_12_method_57_code 94 = .ok (.iload_n 3, 1) := by decide +kernel
theorem D183_95 : decode prog_12_method_57_code 95 = .ok (.iconst 0, 1) := by decide +kernel
theorem D183_96 : decode prog_12_method_57_code 96 = .ok (.aload_n 0, 1) := by decide +kernel
theorem D183_97 : decode prog_12_method_57_code 97 = .ok (.getfield 99, 3) := by decide +kernel
theorem D183_100 : decode prog_12_method_57_code 100 = .ok (.iload_n 3, 1) := by decide +kernel
theorem D183_101 : decode prog_12_method_57_code 101 = .ok (.iaload, 1) := by decide +kernel
theorem D183_102 : decode prog_12_method_57_code 102 = .ok (.iload 4, 2) := by decide +kernel
theorem D183_104 : decode prog_12_method_57_code 104 = .ok (.isub, 1) := by decide +kernel
theorem D183_105 : decode prog_12_method_57_code 105 = .ok (.invokestatic 384, 3) := by decide +kernel
theorem D183_108 : decode prog_12_method_57_code 108 = .ok (.iastore, 1) := by decide +kernel
theorem D183_109 : decode prog_12_method_57_code 109 = .ok (.iinc 2 1, 3) := by decide +kernel
theorem D183_112 : decode prog_12_method_57_code 112 = .ok (.goto (-110), 3) := by decide +kernel
theorem D183_115 : decode prog_12_method_57_code 115 = .ok (.return_, 1) := by decide +kernel

theorem b183_0 {d : Nat} {i1 : Int32} {ia : Nat → Nat → Int32} {la : Nat → Nat → Int64} {pl dr : Nat} {cp : Option Nat} {cw : Option Nat} {rp : Option Nat} {K : Option Value → zHP → Prop}  : zWP d 183 0 [some (.ref 127), some (.int i1), none, none, none] [] (ia, la, zRA pl dr cp cw rp) K = zWP d 183 2 [some (.ref 127), some (.int i1), some (.int (0 : Int32)), none, none] [] (ia, la, zRA pl dr cp cw rp) K := by
  refine (Q_iconst (v := 0) zm_183 (Or.inl (by decide)) D183_0 (by decide)).trans ?_
  refine (Q_istore_n (ls' := [some (.ref 127), some (.int i1), some (.int (0 : Int32)), none, none]) zm_183 (Or.inl (by decide)) D183_1 rfl (Nat.le_of_ble_eq_true rfl) rfl).trans ?_
  rfl

theorem b183_2 {d : Nat} {i1 : Int32} {i2 : Int32} {a3 : Option Value} {a4 : Option Value} {ia : Nat → Nat → Int32} {la : Nat → Nat → Int64} {pl dr : Nat} {cp : Option Nat} {cw : Option Nat} {rp : Option Nat} {K : Option Value → zHP → Prop}  : zWP (d + 1) 183 2 [some (.ref 127), some (.int i1), some (.int i2), a3, a4] [] (ia, la, zRA pl dr cp cw rp) K = (if (ia 129 2) ≤ i2 then K none (ia, la, zRA pl dr cp cw rp) else zWM d 182 [.ref 127, .int i1, .int i2] (ia, la, zRA pl dr cp cw rp) (zK (d + 1) 183 18 [some (.ref 127), some (.int i1), some (.int i2), a3, a4] [] K)) := by
  refine (Q_iload_n zm_183 (Or.inl (by decide)) D183_2 rfl).trans ?_
  refine (Q_aload_n zm_183 (Or.inl (by decide)) D183_3 rfl).trans ?_
  refine (Q_getR (q := 129) zm_183 (Or.inl (by decide)) D183_4 zf_10_13 zs_10_3 zk_127.1 rfl).trans ?_
  refine (Q_iconst (v := 2) zm_183 (Or.inl (by decide)) D183_7 (by decide)).trans ?_
  refine ((Q_iaload zm_183 (Or.inl (by decide)) D183_8 zk_129.1 zk_129.2).trans (zdrop (zin_spec (by decide)))).trans ?_
  refine (Q_ic_ge (tgt := 115) zm_183 (Or.inl (by decide)) D183_9 (by decide)).trans ?_
  refine zif_c (fun h0_ => ?_) (fun h0_ => ?_)
  · exact Q_return zm_183 (Or.inl (by decide)) D183_115 rfl
  · refine (Q_aload_n zm_183 (Or.inl (by decide)) D183_12 rfl).trans ?_
    refine (Q_iload_n zm_183 (Or.inl (by decide)) D183_13 rfl).trans ?_
    refine (Q_iload_n zm_183 (Or.inl (by decide)) D183_14 rfl).trans ?_
    exact Q_callv (as := [.int i1, .int i2]) (b := 127) (rest := []) zm_183 (Or.inl (by decide)) D183_15 zc_10_381 rfl zk_127.1 (by decide) (by decide +kernel) (by decide) (by simp [zcat, Value.category]) zm_182 rfl

theorem b183_18 {d : Nat} {i1 : Int32} {i2 : Int32} {a3 : Option Value} {a4 : Option Value} {s0 : Int32} {ia : Nat → Nat → Int32} {la : Nat → Nat → Int64} {pl dr : Nat} {cp : Option Nat} {cw : Option Nat} {rp : Option Nat} {K : Option Value → zHP → Prop}  : zWP (d + 1) 183 18 [some (.ref 127), some (.int i1), some (.int i2), a3, a4] [.int s0] (ia, la, zRA pl dr cp cw rp) K = (if ¬ s0 = 0 then (vp_in i1 23 ∧ (vp_in i2 24 ∧ zWM d 175 [.ref 127, .int i1, .int ((zu ia 151 (i1).toNatClampNeg ((ia 151 (i1).toNatClampNeg) ||| ((1 : Int32) <<< (i2 &&& 31)))) 139 (i2).toNatClampNeg), .int ((zu ia 151 (i1).toNatClampNeg ((ia 151 (i1).toNatClampNeg) ||| ((1 : Int32) <<< (i2 &&& 31)))) 138 (i2).toNatClampNeg), .int (0 : Int32)] ((zu ia 151 (i1).toNatClampNeg ((ia 151 (i1).toNatClampNeg) ||| ((1 : Int32) <<< (i2 &&& 31)))), la, zRA pl dr cp cw rp) (zK (d + 1) 183 66 [some (.ref 127), some (.int i1), some (.int i2), some (.int (((6 : Int32) * i1) + ((zu ia 151 (i1).toNatClampNeg ((ia 151 (i1).toNatClampNeg) ||| ((1 : Int32) <<< (i2 &&& 31)))) 138 (i2).toNatClampNeg))), a4] [] K))) else zWP (d + 1) 183 2 [some (.ref 127), some (.int i1), some (.int (i2 + (1 : Int32))), a3, a4] [] (ia, la, zRA pl dr cp cw rp) K) := by
  refine (Q_if_ne (tgt := 24) zm_183 (Or.inl (by decide)) D183_18 (by decide)).trans ?_
  refine zif_c (fun h0_ => ?_) (fun h0_ => ?_)
  · refine (Q_aload_n zm_183 (Or.inl (by decide)) D183_24 rfl).trans ?_
    refine (Q_getR (q := 151) zm_183 (Or.inl (by decide)) D183_25 zf_10_84 zs_10_39 zk_127.1 rfl).trans ?_
    refine (Q_iload_n zm_183 (Or.inl (by decide)) D183_28 rfl).trans ?_
    refine (Q_dup2 zm_183 (Or.inl (by decide)) D183_29 rfl rfl).trans ?_
    refine (Q_iaload zm_183 (Or.inl (by decide)) D183_30 zk_151.1 zk_151.2).trans ?_
    refine zand_c (fun h1_ => ?_)
    refine (Q_iconst (v := 1) zm_183 (Or.inl (by decide)) D183_31 (by decide)).trans ?_
    refine (Q_iload_n zm_183 (Or.inl (by decide)) D183_32 rfl).trans ?_
    refine (Q_ishl zm_183 (Or.inl (by decide)) D183_33).trans ?_
    refine (Q_ior zm_183 (Or.inl (by decide)) D183_34).trans ?_
    refine ((Q_iastore zm_183 (Or.inl (by decide)) D183_35 zk_151.1 zk_151.2).trans (zdrop h1_)).trans ?_
    refine (Q_bipush (v := 6) zm_183 (Or.inl (by decide)) D183_36 (by decide)).trans ?_
    refine (Q_iload_n zm_183 (Or.inl (by decide)) D183_38 rfl).trans ?_
    refine (Q_imul zm_183 (Or.inl (by decide)) D183_39).trans ?_
    refine (Q_aload_n zm_183 (Or.inl (by decide)) D183_40 rfl).trans ?_
    refine (Q_getR (q := 138) zm_183 (Or.inl (by decide)) D183_41 zf_10_40 zs_10_12 zk_127.1 rfl).trans ?_
    refine (Q_iload_n zm_183 (Or.inl (by decide)) D183_44 rfl).trans ?_
    refine (Q_iaload zm_183 (Or.inl (by decide)) D183_45 zk_138.1 zk_138.2).trans ?_
    refine zand_c (fun h2_ => ?_)
    refine (Q_iadd zm_183 (Or.inl (by decide)) D183_46).trans ?_
    refine (Q_istore_n (ls' := [some (.ref 127), some (.int i1), some (.int i2), some (.int (((6 : Int32) * i1) + ((zu ia 151 (i1).toNatClampNeg ((ia 151 (i1).toNatClampNeg) ||| ((1 : Int32) <<< (i2 &&& 31)))) 138 (i2).toNatClampNeg))), a4]) zm_183 (Or.inl (by decide)) D183_47 rfl (Nat.le_of_ble_eq_true rfl) rfl).trans ?_
    refine (Q_aload_n zm_183 (Or.inl (by decide)) D183_48 rfl).trans ?_
    refine (Q_iload_n zm_183 (Or.inl (by decide)) D183_49 rfl).trans ?_
    refine (Q_aload_n zm_183 (Or.inl (by decide)) D183_50 rfl).trans ?_
    refine (Q_getR (q := 139) zm_183 (Or.inl (by decide)) D183_51 zf_10_43 zs_10_13 zk_127.1 rfl).trans ?_
    refine (Q_iload_n zm_183 (Or.inl (by decide)) D183_54 rfl).trans ?_
    refine ((Q_iaload zm_183 (Or.inl (by decide)) D183_55 zk_139.1 zk_139.2).trans (zdrop h2_)).trans ?_
    refine (Q_aload_n zm_183 (Or.inl (by decide)) D183_56 rfl).trans ?_
    refine (Q_getR (q := 138) zm_183 (Or.inl (by decide)) D183_57 zf_10_40 zs_10_12 zk_127.1 rfl).trans ?_
    refine (Q_iload_n zm_183 (Or.inl (by decide)) D183_60 rfl).trans ?_
    refine ((Q_iaload zm_183 (Or.inl (by decide)) D183_61 zk_138.1 zk_138.2).trans (zdrop h2_)).trans ?_
    refine (Q_iconst (v := 0) zm_183 (Or.inl (by decide)) D183_62 (by decide)).trans ?_
    exact Q_callv (as := [.int i1, .int ((zu ia 151 (i1).toNatClampNeg ((ia 151 (i1).toNatClampNeg) ||| ((1 : Int32) <<< (i2 &&& 31)))) 139 (i2).toNatClampNeg), .int ((zu ia 151 (i1).toNatClampNeg ((ia 151 (i1).toNatClampNeg) ||| ((1 : Int32) <<< (i2 &&& 31)))) 138 (i2).toNatClampNeg), .int (0 : Int32)]) (b := 127) (rest := []) zm_183 (Or.inl (by decide)) D183_63 zc_10_360 rfl zk_127.1 (by decide) (by decide +kernel) (by decide) (by simp [zcat, Value.category]) zm_175 rfl
  · refine (Q_goto (tgt := 109) zm_183 (Or.inl (by decide)) D183_21 (by decide)).trans ?_
    refine (Q_iinc (v := 1) (ls' := [some (.ref 127), some (.int i1), some (.int (i2 + (1 : Int32))), a3, a4]) zm_183 (Or.inl (by decide)) D183_109 rfl rfl (by decide) rfl).trans ?_
    refine (Q_goto (tgt := 2) zm_183 (Or.inl (by decide)) D183_112 (by decide)).trans ?_
    rfl

theorem b183_66 {d : Nat} {i1 : Int32} {i2 : Int32} {i3 : Int32} {a4 : Option Value} {ia : Nat → Nat → Int32} {la : Nat → Nat → Int64} {pl dr : Nat} {cp : Option Nat} {cw : Option Nat} {rp : Option Nat} {K : Option Value → zHP → Prop}  : zWP (d + 1) 183 66 [some (.ref 127), some (.int i1), some (.int i2), some (.int i3), a4] [] (ia, la, zRA pl dr cp cw rp) K = (if ¬ (ia 127 49) = (4 : Int32) then zWM d 176 [.ref 127, .int (2 : Int32), .int (999 : Int32), .int (10 : Int32)] (ia, la, zRA pl dr cp cw rp) (zK (d + 1) 183 88 [some (.ref 127), some (.int i1), some (.int i2), some (.int i3), a4] [] K) else zWP (d + 1) 183 88 [some (.ref 127), some (.int i1), some (.int i2), some (.int i3), a4] [.int (0 : Int32)] (ia, la, zRA pl dr cp cw rp) K) := by
  refine (Q_aload_n zm_183 (Or.inl (by decide)) D183_66 rfl).trans ?_
  refine (Q_getI zm_183 (Or.inl (by decide)) D183_67 zf_10_357 (Or.inl zs_10_49) zk_127.1).trans ?_
  refine (Q_iconst (v := 4) zm_183 (Or.inl (by decide)) D183_70 (by decide)).trans ?_
  refine (Q_ic_ne (tgt := 78) zm_183 (Or.inl (by decide)) D183_71 (by decide)).trans ?_
  refine zif_c (fun h0_ => ?_) (fun h0_ => ?_)
  · refine (Q_aload_n zm_183 (Or.inl (by decide)) D183_78 rfl).trans ?_
    refine (Q_iconst (v := 2) zm_183 (Or.inl (by decide)) D183_79 (by decide)).trans ?_
    refine (Q_sipush (v := 999) zm_183 (Or.inl (by decide)) D183_80 (by decide)).trans ?_
    refine (Q_bipush (v := 10) zm_183 (Or.inl (by decide)) D183_83 (by decide)).trans ?_
    exact Q_callv (as := [.int (2 : Int32), .int (999 : Int32), .int (10 : Int32)]) (b := 127) (rest := []) zm_183 (Or.inl (by decide)) D183_85 zc_10_364 rfl zk_127.1 (by decide) (by decide +kernel) (by decide) (by simp [zcat, Value.category]) zm_176 rfl
  · refine (Q_iconst (v := 0) zm_183 (Or.inl (by decide)) D183_74 (by decide)).trans ?_
    refine (Q_goto (tgt := 88) zm_183 (Or.inl (by decide)) D183_75 (by decide)).trans ?_
    rfl

theorem b183_88 {d : Nat} {i1 : Int32} {i2 : Int32} {i3 : Int32} {a4 : Option Value} {s0 : Int32} {ia : Nat → Nat → Int32} {la : Nat → Nat → Int64} {pl dr : Nat} {cp : Option Nat} {cw : Option Nat} {rp : Option Nat} {K : Option Value → zHP → Prop}  : zWP (d + 5) 183 88 [some (.ref 127), some (.int i1), some (.int i2), some (.int i3), a4] [.int s0] (ia, la, zRA pl dr cp cw rp) K = (vp_in i3 138 ∧ zWP (d + 5) 183 2 [some (.ref 127), some (.int i1), some (.int (i2 + (1 : Int32))), some (.int i3), some (.int s0)] [] ((zu ia 156 (i3).toNatClampNeg (if (0 : Int32) < ((ia 156 (i3).toNatClampNeg) - s0) then ((ia 156 (i3).toNatClampNeg) - s0) else (0 : Int32))), la, zRA pl dr cp cw rp) K) := by
  refine (Q_istore (ls' := [some (.ref 127), some (.int i1), some (.int i2), some (.int i3), some (.int s0)]) zm_183 (Or.inl (by decide)) D183_88 rfl (Nat.le_of_ble_eq_true rfl) rfl).trans ?_
  refine (Q_aload_n zm_183 (Or.inl (by decide)) D183_90 rfl).trans ?_
  refine (Q_getR (q := 156) zm_183 (Or.inl (by decide)) D183_91 zf_10_99 zs_10_44 zk_127.1 rfl).trans ?_
  refine (Q_iload_n zm_183 (Or.inl (by decide)) D183_94 rfl).trans ?_
  refine (Q_iconst (v := 0) zm_183 (Or.inl (by decide)) D183_95 (by decide)).trans ?_
  refine (Q_aload_n zm_183 (Or.inl (by decide)) D183_96 rfl).trans ?_
  refine (Q_getR (q := 156) zm_183 (Or.inl (by decide)) D183_97 zf_10_99 zs_10_44 zk_127.1 rfl).trans ?_
  refine (Q_iload_n zm_183 (Or.inl (by decide)) D183_100 rfl).trans ?_
  refine (Q_iaload zm_183 (Or.inl (by decide)) D183_101 zk_156.1 zk_156.2).trans ?_
  refine zand_c (fun h0_ => ?_)
  refine (Q_iload zm_183 (Or.inl (by decide)) D183_102 rfl).trans ?_
  refine (Q_isub zm_183 (Or.inl (by decide)) D183_104).trans ?_
  refine (Q_bis (as := [.int (0 : Int32), .int ((ia 156 (i3).toNatClampNeg) - s0)]) (rest := [.int i3, .ref 156]) zm_183 (Or.inl (by decide)) D183_105 zc_10_384 rfl (by decide) (by simp [zcat, Value.category]) rfl).trans ?_
  refine ((Q_iastore zm_183 (Or.inl (by decide)) D183_108 zk_156.1 zk_156.2).trans (zdrop h0_)).trans ?_
  refine (Q_iinc (v := 1) (ls' := [some (.ref 127), some (.int i1), some (.int (i2 + (1 : Int32))), some (.int i3), some (.int s0)]) zm_183 (Or.inl (by decide)) D183_109 rfl rfl (by decide) rfl).trans ?_
  refine (Q_goto (tgt := 2) zm_183 (Or.inl (by decide)) D183_112 (by decide)).trans ?_
  rfl

/-! HandsLetModel.comesBack(II)V -/
theorem D184_0 : decode prog_12_method_58_code 0 = .ok (.bipush 6, 2) := by decide +kernel
theorem D184_2 : decode prog_12_method_58_code 2 = .ok (.iload_n 1, 1) := by decide +kernel
theorem D184_3 : decode prog_12_method_58_code 3 = .ok (.imul, 1) := by decide +kernel
theorem D184_4 : decode prog_12_method_58_code 4 = .ok (.iload_n 2, 1) := by decide +kernel
theorem D184_5 : decode prog_12_method_58_code 5 = .ok (.iadd, 1) := by decide +kernel
theorem D184_6 : decode prog_12_method_58_code 6 = .ok (.istore_n 3, 1) := by decide +kernel
theorem D184_7 : decode prog_12_method_58_code 7 = .ok (.aload_n 0, 1) := by decide +kernel
theorem D184_8 : decode prog_12_method_58_code 8 = .ok (.getfield 90, 3) := by decide +kernel
theorem D184_11 : decode prog_12_method_58_code 11 = .ok (.iload_n 3, 1) := by decide +kernel
theorem D184_12 : decode prog_12_method_58_code 12 = .ok (.iaload, 1) := by decide +kernel
theorem D184_13 : decode prog_12_method_58_code 13 = .ok (.istore 4, 2) := by decide +kernel
theorem D184_15 : decode prog_12_method_58_code 15 = .ok (.aload_n 0, 1) := by decide +kernel
theorem D184_16 : decode prog_12_method_58_code 16 = .ok (.iload_n 1, 1) := by decide +kernel
theorem D184_17 : decode prog_12_method_58_code 17 = .ok (.iload_n 2, 1) := by decide +kernel
theorem D184_18 : decode prog_12_method_58_code 18 = .ok (.iload 4, 2) := by decide +kernel
theorem D184_20 : decode prog_12_method_58_code 20 = .ok (.iconst 0, 1) := by decide +kernel
theorem D184_21 : decode prog_12_method_58_code 21 = .ok (.invokevirtual 360, 3) := by decide +kernel
theorem D184_24 : decode prog_12_method_58_code 24 = .ok (.aload_n 0, 1) := by decide +kernel
theorem D184_25 : decode prog_12_method_58_code 25 = .ok (.iconst 1, 1) := by decide +kernel
theorem D184_26 : decode prog_12_method_58_code 26 = .ok (.sipush 1000, 3) := by decide +kernel
theorem D184_29 : decode prog_12_method_58_code 29 = .ok (.bipush 10, 2) := by decide +kernel
theorem D184_31 : decode prog_12_method_58_code 31 = .ok (.aload_n 0, 1) := by decide +kernel
theorem D184_32 : decode prog_12_method_58_code 32 = .ok (.getfield 111, 3) := by decide +kernel
theorem D184_35 : decode prog_12_method_58_code 35 = .ok (.iconst (-1), 1) := by decide +kernel
theorem D184_36 : decode prog_12_method_58_code 36 = .ok (.if_icmp .ne 12, 3) := by decide +kernel
theorem D184_39 : decode prog_12_method_58_code 39 = .ok (.aload_n 0, 1) := by decide +kernel
theorem D184_40 : decode prog_12_method_58_code 40 = .ok (.getfield 13, 3) := by decide +kernel
theorem D184_43 : decode prog_12_method_58_code 43 = .ok (.iconst 3, 1) := by decide +kernel
theorem D184_44 : decode prog_12_method_58_code 44 = .ok (.iaload, 1) := by decide +kernel
theorem D184_45 : decode prog_12_method_58_code 45 = .ok (.goto 7, 3) := by decide +kernel
theorem D184_48 : decode prog_12_method_58_code 48 = .ok (.aload_n 0, 1) := by decide +kernel
theorem D184_49 : decode prog_12_method_58_code 49 = .ok (.getfield 111, 3) := by decide +kernel
theorem D184_52 : decode prog_12_method_58_code 52 = .ok (.imul, 1) := by decide +kernel
theorem D184_53 : decode prog_12_method_58_code 53 = .ok (.invokevirtual 364, 3) := by decide +kernel
theorem D184_56 : decode prog_12_method_58_code 56 = .ok (.istore 5, 2) := by decide +kernel
theorem D184_58 : decode prog_12_method_58_code 58 = .ok (.iconst 0, 1) := by decide +kernel
theorem D184_59 : decode prog_12_method_58_code 59 = .ok (.istore 6, 2) := by decide +kernel
theorem D184_61 : decode prog_12_method_58_code 61 = .ok (.iload 6, 2) := by decide +kernel
theorem D184_63 : decode prog_12_method_58_code 63 = .ok (.iconst 3, 1) := by decide +kernel
theorem D184_64 : decode prog_12_method_58_code 64 = .ok (.if_icmp .ge 62, 3) := by decide +kernel
theorem D184_67 : decode prog_12_method_58_code 67 = .ok (.aload_n 0, 1) := by decide +kernel
theorem D184_68 : decode prog_12_method_58_code 68 = .ok (.getfield 87, 3) := by decide +kernel
theorem D184_71 : decode prog_12_method_58_code 71 = .ok (.iconst 3, 1) := by decide +kernel
theorem D184_72 : decode prog_12_method_58_code 72 = .ok (.iload_n 3, 1) := by decide +kernel
theorem D184_73 : decode prog_12_method_58_code 73 = .ok (.imul, 1) := by decide +kernel
theorem D184_74 : decode prog_12_method_58_code 74 = .ok (.iload 6, 2) := by decide +kernel
theorem D184_76 : decode prog_12_method_58_code 76 = .ok (.iadd, 1) := by decide +kernel
theorem D184_77 : decode prog_12_method_58_code 77 = .ok (.iaload, 1) := by decide +kernel
theorem D184_78 : decode prog_12_method_58_code 78 = .ok (.istore 7, 2) := by decide +kernel
theorem D184_80 : decode prog_12_method_58_code 80 = .ok (.aload_n 0, 1) := by decide +kernel
theorem D184_81 : decode prog_12_method_58_code 81 = .ok (.getfield 87, 3) := by decide +kernel
theorem D184_84 : decode prog_12_method_58_code 84 = .ok (.iconst 3, 1) := by decide +kernel
theorem D184_85 : decode prog_12_method_58_code 85 = .ok (.iload_n 3, 1) := by decide +kernel
theorem D184_86 : decode prog_12_method_58_code 86 = .ok (.imul, 1) := by decide +kernel
theorem D184_87 : decode prog_12_method_58_code 87 = .ok (.iload 6, 2) := by decide +kernel
theorem D184_89 : decode prog_12_method_58_code 89 = .ok (.iadd, 1) := by decide +kernel
theorem D184_90 : decode prog_12_method_58_code 90 = .ok (.iload 7, 2) := by decide +kernel
theorem D184_92 : decode prog_12_method_58_code 92 = .ok (.sipush 1000, 3) := by decide +kernel
theorem D184_95 : decode prog_12_method_58_code 95 = .ok (.aload_n 0, 1) := by decide +kernel
theorem D184_96 : decode prog_12_method_58_code 96 = .ok (.getfield 19, 3) := by decide +kernel
theorem D184_99 : decode prog_12_method_58_code 99 = .ok (.iconst 3, 1) := by decide +kernel
theorem D184_100 : decode prog_12_method_58_code 100 = .ok (.iload 4, 2) := by decide +kernel
theorem D184_102 : decode prog_12_method_58_code 102 = .ok (.imul, 1) := by decide +kernel
theorem D184_103 : decode prog_12_method_58_code 103 = .ok (.iload 6, 2) := by decide +kernel
theorem D184_105 : decode prog_12_method_58_code 105 = .ok (.iadd, 1) := by decide +kernel
theorem D184_106 : decode prog_12_method_58_code 106 = .ok (.iaload, 1) := by decide +kernel
theorem D184_107 : decode prog_12_method_58_code 107 = .ok (.imul, 1) := by decide +kernel
theorem D184_108 : decode prog_12_method_58_code 108 = .ok (.iload 7, 2) := by decide +kernel
theorem D184_110 : decode prog_12_method_58_code 110 = .ok (.isub, 1) := by decide +kernel
theorem D184_111 : decode prog_12_method_58_code 111 = .ok (.iload 5, 2) := by decide +kernel
theorem D184_113 : decode prog_12_method_58_code 113 = .ok (.imul, 1) := by decide +kernel
theorem D184_114 : decode prog_12_method_58_code 114 = .ok (.sipush 1000, 3) := by decide +kernel
theorem D184_117 : decode prog_12_method_58_code 117 = .ok (.idiv, 1) := by decide +kernel
theorem D184_118 : decode prog_12_method_58_code 118 = .ok (.iadd, 1) := by decide +kernel
theorem D184_119 : decode prog_12_method_58_code 119 = .ok (.iastore, 1) := by decide +kernel
theorem D184_120 : decode prog_12_method_58_code 120 = .ok (.iinc 6 1, 3) := by decide +kernel
theorem D184_123 : decode prog_12_method_58_code 123 = .ok (.goto (-62), 3) := by decide +kernel
theorem D184_126 : decode prog_12_method_58_code 126 = .ok (.aload_n 0, 1) := by decide +kernel
theorem D184_127 : decode prog_12_method_58_code 127 = .ok (.getfield 96, 3) := by decide +kernel
theorem D184_130 : decode prog_12_method_58_code 130 = .ok (.iload_n 3, 1) := by decide +kernel
theorem D184_131 : decode prog_12_method_58_code 131 = .ok (.dup2, 1) := by decide +kernel
theorem D184_132 : decode prog_12_method_58_code 132 = .ok (.iaload, 1) := by decide +kernel
theorem D184_133 : decode prog_12_method_58_code 133 = .ok (.iconst 1, 1) := by decide +kernel
theorem D184_134 : decode prog_12_method_58_code 134 = .ok (.iadd, 1) := by decide +kernel
theorem D184_135 : decode prog_12_method_58_code 135 = .ok (.iastore, 1) := by decide +kernel
theorem D184_136 : decode prog_12_method_58_code 136 = .ok (.aload_n 0, 1) := by decide +kernel
theorem D184_137 : decode prog_12_method_58_code 137 = .ok (.getfield 90, 3) := by decide +kernel
theorem D184_140 : decode prog_12_method_58_code 140 = .ok (.iload_n 3, 1) := by decide +kernel
theorem D184_141 : decode prog_12_method_58_code 141 = .ok (.iconst (-1), 1) := by decide +kernel
theorem D184_142 : decode prog_12_method_58_code 142 = .ok (.iastore, 1) := by decide +kernel
theorem D184_143 : decode prog_12_method_58_code 143 = .ok (.aload_n 0, 1) := by decide +kernel
theorem D184_144 : decode prog_12_method_58_code 144 = .ok (.getfield 93, 3) := by decide +kernel
theorem D184_147 : decode prog_12_method_58_code 147 = .ok (.iload_n 3, 1) := by decide +kernel
theorem D184_148 : decode prog_12_method_58_code 148 = .ok (.iconst 0, 1) := by decide +kernel
theorem D184_149 : decode prog_12_method_58_code 149 = .ok (.iastore, 1) := by decide +kernel
theorem D184_150 : decode prog_12_method_58_code 150 = .ok (.return_, 1) := by decide +kernel

theorem b184_0 {d : Nat} {i1 : Int32} {i2 : Int32} {ia : Nat → Nat → Int32} {la : Nat → Nat → Int64} {pl dr : Nat} {cp : Option Nat} {cw : Option Nat} {rp : Option Nat} {K : Option Value → zHP → Prop}  : zWP (d + 1) 184 0 [some (.ref 127), some (.int i1), some (.int i2), none, none, none, none, none] [] (ia, la, zRA pl dr cp cw rp) K = (vp_in (((6 : Int32) * i1) + i2) 138 ∧ zWM d 175 [.ref 127, .int i1, .int i2, .int (ia 153 ((((6 : Int32) * i1) + i2)).toNatClampNeg), .int (0 : Int32)] (ia, la, zRA pl dr cp cw rp) (zK (d + 1) 184 24 [some (.ref 127), some (.int i1), some (.int i2), some (.int (((6 : Int32) * i1) + i2)), some (.int (ia 153 ((((6 : Int32) * i1) + i2)).toNatClampNeg)), none, none, none] [] K)) := by
  refine (Q_bipush (v := 6) zm_184 (Or.inl (by decide)) D184_0 (by decide)).trans ?_
  refine (Q_iload_n zm_184 (Or.inl (by decide)) D184_2 rfl).trans ?_
  refine (Q_imul zm_184 (Or.inl (by decide)) D184_3).trans ?_
  refine (Q_iload_n zm_184 (Or.inl (by decide)) D184_4 rfl).trans ?_
  refine (Q_iadd zm_184 (Or.inl (by decide)) D184_5).trans ?_
  refine (Q_istore_n (ls' := [some (.ref 127), some (.int i1), some (.int i2), some (.int (((6 : Int32) * i1) + i2)), none, none, none, none]) zm_184 (Or.inl (by decide)) D184_6 rfl (Nat.le_of_ble_eq_true rfl) rfl).trans ?_
  refine (Q_aload_n zm_184 (Or.inl (by decide)) D184_7 rfl).trans ?_
  refine (Q_getR (q := 153) zm_184 (Or.inl (by decide)) D184_8 zf_10_90 zs_10_41 zk_127.1 rfl).trans ?_
  refine (Q_iload_n zm_184 (Or.inl (by decide)) D184_11 rfl).trans ?_
  refine (Q_iaload zm_184 (Or.inl (by decide)) D184_12 zk_153.1 zk_153.2).trans ?_
  refine zand_c (fun h0_ => ?_)
  refine (Q_istore (ls' := [some (.ref 127), some (.int i1), some (.int i2), some (.int (((6 : Int32) * i1) + i2)), some (.int (ia 153 ((((6 : Int32) * i1) + i2)).toNatClampNeg)), none, none, none]) zm_184 (Or.inl (by decide)) D184_13 rfl (Nat.le_of_ble_eq_true rfl) rfl).trans ?_
  refine (Q_aload_n zm_184 (Or.inl (by decide)) D184_15 rfl).trans ?_
  refine (Q_iload_n zm_184 (Or.inl (by decide)) D184_16 rfl).trans ?_
  refine (Q_iload_n zm_184 (Or.inl (by decide)) D184_17 rfl).trans ?_
  refine (Q_iload zm_184 (Or.inl (by decide)) D184_18 rfl).trans ?_
  refine (Q_iconst (v := 0) zm_184 (Or.inl (by decide)) D184_20 (by decide)).trans ?_
  exact Q_callv (as := [.int i1, .int i2, .int (ia 153 ((((6 : Int32) * i1) + i2)).toNatClampNeg), .int (0 : Int32)]) (b := 127) (rest := []) zm_184 (Or.inl (by decide)) D184_21 zc_10_360 rfl zk_127.1 (by decide) (by decide +kernel) (by decide) (by simp [zcat, Value.category]) zm_175 rfl

theorem b184_24 {d : Nat} {i1 : Int32} {i2 : Int32} {i3 : Int32} {i4 : Int32} {ia : Nat → Nat → Int32} {la : Nat → Nat → Int64} {pl dr : Nat} {cp : Option Nat} {cw : Option Nat} {rp : Option Nat} {K : Option Value → zHP → Prop}  : zWP (d + 1) 184 24 [some (.ref 127), some (.int i1), some (.int i2), some (.int i3), some (.int i4), none, none, none] [] (ia, la, zRA pl dr cp cw rp) K = (if ¬ (ia 127 51) = (-1 : Int32) then zWM d 176 [.ref 127, .int (1 : Int32), .int (1000 : Int32), .int ((10 : Int32) * (ia 127 51))] (ia, la, zRA pl dr cp cw rp) (zK (d + 1) 184 56 [some (.ref 127), some (.int i1), some (.int i2), some (.int i3), some (.int i4), none, none, none] [] K) else zWM d 176 [.ref 127, .int (1 : Int32), .int (1000 : Int32), .int ((10 : Int32) * (ia 129 3))] (ia, la, zRA pl dr cp cw rp) (zK (d + 1) 184 56 [some (.ref 127), some (.int i1), some (.int i2), some (.int i3), some (.int i4), none, none, none] [] K)) := by
  refine (Q_aload_n zm_184 (Or.inl (by decide)) D184_24 rfl).trans ?_
  refine (Q_iconst (v := 1) zm_184 (Or.inl (by decide)) D184_25 (by decide)).trans ?_
  refine (Q_sipush (v := 1000) zm_184 (Or.inl (by decide)) D184_26 (by decide)).trans ?_
  refine (Q_bipush (v := 10) zm_184 (Or.inl (by decide)) D184_29 (by decide)).trans ?_
  refine (Q_aload_n zm_184 (Or.inl (by decide)) D184_31 rfl).trans ?_
  refine (Q_getI zm_184 (Or.inl (by decide)) D184_32 zf_10_111 (Or.inl zs_10_51) zk_127.1).trans ?_
  refine (Q_iconst (v := -1) zm_184 (Or.inl (by decide)) D184_35 (by decide)).trans ?_
  refine (Q_ic_ne (tgt := 48) zm_184 (Or.inl (by decide)) D184_36 (by decide)).trans ?_
  refine zif_c (fun h0_ => ?_) (fun h0_ => ?_)
  · refine (Q_aload_n zm_184 (Or.inl (by decide)) D184_48 rfl).trans ?_
    refine (Q_getI zm_184 (Or.inl (by decide)) D184_49 zf_10_111 (Or.inl zs_10_51) zk_127.1).trans ?_
    refine (Q_imul zm_184 (Or.inl (by decide)) D184_52).trans ?_
    exact Q_callv (as := [.int (1 : Int32), .int (1000 : Int32), .int ((10 : Int32) * (ia 127 51))]) (b := 127) (rest := []) zm_184 (Or.inl (by decide)) D184_53 zc_10_364 rfl zk_127.1 (by decide) (by decide +kernel) (by decide) (by simp [zcat, Value.category]) zm_176 rfl
  · refine (Q_aload_n zm_184 (Or.inl (by decide)) D184_39 rfl).trans ?_
    refine (Q_getR (q := 129) zm_184 (Or.inl (by decide)) D184_40 zf_10_13 zs_10_3 zk_127.1 rfl).trans ?_
    refine (Q_iconst (v := 3) zm_184 (Or.inl (by decide)) D184_43 (by decide)).trans ?_
    refine ((Q_iaload zm_184 (Or.inl (by decide)) D184_44 zk_129.1 zk_129.2).trans (zdrop (zin_spec (by decide)))).trans ?_
    refine (Q_goto (tgt := 52) zm_184 (Or.inl (by decide)) D184_45 (by decide)).trans ?_
    refine (Q_imul zm_184 (Or.inl (by decide)) D184_52).trans ?_
    exact Q_callv (as := [.int (1 : Int32), .int (1000 : Int32), .int ((10 : Int32) * (ia 129 3))]) (b := 127) (rest := []) zm_184 (Or.inl (by decide)) D184_53 zc_10_364 rfl zk_127.1 (by decide) (by decide +kernel) (by decide) (by simp [zcat, Value.category]) zm_176 rfl

theorem b184_56 {d : Nat} {i1 : Int32} {i2 : Int32} {i3 : Int32} {i4 : Int32} {s0 : Int32} {ia : Nat → Nat → Int32} {la : Nat → Nat → Int64} {pl dr : Nat} {cp : Option Nat} {cw : Option Nat} {rp : Option Nat} {K : Option Value → zHP → Prop}  : zWP d 184 56 [some (.ref 127), some (.int i1), some (.int i2), some (.int i3), some (.int i4), none, none, none] [.int s0] (ia, la, zRA pl dr cp cw rp) K = zWP d 184 61 [some (.ref 127), some (.int i1), some (.int i2), some (.int i3), some (.int i4), some (.int s0), some (.int (0 : Int32)), none] [] (ia, la, zRA pl dr cp cw rp) K := by
  refine (Q_istore (ls' := [some (.ref 127), some (.int i1), some (.int i2), some (.int i3), some (.int i4), some (.int s0), none, none]) zm_184 (Or.inl (by decide)) D184_56 rfl (Nat.le_of_ble_eq_true rfl) rfl).trans ?_
  refine (Q_iconst (v := 0) zm_184 (Or.inl (by decide)) D184_58 (by decide)).trans ?_
  refine (Q_istore (ls' := [some (.ref 127), some (.int i1), some (.int i2), some (.int i3), some (.int i4), some (.int s0), some (.int (0 : Int32)), none]) zm_184 (Or.inl (by decide)) D184_59 rfl (Nat.le_of_ble_eq_true rfl) rfl).trans ?_
  rfl

theorem b184_61 {d : Nat} {i1 : Int32} {i2 : Int32} {i3 : Int32} {i4 : Int32} {i5 : Int32} {i6 : Int32} {a7 : Option Value} {ia : Nat → Nat → Int32} {la : Nat → Nat → Int64} {pl dr : Nat} {cp : Option Nat} {cw : Option Nat} {rp : Option Nat} {K : Option Value → zHP → Prop}  : zWP d 184 61 [some (.ref 127), some (.int i1), some (.int i2), some (.int i3), some (.int i4), some (.int i5), some (.int i6), a7] [] (ia, la, zRA pl dr cp cw rp) K = (if (3 : Int32) ≤ i6 then (vp_in i3 138 ∧ K none ((zu (zu (zu ia 155 (i3).toNatClampNeg ((ia 155 (i3).toNatClampNeg) + (1 : Int32))) 153 (i3).toNatClampNeg (-1 : Int32)) 154 (i3).toNatClampNeg (0 : Int32)), la, zRA pl dr cp cw rp)) else (vp_in (((3 : Int32) * i3) + i6) 414 ∧ (vp_in (((3 : Int32) * i4) + i6) 36 ∧ zWP d 184 61 [some (.ref 127), some (.int i1), some (.int i2), some (.int i3), some (.int i4), some (.int i5), some (.int (i6 + (1 : Int32))), some (.int (ia 152 ((((3 : Int32) * i3) + i6)).toNatClampNeg))] [] ((zu ia 152 ((((3 : Int32) * i3) + i6)).toNatClampNeg ((ia 152 ((((3 : Int32) * i3) + i6)).toNatClampNeg) + (((((1000 : Int32) * (ia 131 ((((3 : Int32) * i4) + i6)).toNatClampNeg)) - (ia 152 ((((3 : Int32) * i3) + i6)).toNatClampNeg)) * i5) / (1000 : Int32)))), la, zRA pl dr cp cw rp) K))) := by
  refine (Q_iload zm_184 (Or.inl (by decide)) D184_61 rfl).trans ?_
  refine (Q_iconst (v := 3) zm_184 (Or.inl (by decide)) D184_63 (by decide)).trans ?_
  refine (Q_ic_ge (tgt := 126) zm_184 (Or.inl (by decide)) D184_64 (by decide)).trans ?_
  refine zif_c (fun h0_ => ?_) (fun h0_ => ?_)
  · refine (Q_aload_n zm_184 (Or.inl (by decide)) D184_126 rfl).trans ?_
    refine (Q_getR (q := 155) zm_184 (Or.inl (by decide)) D184_127 zf_10_96 zs_10_43 zk_127.1 rfl).trans ?_
    refine (Q_iload_n zm_184 (Or.inl (by decide)) D184_130 rfl).trans ?_
    refine (Q_dup2 zm_184 (Or.inl (by decide)) D184_131 rfl rfl).trans ?_
    refine (Q_iaload zm_184 (Or.inl (by decide)) D184_132 zk_155.1 zk_155.2).trans ?_
    refine zand_c (fun h1_ => ?_)
    refine (Q_iconst (v := 1) zm_184 (Or.inl (by decide)) D184_133 (by decide)).trans ?_
    refine (Q_iadd zm_184 (Or.inl (by decide)) D184_134).trans ?_
    refine ((Q_iastore zm_184 (Or.inl (by decide)) D184_135 zk_155.1 zk_155.2).trans (zdrop h1_)).trans ?_
    refine (Q_aload_n zm_184 (Or.inl (by decide)) D184_136 rfl).trans ?_
    refine (Q_getR (q := 153) zm_184 (Or.inl (by decide)) D184_137 zf_10_90 zs_10_41 zk_127.1 rfl).trans ?_
    refine (Q_iload_n zm_184 (Or.inl (by decide)) D184_140 rfl).trans ?_
    refine (Q_iconst (v := -1) zm_184 (Or.inl (by decide)) D184_141 (by decide)).trans ?_
    refine ((Q_iastore zm_184 (Or.inl (by decide)) D184_142 zk_153.1 zk_153.2).trans (zdrop h1_)).trans ?_
    refine (Q_aload_n zm_184 (Or.inl (by decide)) D184_143 rfl).trans ?_
    refine (Q_getR (q := 154) zm_184 (Or.inl (by decide)) D184_144 zf_10_93 zs_10_42 zk_127.1 rfl).trans ?_
    refine (Q_iload_n zm_184 (Or.inl (by decide)) D184_147 rfl).trans ?_
    refine (Q_iconst (v := 0) zm_184 (Or.inl (by decide)) D184_148 (by decide)).trans ?_
    refine ((Q_iastore zm_184 (Or.inl (by decide)) D184_149 zk_154.1 zk_154.2).trans (zdrop h1_)).trans ?_
    exact Q_return zm_184 (Or.inl (by decide)) D184_150 rfl
  · refine (Q_aload_n zm_184 (Or.inl (by decide)) D184_67 rfl).trans ?_
    refine (Q_getR (q := 152) zm_184 (Or.inl (by decide)) D184_68 zf_10_87 zs_10_40 zk_127.1 rfl).trans ?_
    refine (Q_iconst (v := 3) zm_184 (Or.inl (by decide)) D184_71 (by decide)).trans ?_
    refine (Q_iload_n zm_184 (Or.inl (by decide)) D184_72 rfl).trans ?_
    refine (Q_imul zm_184 (Or.inl (by decide)) D184_73).trans ?_
    refine (Q_iload zm_184 (Or.inl (by decide)) D184_74 rfl).trans ?_
    refine (Q_iadd zm_184 (Or.inl (by decide)) D184_76).trans ?_
    refine (Q_iaload zm_184 (Or.inl (by decide)) D184_77 zk_152.1 zk_152.2).trans ?_
    refine zand_c (fun h2_ => ?_)
    refine (Q_istore (ls' := [some (.ref 127), some (.int i1), some (.int i2), some (.int i3), some (.int i4), some (.int i5), some (.int i6), some (.int (ia 152 ((((3 : Int32) * i3) + i6)).toNatClampNeg))]) zm_184 (Or.inl (by decide)) D184_78 rfl (Nat.le_of_ble_eq_true rfl) rfl).trans ?_
    refine (Q_aload_n zm_184 (Or.inl (by decide)) D184_80 rfl).trans ?_
    refine (Q_getR (q := 152) zm_184 (Or.inl (by decide)) D184_81 zf_10_87 zs_10_40 zk_127.1 rfl).trans ?_
    refine (Q_iconst (v := 3) zm_184 (Or.inl (by decide)) D184_84 (by decide)).trans ?_
    refine (Q_iload_n zm_184 (Or.inl (by decide)) D184_85 rfl).trans ?_
    refine (Q_imul zm_184 (Or.inl (by decide)) D184_86).trans ?_
    refine (Q_iload zm_184 (Or.inl (by decide)) D184_87 rfl).trans ?_
    refine (Q_iadd zm_184 (Or.inl (by decide)) D184_89).trans ?_
    refine (Q_iload zm_184 (Or.inl (by decide)) D184_90 rfl).trans ?_
    refine (Q_sipush (v := 1000) zm_184 (Or.inl (by decide)) D184_92 (by decide)).trans ?_
    refine (Q_aload_n zm_184 (Or.inl (by decide)) D184_95 rfl).trans ?_
    refine (Q_getR (q := 131) zm_184 (Or.inl (by decide)) D184_96 zf_10_19 zs_10_5 zk_127.1 rfl).trans ?_
    refine (Q_iconst (v := 3) zm_184 (Or.inl (by decide)) D184_99 (by decide)).trans ?_
    refine (Q_iload zm_184 (Or.inl (by decide)) D184_100 rfl).trans ?_
    refine (Q_imul zm_184 (Or.inl (by decide)) D184_102).trans ?_
    refine (Q_iload zm_184 (Or.inl (by decide)) D184_103 rfl).trans ?_
    refine (Q_iadd zm_184 (Or.inl (by decide)) D184_105).trans ?_
    refine (Q_iaload zm_184 (Or.inl (by decide)) D184_106 zk_131.1 zk_131.2).trans ?_
    refine zand_c (fun h3_ => ?_)
    refine (Q_imul zm_184 (Or.inl (by decide)) D184_107).trans ?_
    refine (Q_iload zm_184 (Or.inl (by decide)) D184_108 rfl).trans ?_
    refine (Q_isub zm_184 (Or.inl (by decide)) D184_110).trans ?_
    refine (Q_iload zm_184 (Or.inl (by decide)) D184_111 rfl).trans ?_
    refine (Q_imul zm_184 (Or.inl (by decide)) D184_113).trans ?_
    refine (Q_sipush (v := 1000) zm_184 (Or.inl (by decide)) D184_114 (by decide)).trans ?_
    refine (Q_idiv zm_184 (Or.inl (by decide)) D184_117 (by decide)).trans ?_
    refine (Q_iadd zm_184 (Or.inl (by decide)) D184_118).trans ?_
    refine ((Q_iastore zm_184 (Or.inl (by decide)) D184_119 zk_152.1 zk_152.2).trans (zdrop h2_)).trans ?_
    refine (Q_iinc (v := 1) (ls' := [some (.ref 127), some (.int i1), some (.int i2), some (.int i3), some (.int i4), some (.int i5), some (.int (i6 + (1 : Int32))), some (.int (ia 152 ((((3 : Int32) * i3) + i6)).toNatClampNeg))]) zm_184 (Or.inl (by decide)) D184_120 rfl rfl (by decide) rfl).trans ?_
    refine (Q_goto (tgt := 61) zm_184 (Or.inl (by decide)) D184_123 (by decide)).trans ?_
    rfl
