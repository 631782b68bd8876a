theorem dX12_is_0 : decode cX12_is 0 = .ok (.iload_n 0, 1) := by decide +kernel
theorem dX12_is_1 : decode cX12_is 1 = .ok (.ifCond .eq 7, 3) := by decide +kernel
theorem dX12_is_4 : decode cX12_is 4 = .ok (.lconst 1, 1) := by decide +kernel
theorem dX12_is_5 : decode cX12_is 5 = .ok (.goto 4, 3) := by decide +kernel
theorem dX12_is_8 : decode cX12_is 8 = .ok (.lconst 0, 1) := by decide +kernel
theorem dX12_is_9 : decode cX12_is 9 = .ok (.lreturn, 1) := by decide +kernel
theorem dX12_works_0 : decode cX12_works 0 = .ok (.aload_n 0, 1) := by decide +kernel
theorem dX12_works_1 : decode cX12_works 1 = .ok (.getfield 69, 3) := by decide +kernel
theorem dX12_works_4 : decode cX12_works 4 = .ok (.aload_n 0, 1) := by decide +kernel
theorem dX12_works_5 : decode cX12_works 5 = .ok (.getfield 305, 3) := by decide +kernel
theorem dX12_works_8 : decode cX12_works 8 = .ok (.iconst 1, 1) := by decide +kernel
theorem dX12_works_9 : decode cX12_works 9 = .ok (.isub, 1) := by decide +kernel
theorem dX12_works_10 : decode cX12_works 10 = .ok (.laload, 1) := by decide +kernel
theorem dX12_works_11 : decode cX12_works 11 = .ok (.lstore_n 2, 1) := by decide +kernel
theorem dX12_works_12 : decode cX12_works 12 = .ok (.iload_n 1, 1) := by decide +kernel
theorem dX12_works_13 : decode cX12_works 13 = .ok (.sipush 260, 3) := by decide +kernel
theorem dX12_works_16 : decode cX12_works 16 = .ok (.if_icmp .ne 30, 3) := by decide +kernel
theorem dX12_works_19 : decode cX12_works 19 = .ok (.aload_n 0, 1) := by decide +kernel
theorem dX12_works_20 : decode cX12_works 20 = .ok (.getfield 69, 3) := by decide +kernel
theorem dX12_works_23 : decode cX12_works 23 = .ok (.aload_n 0, 1) := by decide +kernel
theorem dX12_works_24 : decode cX12_works 24 = .ok (.getfield 305, 3) := by decide +kernel
theorem dX12_works_27 : decode cX12_works 27 = .ok (.iconst 1, 1) := by decide +kernel
theorem dX12_works_28 : decode cX12_works 28 = .ok (.isub, 1) := by decide +kernel
theorem dX12_works_29 : decode cX12_works 29 = .ok (.lload_n 2, 1) := by decide +kernel
theorem dX12_works_30 : decode cX12_works 30 = .ok (.lconst 0, 1) := by decide +kernel
theorem dX12_works_31 : decode cX12_works 31 = .ok (.lcmp, 1) := by decide +kernel
theorem dX12_works_32 : decode cX12_works 32 = .ok (.ifCond .ne 7, 3) := by decide +kernel
theorem dX12_works_35 : decode cX12_works 35 = .ok (.iconst 1, 1) := by decide +kernel
theorem dX12_works_36 : decode cX12_works 36 = .ok (.goto 4, 3) := by decide +kernel
theorem dX12_works_39 : decode cX12_works 39 = .ok (.iconst 0, 1) := by decide +kernel
theorem dX12_works_40 : decode cX12_works 40 = .ok (.invokestatic 308, 3) := by decide +kernel
theorem dX12_works_43 : decode cX12_works 43 = .ok (.lastore, 1) := by decide +kernel
theorem dX12_works_44 : decode cX12_works 44 = .ok (.iconst 1, 1) := by decide +kernel
theorem dX12_works_45 : decode cX12_works 45 = .ok (.ireturn, 1) := by decide +kernel
theorem dX12_works_46 : decode cX12_works 46 = .ok (.aload_n 0, 1) := by decide +kernel
theorem dX12_works_47 : decode cX12_works 47 = .ok (.getfield 69, 3) := by decide +kernel
theorem dX12_works_50 : decode cX12_works 50 = .ok (.aload_n 0, 1) := by decide +kernel
theorem dX12_works_51 : decode cX12_works 51 = .ok (.getfield 305, 3) := by decide +kernel
theorem dX12_works_54 : decode cX12_works 54 = .ok (.iconst 2, 1) := by decide +kernel
theorem dX12_works_55 : decode cX12_works 55 = .ok (.isub, 1) := by decide +kernel
theorem dX12_works_56 : decode cX12_works 56 = .ok (.laload, 1) := by decide +kernel
theorem dX12_works_57 : decode cX12_works 57 = .ok (.lstore 4, 2) := by decide +kernel
theorem dX12_works_59 : decode cX12_works 59 = .ok (.aload_n 0, 1) := by decide +kernel
theorem dX12_works_60 : decode cX12_works 60 = .ok (.dup, 1) := by decide +kernel
theorem dX12_works_61 : decode cX12_works 61 = .ok (.getfield 305, 3) := by decide +kernel
theorem dX12_works_64 : decode cX12_works 64 = .ok (.iconst 1, 1) := by decide +kernel
theorem dX12_works_65 : decode cX12_works 65 = .ok (.isub, 1) := by decide +kernel
theorem dX12_works_66 : decode cX12_works 66 = .ok (.putfield 305, 3) := by decide +kernel
theorem dX12_works_69 : decode cX12_works 69 = .ok (.iload_n 1, 1) := by decide +kernel
theorem dX12_works_70 : decode cX12_works 70 = .ok (.lookupswitch 314 #[(42, 116), (43, 98), (45, 107), (47, 151), (60, 168), (61, 208), (62, 188), (256, 228), (257, 268), (258, 248), (261, 288)], 98) := by decide +kernel
theorem dX12_works_168 : decode cX12_works 168 = .ok (.lload 4, 2) := by decide +kernel
theorem dX12_works_170 : decode cX12_works 170 = .ok (.lload_n 2, 1) := by decide +kernel
theorem dX12_works_171 : decode cX12_works 171 = .ok (.ladd, 1) := by decide +kernel
theorem dX12_works_172 : decode cX12_works 172 = .ok (.lstore 6, 2) := by decide +kernel
theorem dX12_works_174 : decode cX12_works 174 = .ok (.goto 233, 3) := by decide +kernel
theorem dX12_works_177 : decode cX12_works 177 = .ok (.lload 4, 2) := by decide +kernel
theorem dX12_works_179 : decode cX12_works 179 = .ok (.lload_n 2, 1) := by decide +kernel
theorem dX12_works_180 : decode cX12_works 180 = .ok (.lsub, 1) := by decide +kernel
theorem dX12_works_181 : decode cX12_works 181 = .ok (.lstore 6, 2) := by decide +kernel
theorem dX12_works_183 : decode cX12_works 183 = .ok (.goto 224, 3) := by decide +kernel
theorem dX12_works_186 : decode cX12_works 186 = .ok (.lload 4, 2) := by decide +kernel
theorem dX12_works_188 : decode cX12_works 188 = .ok (.lconst 0, 1) := by decide +kernel
theorem dX12_works_189 : decode cX12_works 189 = .ok (.lcmp, 1) := by decide +kernel
theorem dX12_works_190 : decode cX12_works 190 = .ok (.ifCond .eq 22, 3) := by decide +kernel
theorem dX12_works_193 : decode cX12_works 193 = .ok (.lload_n 2, 1) := by decide +kernel
theorem dX12_works_194 : decode cX12_works 194 = .ok (.invokestatic 312, 3) := by decide +kernel
theorem dX12_works_197 : decode cX12_works 197 = .ok (.ldc2_w 318, 3) := by decide +kernel
theorem dX12_works_200 : decode cX12_works 200 = .ok (.lload 4, 2) := by decide +kernel
theorem dX12_works_202 : decode cX12_works 202 = .ok (.invokestatic 312, 3) := by decide +kernel
theorem dX12_works_205 : decode cX12_works 205 = .ok (.ldiv, 1) := by decide +kernel
theorem dX12_works_206 : decode cX12_works 206 = .ok (.lcmp, 1) := by decide +kernel
theorem dX12_works_207 : decode cX12_works 207 = .ok (.ifCond .le 5, 3) := by decide +kernel
theorem dX12_works_210 : decode cX12_works 210 = .ok (.iconst 0, 1) := by decide +kernel
theorem dX12_works_211 : decode cX12_works 211 = .ok (.ireturn, 1) := by decide +kernel
theorem dX12_works_212 : decode cX12_works 212 = .ok (.lload 4, 2) := by decide +kernel
theorem dX12_works_214 : decode cX12_works 214 = .ok (.lload_n 2, 1) := by decide +kernel
theorem dX12_works_215 : decode cX12_works 215 = .ok (.lmul, 1) := by decide +kernel
theorem dX12_works_216 : decode cX12_works 216 = .ok (.lstore 6, 2) := by decide +kernel
theorem dX12_works_218 : decode cX12_works 218 = .ok (.goto 189, 3) := by decide +kernel
theorem dX12_works_221 : decode cX12_works 221 = .ok (.lload_n 2, 1) := by decide +kernel
theorem dX12_works_222 : decode cX12_works 222 = .ok (.lconst 0, 1) := by decide +kernel
theorem dX12_works_223 : decode cX12_works 223 = .ok (.lcmp, 1) := by decide +kernel
theorem dX12_works_224 : decode cX12_works 224 = .ok (.ifCond .ne 5, 3) := by decide +kernel
theorem dX12_works_227 : decode cX12_works 227 = .ok (.iconst 0, 1) := by decide +kernel
theorem dX12_works_228 : decode cX12_works 228 = .ok (.ireturn, 1) := by decide +kernel
theorem dX12_works_229 : decode cX12_works 229 = .ok (.lload 4, 2) := by decide +kernel
theorem dX12_works_231 : decode cX12_works 231 = .ok (.lload_n 2, 1) := by decide +kernel
theorem dX12_works_232 : decode cX12_works 232 = .ok (.ldiv, 1) := by decide +kernel
theorem dX12_works_233 : decode cX12_works 233 = .ok (.lstore 6, 2) := by decide +kernel
theorem dX12_works_235 : decode cX12_works 235 = .ok (.goto 172, 3) := by decide +kernel
theorem dX12_works_238 : decode cX12_works 238 = .ok (.lload 4, 2) := by decide +kernel
theorem dX12_works_240 : decode cX12_works 240 = .ok (.lload_n 2, 1) := by decide +kernel
theorem dX12_works_241 : decode cX12_works 241 = .ok (.lcmp, 1) := by decide +kernel
theorem dX12_works_242 : decode cX12_works 242 = .ok (.ifCond .ge 7, 3) := by decide +kernel
theorem dX12_works_245 : decode cX12_works 245 = .ok (.iconst 1, 1) := by decide +kernel
theorem dX12_works_246 : decode cX12_works 246 = .ok (.goto 4, 3) := by decide +kernel
theorem dX12_works_249 : decode cX12_works 249 = .ok (.iconst 0, 1) := by decide +kernel
theorem dX12_works_250 : decode cX12_works 250 = .ok (.invokestatic 308, 3) := by decide +kernel
theorem dX12_works_253 : decode cX12_works 253 = .ok (.lstore 6, 2) := by decide +kernel
theorem dX12_works_255 : decode cX12_works 255 = .ok (.goto 152, 3) := by decide +kernel
theorem dX12_works_258 : decode cX12_works 258 = .ok (.lload 4, 2) := by decide +kernel
theorem dX12_works_260 : decode cX12_works 260 = .ok (.lload_n 2, 1) := by decide +kernel
theorem dX12_works_261 : decode cX12_works 261 = .ok (.lcmp, 1) := by decide +kernel
theorem dX12_works_262 : decode cX12_works 262 = .ok (.ifCond .le 7, 3) := by decide +kernel
theorem dX12_works_265 : decode cX12_works 265 = .ok (.iconst 1, 1) := by decide +kernel
theorem dX12_works_266 : decode cX12_works 266 = .ok (.goto 4, 3) := by decide +kernel
theorem dX12_works_269 : decode cX12_works 269 = .ok (.iconst 0, 1) := by decide +kernel
theorem dX12_works_270 : decode cX12_works 270 = .ok (.invokestatic 308, 3) := by decide +kernel
theorem dX12_works_273 : decode cX12_works 273 = .ok (.lstore 6, 2) := by decide +kernel
theorem dX12_works_275 : decode cX12_works 275 = .ok (.goto 132, 3) := by decide +kernel
theorem dX12_works_278 : decode cX12_works 278 = .ok (.lload 4, 2) := by decide +kernel
theorem dX12_works_280 : decode cX12_works 280 = .ok (.lload_n 2, 1) := by decide +kernel
theorem dX12_works_281 : decode cX12_works 281 = .ok (.lcmp, 1) := by decide +kernel
theorem dX12_works_282 : decode cX12_works 282 = .ok (.ifCond .ne 7, 3) := by decide +kernel
theorem dX12_works_285 : decode cX12_works 285 = .ok (.iconst 1, 1) := by decide +kernel
theorem dX12_works_286 : decode cX12_works 286 = .ok (.goto 4, 3) := by decide +kernel
theorem dX12_works_289 : decode cX12_works 289 = .ok (.iconst 0, 1) := by decide +kernel
theorem dX12_works_290 : decode cX12_works 290 = .ok (.invokestatic 308, 3) := by decide +kernel
theorem dX12_works_293 : decode cX12_works 293 = .ok (.lstore 6, 2) := by decide +kernel
theorem dX12_works_295 : decode cX12_works 295 = .ok (.goto 112, 3) := by decide +kernel
theorem dX12_works_298 : decode cX12_works 298 = .ok (.lload 4, 2) := by decide +kernel
theorem dX12_works_300 : decode cX12_works 300 = .ok (.lload_n 2, 1) := by decide +kernel
theorem dX12_works_301 : decode cX12_works 301 = .ok (.lcmp, 1) := by decide +kernel
theorem dX12_works_302 : decode cX12_works 302 = .ok (.ifCond .gt 7, 3) := by decide +kernel
theorem dX12_works_305 : decode cX12_works 305 = .ok (.iconst 1, 1) := by decide +kernel
theorem dX12_works_306 : decode cX12_works 306 = .ok (.goto 4, 3) := by decide +kernel
theorem dX12_works_309 : decode cX12_works 309 = .ok (.iconst 0, 1) := by decide +kernel
theorem dX12_works_310 : decode cX12_works 310 = .ok (.invokestatic 308, 3) := by decide +kernel
theorem dX12_works_313 : decode cX12_works 313 = .ok (.lstore 6, 2) := by decide +kernel
theorem dX12_works_315 : decode cX12_works 315 = .ok (.goto 92, 3) := by decide +kernel
theorem dX12_works_318 : decode cX12_works 318 = .ok (.lload 4, 2) := by decide +kernel
theorem dX12_works_320 : decode cX12_works 320 = .ok (.lload_n 2, 1) := by decide +kernel
theorem dX12_works_321 : decode cX12_works 321 = .ok (.lcmp, 1) := by decide +kernel
theorem dX12_works_322 : decode cX12_works 322 = .ok (.ifCond .lt 7, 3) := by decide +kernel
theorem dX12_works_325 : decode cX12_works 325 = .ok (.iconst 1, 1) := by decide +kernel
theorem dX12_works_326 : decode cX12_works 326 = .ok (.goto 4, 3) := by decide +kernel
theorem dX12_works_329 : decode cX12_works 329 = .ok (.iconst 0, 1) := by decide +kernel
theorem dX12_works_330 : decode cX12_works 330 = .ok (.invokestatic 308, 3) := by decide +kernel
theorem dX12_works_333 : decode cX12_works 333 = .ok (.lstore 6, 2) := by decide +kernel
theorem dX12_works_335 : decode cX12_works 335 = .ok (.goto 72, 3) := by decide +kernel
theorem dX12_works_338 : decode cX12_works 338 = .ok (.lload 4, 2) := by decide +kernel
theorem dX12_works_340 : decode cX12_works 340 = .ok (.lload_n 2, 1) := by decide +kernel
theorem dX12_works_341 : decode cX12_works 341 = .ok (.lcmp, 1) := by decide +kernel
theorem dX12_works_342 : decode cX12_works 342 = .ok (.ifCond .eq 7, 3) := by decide +kernel
theorem dX12_works_345 : decode cX12_works 345 = .ok (.iconst 1, 1) := by decide +kernel
theorem dX12_works_346 : decode cX12_works 346 = .ok (.goto 4, 3) := by decide +kernel
theorem dX12_works_349 : decode cX12_works 349 = .ok (.iconst 0, 1) := by decide +kernel
theorem dX12_works_350 : decode cX12_works 350 = .ok (.invokestatic 308, 3) := by decide +kernel
theorem dX12_works_353 : decode cX12_works 353 = .ok (.lstore 6, 2) := by decide +kernel
theorem dX12_works_355 : decode cX12_works 355 = .ok (.goto 52, 3) := by decide +kernel
theorem dX12_works_358 : decode cX12_works 358 = .ok (.lload 4, 2) := by decide +kernel
theorem dX12_works_360 : decode cX12_works 360 = .ok (.lconst 0, 1) := by decide +kernel
theorem dX12_works_361 : decode cX12_works 361 = .ok (.lcmp, 1) := by decide +kernel
theorem dX12_works_362 : decode cX12_works 362 = .ok (.ifCond .eq 13, 3) := by decide +kernel
theorem dX12_works_365 : decode cX12_works 365 = .ok (.lload_n 2, 1) := by decide +kernel
theorem dX12_works_366 : decode cX12_works 366 = .ok (.lconst 0, 1) := by decide +kernel
theorem dX12_works_367 : decode cX12_works 367 = .ok (.lcmp, 1) := by decide +kernel
theorem dX12_works_368 : decode cX12_works 368 = .ok (.ifCond .eq 7, 3) := by decide +kernel
theorem dX12_works_371 : decode cX12_works 371 = .ok (.iconst 1, 1) := by decide +kernel
theorem dX12_works_372 : decode cX12_works 372 = .ok (.goto 4, 3) := by decide +kernel
theorem dX12_works_375 : decode cX12_works 375 = .ok (.iconst 0, 1) := by decide +kernel
theorem dX12_works_376 : decode cX12_works 376 = .ok (.invokestatic 308, 3) := by decide +kernel
theorem dX12_works_379 : decode cX12_works 379 = .ok (.lstore 6, 2) := by decide +kernel
theorem dX12_works_381 : decode cX12_works 381 = .ok (.goto 26, 3) := by decide +kernel
theorem dX12_works_384 : decode cX12_works 384 = .ok (.lload 4, 2) := by decide +kernel
theorem dX12_works_386 : decode cX12_works 386 = .ok (.lconst 0, 1) := by decide +kernel
theorem dX12_works_387 : decode cX12_works 387 = .ok (.lcmp, 1) := by decide +kernel
theorem dX12_works_388 : decode cX12_works 388 = .ok (.ifCond .ne 9, 3) := by decide +kernel
theorem dX12_works_391 : decode cX12_works 391 = .ok (.lload_n 2, 1) := by decide +kernel
theorem dX12_works_392 : decode cX12_works 392 = .ok (.lconst 0, 1) := by decide +kernel
theorem dX12_works_393 : decode cX12_works 393 = .ok (.lcmp, 1) := by decide +kernel
theorem dX12_works_394 : decode cX12_works 394 = .ok (.ifCond .eq 7, 3) := by decide +kernel
theorem dX12_works_397 : decode cX12_works 397 = .ok (.iconst 1, 1) := by decide +kernel
theorem dX12_works_398 : decode cX12_works 398 = .ok (.goto 4, 3) := by decide +kernel
theorem dX12_works_401 : decode cX12_works 401 = .ok (.iconst 0, 1) := by decide +kernel
theorem dX12_works_402 : decode cX12_works 402 = .ok (.invokestatic 308, 3) := by decide +kernel
theorem dX12_works_405 : decode cX12_works 405 = .ok (.lstore 6, 2) := by decide +kernel
theorem dX12_works_407 : decode cX12_works 407 = .ok (.aload_n 0, 1) := by decide +kernel
theorem dX12_works_408 : decode cX12_works 408 = .ok (.getfield 69, 3) := by decide +kernel
theorem dX12_works_411 : decode cX12_works 411 = .ok (.aload_n 0, 1) := by decide +kernel
theorem dX12_works_412 : decode cX12_works 412 = .ok (.getfield 305, 3) := by decide +kernel
theorem dX12_works_415 : decode cX12_works 415 = .ok (.iconst 1, 1) := by decide +kernel
theorem dX12_works_416 : decode cX12_works 416 = .ok (.isub, 1) := by decide +kernel
theorem dX12_works_417 : decode cX12_works 417 = .ok (.lload 6, 2) := by decide +kernel
theorem dX12_works_419 : decode cX12_works 419 = .ok (.lastore, 1) := by decide +kernel
theorem dX12_works_420 : decode cX12_works 420 = .ok (.lload 6, 2) := by decide +kernel
theorem dX12_works_422 : decode cX12_works 422 = .ok (.ldc2_w 318, 3) := by decide +kernel
theorem dX12_works_425 : decode cX12_works 425 = .ok (.lcmp, 1) := by decide +kernel
theorem dX12_works_426 : decode cX12_works 426 = .ok (.ifCond .gt 16, 3) := by decide +kernel
theorem dX12_works_429 : decode cX12_works 429 = .ok (.lload 6, 2) := by decide +kernel
theorem dX12_works_431 : decode cX12_works 431 = .ok (.ldc2_w 320, 3) := by decide +kernel
theorem dX12_works_434 : decode cX12_works 434 = .ok (.lcmp, 1) := by decide +kernel
theorem dX12_works_435 : decode cX12_works 435 = .ok (.ifCond .lt 7, 3) := by decide +kernel
theorem dX12_works_438 : decode cX12_works 438 = .ok (.iconst 1, 1) := by decide +kernel
theorem dX12_works_439 : decode cX12_works 439 = .ok (.goto 4, 3) := by decide +kernel
theorem dX12_works_442 : decode cX12_works 442 = .ok (.iconst 0, 1) := by decide +kernel
theorem dX12_works_443 : decode cX12_works 443 = .ok (.ireturn, 1) := by decide +kernel
theorem dX12_goes_0 : decode cX12_goes 0 = .ok (.aload_n 0, 1) := by decide +kernel
theorem dX12_goes_1 : decode cX12_goes 1 = .ok (.iconst 0, 1) := by decide +kernel
theorem dX12_goes_2 : decode cX12_goes 2 = .ok (.putfield 305, 3) := by decide +kernel
theorem dX12_goes_5 : decode cX12_goes 5 = .ok (.aload_n 0, 1) := by decide +kernel
theorem dX12_goes_6 : decode cX12_goes 6 = .ok (.getfield 49, 3) := by decide +kernel
theorem dX12_goes_9 : decode cX12_goes 9 = .ok (.iload_n 1, 1) := by decide +kernel
theorem dX12_goes_10 : decode cX12_goes 10 = .ok (.iaload, 1) := by decide +kernel
theorem dX12_goes_11 : decode cX12_goes 11 = .ok (.istore_n 2, 1) := by decide +kernel
theorem dX12_goes_12 : decode cX12_goes 12 = .ok (.iload_n 2, 1) := by decide +kernel
theorem dX12_goes_13 : decode cX12_goes 13 = .ok (.aload_n 0, 1) := by decide +kernel
theorem dX12_goes_14 : decode cX12_goes 14 = .ok (.getfield 52, 3) := by decide +kernel
theorem dX12_goes_17 : decode cX12_goes 17 = .ok (.iload_n 1, 1) := by decide +kernel
theorem dX12_goes_18 : decode cX12_goes 18 = .ok (.iaload, 1) := by decide +kernel
theorem dX12_goes_19 : decode cX12_goes 19 = .ok (.if_icmp .ge 83, 3) := by decide +kernel
theorem dX12_goes_22 : decode cX12_goes 22 = .ok (.aload_n 0, 1) := by decide +kernel
theorem dX12_goes_23 : decode cX12_goes 23 = .ok (.getfield 55, 3) := by decide +kernel
theorem dX12_goes_26 : decode cX12_goes 26 = .ok (.iload_n 2, 1) := by decide +kernel
theorem dX12_goes_27 : decode cX12_goes 27 = .ok (.iaload, 1) := by decide +kernel
theorem dX12_goes_28 : decode cX12_goes 28 = .ok (.iconst 2, 1) := by decide +kernel
theorem dX12_goes_29 : decode cX12_goes 29 = .ok (.if_icmp .ne 18, 3) := by decide +kernel
theorem dX12_goes_32 : decode cX12_goes 32 = .ok (.aload_n 0, 1) := by decide +kernel
theorem dX12_goes_33 : decode cX12_goes 33 = .ok (.aload_n 0, 1) := by decide +kernel
theorem dX12_goes_34 : decode cX12_goes 34 = .ok (.getfield 58, 3) := by decide +kernel
theorem dX12_goes_37 : decode cX12_goes 37 = .ok (.iload_n 2, 1) := by decide +kernel
theorem dX12_goes_38 : decode cX12_goes 38 = .ok (.iaload, 1) := by decide +kernel
theorem dX12_goes_39 : decode cX12_goes 39 = .ok (.invokevirtual 322, 3) := by decide +kernel
theorem dX12_goes_42 : decode cX12_goes 42 = .ok (.ifCond .ne 54, 3) := by decide +kernel
theorem dX12_goes_45 : decode cX12_goes 45 = .ok (.iconst 0, 1) := by decide +kernel
theorem dX12_goes_46 : decode cX12_goes 46 = .ok (.ireturn, 1) := by decide +kernel
theorem dX12_goes_47 : decode cX12_goes 47 = .ok (.aload_n 0, 1) := by decide +kernel
theorem dX12_goes_48 : decode cX12_goes 48 = .ok (.getfield 69, 3) := by decide +kernel
theorem dX12_goes_51 : decode cX12_goes 51 = .ok (.aload_n 0, 1) := by decide +kernel
theorem dX12_goes_52 : decode cX12_goes 52 = .ok (.getfield 305, 3) := by decide +kernel
theorem dX12_goes_55 : decode cX12_goes 55 = .ok (.aload_n 0, 1) := by decide +kernel
theorem dX12_goes_56 : decode cX12_goes 56 = .ok (.getfield 55, 3) := by decide +kernel
theorem dX12_goes_59 : decode cX12_goes 59 = .ok (.iload_n 2, 1) := by decide +kernel
theorem dX12_goes_60 : decode cX12_goes 60 = .ok (.iaload, 1) := by decide +kernel
theorem dX12_goes_61 : decode cX12_goes 61 = .ok (.ifCond .ne 13, 3) := by decide +kernel
theorem dX12_goes_64 : decode cX12_goes 64 = .ok (.aload_n 0, 1) := by decide +kernel
theorem dX12_goes_65 : decode cX12_goes 65 = .ok (.getfield 58, 3) := by decide +kernel
theorem dX12_goes_68 : decode cX12_goes 68 = .ok (.iload_n 2, 1) := by decide +kernel
theorem dX12_goes_69 : decode cX12_goes 69 = .ok (.iaload, 1) := by decide +kernel
theorem dX12_goes_70 : decode cX12_goes 70 = .ok (.i2l, 1) := by decide +kernel
theorem dX12_goes_71 : decode cX12_goes 71 = .ok (.goto 14, 3) := by decide +kernel
theorem dX12_goes_74 : decode cX12_goes 74 = .ok (.aload_n 0, 1) := by decide +kernel
theorem dX12_goes_75 : decode cX12_goes 75 = .ok (.getfield 65, 3) := by decide +kernel
theorem dX12_goes_78 : decode cX12_goes 78 = .ok (.aload_n 0, 1) := by decide +kernel
theorem dX12_goes_79 : decode cX12_goes 79 = .ok (.getfield 58, 3) := by decide +kernel
theorem dX12_goes_82 : decode cX12_goes 82 = .ok (.iload_n 2, 1) := by decide +kernel
theorem dX12_goes_83 : decode cX12_goes 83 = .ok (.iaload, 1) := by decide +kernel
theorem dX12_goes_84 : decode cX12_goes 84 = .ok (.laload, 1) := by decide +kernel
theorem dX12_goes_85 : decode cX12_goes 85 = .ok (.lastore, 1) := by decide +kernel
theorem dX12_goes_86 : decode cX12_goes 86 = .ok (.aload_n 0, 1) := by decide +kernel
theorem dX12_goes_87 : decode cX12_goes 87 = .ok (.dup, 1) := by decide +kernel
theorem dX12_goes_88 : decode cX12_goes 88 = .ok (.getfield 305, 3) := by decide +kernel
theorem dX12_goes_91 : decode cX12_goes 91 = .ok (.iconst 1, 1) := by decide +kernel
theorem dX12_goes_92 : decode cX12_goes 92 = .ok (.iadd, 1) := by decide +kernel
theorem dX12_goes_93 : decode cX12_goes 93 = .ok (.putfield 305, 3) := by decide +kernel
theorem dX12_goes_96 : decode cX12_goes 96 = .ok (.iinc 2 1, 3) := by decide +kernel
theorem dX12_goes_99 : decode cX12_goes 99 = .ok (.goto (-87), 3) := by decide +kernel
theorem dX12_goes_102 : decode cX12_goes 102 = .ok (.iconst 1, 1) := by decide +kernel
theorem dX12_goes_103 : decode cX12_goes 103 = .ok (.ireturn, 1) := by decide +kernel
theorem dX12_hasLaw_0 : decode cX12_hasLaw 0 = .ok (.aload_n 0, 1) := by decide +kernel
theorem dX12_hasLaw_1 : decode cX12_hasLaw 1 = .ok (.getfield 52, 3) := by decide +kernel
theorem dX12_hasLaw_4 : decode cX12_hasLaw 4 = .ok (.iload_n 1, 1) := by decide +kernel
theorem dX12_hasLaw_5 : decode cX12_hasLaw 5 = .ok (.iaload, 1) := by decide +kernel
theorem dX12_hasLaw_6 : decode cX12_hasLaw 6 = .ok (.aload_n 0, 1) := by decide +kernel
theorem dX12_hasLaw_7 : decode cX12_hasLaw 7 = .ok (.getfield 49, 3) := by decide +kernel
theorem dX12_hasLaw_10 : decode cX12_hasLaw 10 = .ok (.iload_n 1, 1) := by decide +kernel
theorem dX12_hasLaw_11 : decode cX12_hasLaw 11 = .ok (.iaload, 1) := by decide +kernel
theorem dX12_hasLaw_12 : decode cX12_hasLaw 12 = .ok (.if_icmp .le 7, 3) := by decide +kernel
theorem dX12_hasLaw_15 : decode cX12_hasLaw 15 = .ok (.iconst 1, 1) := by decide +kernel
theorem dX12_hasLaw_16 : decode cX12_hasLaw 16 = .ok (.goto 4, 3) := by decide +kernel
theorem dX12_hasLaw_19 : decode cX12_hasLaw 19 = .ok (.iconst 0, 1) := by decide +kernel
theorem dX12_hasLaw_20 : decode cX12_hasLaw 20 = .ok (.ireturn, 1) := by decide +kernel
theorem dX12_isJudge_0 : decode cX12_isJudge 0 = .ok (.iload_n 1, 1) := by decide +kernel
theorem dX12_isJudge_1 : decode cX12_isJudge 1 = .ok (.ifCond .lt 17, 3) := by decide +kernel
theorem dX12_isJudge_4 : decode cX12_isJudge 4 = .ok (.iload_n 1, 1) := by decide +kernel
theorem dX12_isJudge_5 : decode cX12_isJudge 5 = .ok (.aload_n 0, 1) := by decide +kernel
theorem dX12_isJudge_6 : decode cX12_isJudge 6 = .ok (.getfield 13, 3) := by decide +kernel
theorem dX12_isJudge_9 : decode cX12_isJudge 9 = .ok (.iconst 0, 1) := by decide +kernel
theorem dX12_isJudge_10 : decode cX12_isJudge 10 = .ok (.iaload, 1) := by decide +kernel
theorem dX12_isJudge_11 : decode cX12_isJudge 11 = .ok (.if_icmp .ge 7, 3) := by decide +kernel
theorem dX12_isJudge_14 : decode cX12_isJudge 14 = .ok (.iconst 1, 1) := by decide +kernel
theorem dX12_isJudge_15 : decode cX12_isJudge 15 = .ok (.goto 4, 3) := by decide +kernel
theorem dX12_isJudge_18 : decode cX12_isJudge 18 = .ok (.iconst 0, 1) := by decide +kernel
theorem dX12_isJudge_19 : decode cX12_isJudge 19 = .ok (.ireturn, 1) := by decide +kernel
theorem dX12_isNut_0 : decode cX12_isNut 0 = .ok (.iload_n 1, 1) := by decide +kernel
theorem dX12_isNut_1 : decode cX12_isNut 1 = .ok (.ifCond .lt 17, 3) := by decide +kernel
theorem dX12_isNut_4 : decode cX12_isNut 4 = .ok (.iload_n 1, 1) := by decide +kernel
theorem dX12_isNut_5 : decode cX12_isNut 5 = .ok (.aload_n 0, 1) := by decide +kernel
theorem dX12_isNut_6 : decode cX12_isNut 6 = .ok (.getfield 13, 3) := by decide +kernel
theorem dX12_isNut_9 : decode cX12_isNut 9 = .ok (.iconst 1, 1) := by decide +kernel
theorem dX12_isNut_10 : decode cX12_isNut 10 = .ok (.iaload, 1) := by decide +kernel
theorem dX12_isNut_11 : decode cX12_isNut 11 = .ok (.if_icmp .ge 7, 3) := by decide +kernel
theorem dX12_isNut_14 : decode cX12_isNut 14 = .ok (.iconst 1, 1) := by decide +kernel
theorem dX12_isNut_15 : decode cX12_isNut 15 = .ok (.goto 4, 3) := by decide +kernel
theorem dX12_isNut_18 : decode cX12_isNut 18 = .ok (.iconst 0, 1) := by decide +kernel
theorem dX12_isNut_19 : decode cX12_isNut 19 = .ok (.ireturn, 1) := by decide +kernel
theorem dX12_isSuit_0 : decode cX12_isSuit 0 = .ok (.iload_n 1, 1) := by decide +kernel
theorem dX12_isSuit_1 : decode cX12_isSuit 1 = .ok (.ifCond .lt 17, 3) := by decide +kernel
theorem dX12_isSuit_4 : decode cX12_isSuit 4 = .ok (.iload_n 1, 1) := by decide +kernel
theorem dX12_isSuit_5 : decode cX12_isSuit 5 = .ok (.aload_n 0, 1) := by decide +kernel
theorem dX12_isSuit_6 : decode cX12_isSuit 6 = .ok (.getfield 13, 3) := by decide +kernel
theorem dX12_isSuit_9 : decode cX12_isSuit 9 = .ok (.iconst 2, 1) := by decide +kernel
theorem dX12_isSuit_10 : decode cX12_isSuit 10 = .ok (.iaload, 1) := by decide +kernel
theorem dX12_isSuit_11 : decode cX12_isSuit 11 = .ok (.if_icmp .ge 7, 3) := by decide +kernel
theorem dX12_isSuit_14 : decode cX12_isSuit 14 = .ok (.iconst 1, 1) := by decide +kernel
theorem dX12_isSuit_15 : decode cX12_isSuit 15 = .ok (.goto 4, 3) := by decide +kernel
theorem dX12_isSuit_18 : decode cX12_isSuit 18 = .ok (.iconst 0, 1) := by decide +kernel
theorem dX12_isSuit_19 : decode cX12_isSuit 19 = .ok (.ireturn, 1) := by decide +kernel
theorem dX12_isOpen_0 : decode cX12_isOpen 0 = .ok (.aload_n 0, 1) := by decide +kernel
theorem dX12_isOpen_1 : decode cX12_isOpen 1 = .ok (.getfield 96, 3) := by decide +kernel
theorem dX12_isOpen_4 : decode cX12_isOpen 4 = .ok (.bipush 10, 2) := by decide +kernel
theorem dX12_isOpen_6 : decode cX12_isOpen 6 = .ok (.iload_n 1, 1) := by decide +kernel
theorem dX12_isOpen_7 : decode cX12_isOpen 7 = .ok (.imul, 1) := by decide +kernel
theorem dX12_isOpen_8 : decode cX12_isOpen 8 = .ok (.iload_n 2, 1) := by decide +kernel
theorem dX12_isOpen_9 : decode cX12_isOpen 9 = .ok (.iadd, 1) := by decide +kernel
theorem dX12_isOpen_10 : decode cX12_isOpen 10 = .ok (.iaload, 1) := by decide +kernel
theorem dX12_isOpen_11 : decode cX12_isOpen 11 = .ok (.iconst (-1), 1) := by decide +kernel
theorem dX12_isOpen_12 : decode cX12_isOpen 12 = .ok (.if_icmp .ne 7, 3) := by decide +kernel
theorem dX12_isOpen_15 : decode cX12_isOpen 15 = .ok (.iconst 1, 1) := by decide +kernel
theorem dX12_isOpen_16 : decode cX12_isOpen 16 = .ok (.goto 4, 3) := by decide +kernel
theorem dX12_isOpen_19 : decode cX12_isOpen 19 = .ok (.iconst 0, 1) := by decide +kernel
theorem dX12_isOpen_20 : decode cX12_isOpen 20 = .ok (.ireturn, 1) := by decide +kernel
theorem dX12_calls_0 : decode cX12_calls 0 = .ok (.aload_n 0, 1) := by decide +kernel
theorem dX12_calls_1 : decode cX12_calls 1 = .ok (.getfield 65, 3) := by decide +kernel
theorem dX12_calls_4 : decode cX12_calls 4 = .ok (.iconst 0, 1) := by decide +kernel
theorem dX12_calls_5 : decode cX12_calls 5 = .ok (.aload_n 0, 1) := by decide +kernel
theorem dX12_calls_6 : decode cX12_calls 6 = .ok (.getfield 19, 3) := by decide +kernel
theorem dX12_calls_9 : decode cX12_calls 9 = .ok (.iload_n 2, 1) := by decide +kernel
theorem dX12_calls_10 : decode cX12_calls 10 = .ok (.iaload, 1) := by decide +kernel
theorem dX12_calls_11 : decode cX12_calls 11 = .ok (.i2l, 1) := by decide +kernel
theorem dX12_calls_12 : decode cX12_calls 12 = .ok (.lastore, 1) := by decide +kernel
theorem dX12_calls_13 : decode cX12_calls 13 = .ok (.aload_n 0, 1) := by decide +kernel
theorem dX12_calls_14 : decode cX12_calls 14 = .ok (.getfield 65, 3) := by decide +kernel
theorem dX12_calls_17 : decode cX12_calls 17 = .ok (.iconst 1, 1) := by decide +kernel
theorem dX12_calls_18 : decode cX12_calls 18 = .ok (.aload_n 0, 1) := by decide +kernel
theorem dX12_calls_19 : decode cX12_calls 19 = .ok (.getfield 84, 3) := by decide +kernel
theorem dX12_calls_22 : decode cX12_calls 22 = .ok (.iconst 4, 1) := by decide +kernel
theorem dX12_calls_23 : decode cX12_calls 23 = .ok (.iload_n 1, 1) := by decide +kernel
theorem dX12_calls_24 : decode cX12_calls 24 = .ok (.imul, 1) := by decide +kernel
theorem dX12_calls_25 : decode cX12_calls 25 = .ok (.iload_n 2, 1) := by decide +kernel
theorem dX12_calls_26 : decode cX12_calls 26 = .ok (.iadd, 1) := by decide +kernel
theorem dX12_calls_27 : decode cX12_calls 27 = .ok (.iaload, 1) := by decide +kernel
theorem dX12_calls_28 : decode cX12_calls 28 = .ok (.i2l, 1) := by decide +kernel
theorem dX12_calls_29 : decode cX12_calls 29 = .ok (.lastore, 1) := by decide +kernel
theorem dX12_calls_30 : decode cX12_calls 30 = .ok (.aload_n 0, 1) := by decide +kernel
theorem dX12_calls_31 : decode cX12_calls 31 = .ok (.getfield 65, 3) := by decide +kernel
theorem dX12_calls_34 : decode cX12_calls 34 = .ok (.iconst 2, 1) := by decide +kernel
theorem dX12_calls_35 : decode cX12_calls 35 = .ok (.iload 4, 2) := by decide +kernel
theorem dX12_calls_37 : decode cX12_calls 37 = .ok (.i2l, 1) := by decide +kernel
theorem dX12_calls_38 : decode cX12_calls 38 = .ok (.lastore, 1) := by decide +kernel
theorem dX12_calls_39 : decode cX12_calls 39 = .ok (.aload_n 0, 1) := by decide +kernel
theorem dX12_calls_40 : decode cX12_calls 40 = .ok (.getfield 65, 3) := by decide +kernel
theorem dX12_calls_43 : decode cX12_calls 43 = .ok (.iconst 3, 1) := by decide +kernel
theorem dX12_calls_44 : decode cX12_calls 44 = .ok (.aload_n 0, 1) := by decide +kernel
theorem dX12_calls_45 : decode cX12_calls 45 = .ok (.getfield 34, 3) := by decide +kernel
theorem dX12_calls_48 : decode cX12_calls 48 = .ok (.iload_n 3, 1) := by decide +kernel
theorem dX12_calls_49 : decode cX12_calls 49 = .ok (.iaload, 1) := by decide +kernel
theorem dX12_calls_50 : decode cX12_calls 50 = .ok (.i2l, 1) := by decide +kernel
theorem dX12_calls_51 : decode cX12_calls 51 = .ok (.lastore, 1) := by decide +kernel
theorem dX12_calls_52 : decode cX12_calls 52 = .ok (.aload_n 0, 1) := by decide +kernel
theorem dX12_calls_53 : decode cX12_calls 53 = .ok (.getfield 65, 3) := by decide +kernel
theorem dX12_calls_56 : decode cX12_calls 56 = .ok (.bipush 6, 2) := by decide +kernel
theorem dX12_calls_58 : decode cX12_calls 58 = .ok (.aload_n 0, 1) := by decide +kernel
theorem dX12_calls_59 : decode cX12_calls 59 = .ok (.getfield 75, 3) := by decide +kernel
theorem dX12_calls_62 : decode cX12_calls 62 = .ok (.iload_n 1, 1) := by decide +kernel
theorem dX12_calls_63 : decode cX12_calls 63 = .ok (.iaload, 1) := by decide +kernel
theorem dX12_calls_64 : decode cX12_calls 64 = .ok (.i2l, 1) := by decide +kernel
theorem dX12_calls_65 : decode cX12_calls 65 = .ok (.lastore, 1) := by decide +kernel
theorem dX12_calls_66 : decode cX12_calls 66 = .ok (.aload_n 0, 1) := by decide +kernel
theorem dX12_calls_67 : decode cX12_calls 67 = .ok (.getfield 65, 3) := by decide +kernel
theorem dX12_calls_70 : decode cX12_calls 70 = .ok (.iconst 4, 1) := by decide +kernel
theorem dX12_calls_71 : decode cX12_calls 71 = .ok (.aload_n 0, 1) := by decide +kernel
theorem dX12_calls_72 : decode cX12_calls 72 = .ok (.getfield 87, 3) := by decide +kernel
theorem dX12_calls_75 : decode cX12_calls 75 = .ok (.iconst 4, 1) := by decide +kernel
theorem dX12_calls_76 : decode cX12_calls 76 = .ok (.iload_n 1, 1) := by decide +kernel
theorem dX12_calls_77 : decode cX12_calls 77 = .ok (.imul, 1) := by decide +kernel
theorem dX12_calls_78 : decode cX12_calls 78 = .ok (.iload_n 2, 1) := by decide +kernel
theorem dX12_calls_79 : decode cX12_calls 79 = .ok (.iadd, 1) := by decide +kernel
theorem dX12_calls_80 : decode cX12_calls 80 = .ok (.iaload, 1) := by decide +kernel
theorem dX12_calls_81 : decode cX12_calls 81 = .ok (.i2l, 1) := by decide +kernel
theorem dX12_calls_82 : decode cX12_calls 82 = .ok (.lastore, 1) := by decide +kernel
theorem dX12_calls_83 : decode cX12_calls 83 = .ok (.aload_n 0, 1) := by decide +kernel
theorem dX12_calls_84 : decode cX12_calls 84 = .ok (.getfield 65, 3) := by decide +kernel
theorem dX12_calls_87 : decode cX12_calls 87 = .ok (.iconst 5, 1) := by decide +kernel
theorem dX12_calls_88 : decode cX12_calls 88 = .ok (.aload_n 0, 1) := by decide +kernel
theorem dX12_calls_89 : decode cX12_calls 89 = .ok (.getfield 72, 3) := by decide +kernel
theorem dX12_calls_92 : decode cX12_calls 92 = .ok (.iload_n 1, 1) := by decide +kernel
theorem dX12_calls_93 : decode cX12_calls 93 = .ok (.iaload, 1) := by decide +kernel
theorem dX12_calls_94 : decode cX12_calls 94 = .ok (.i2l, 1) := by decide +kernel
theorem dX12_calls_95 : decode cX12_calls 95 = .ok (.lastore, 1) := by decide +kernel
theorem dX12_calls_96 : decode cX12_calls 96 = .ok (.return_, 1) := by decide +kernel
theorem dX12_within_0 : decode cX12_within 0 = .ok (.aload_n 0, 1) := by decide +kernel
theorem dX12_within_1 : decode cX12_within 1 = .ok (.iload_n 1, 1) := by decide +kernel
theorem dX12_within_2 : decode cX12_within 2 = .ok (.invokevirtual 331, 3) := by decide +kernel
theorem dX12_within_5 : decode cX12_within 5 = .ok (.ifCond .eq 11, 3) := by decide +kernel
theorem dX12_within_8 : decode cX12_within 8 = .ok (.aload_n 0, 1) := by decide +kernel
theorem dX12_within_9 : decode cX12_within 9 = .ok (.iload_n 1, 1) := by decide +kernel
theorem dX12_within_10 : decode cX12_within 10 = .ok (.invokevirtual 334, 3) := by decide +kernel
theorem dX12_within_13 : decode cX12_within 13 = .ok (.ifCond .ne 6, 3) := by decide +kernel
theorem dX12_within_16 : decode cX12_within 16 = .ok (.iload 4, 2) := by decide +kernel
theorem dX12_within_18 : decode cX12_within 18 = .ok (.ireturn, 1) := by decide +kernel
theorem dX12_within_19 : decode cX12_within 19 = .ok (.iload_n 2, 1) := by decide +kernel
theorem dX12_within_20 : decode cX12_within 20 = .ok (.i2l, 1) := by decide +kernel
theorem dX12_within_21 : decode cX12_within 21 = .ok (.iload_n 3, 1) := by decide +kernel
theorem dX12_within_22 : decode cX12_within 22 = .ok (.i2l, 1) := by decide +kernel
theorem dX12_within_23 : decode cX12_within 23 = .ok (.aload_n 0, 1) := by decide +kernel
theorem dX12_within_24 : decode cX12_within 24 = .ok (.getfield 69, 3) := by decide +kernel
theorem dX12_within_27 : decode cX12_within 27 = .ok (.iconst 0, 1) := by decide +kernel
theorem dX12_within_28 : decode cX12_within 28 = .ok (.laload, 1) := by decide +kernel
theorem dX12_within_29 : decode cX12_within 29 = .ok (.invokestatic 337, 3) := by decide +kernel
theorem dX12_within_32 : decode cX12_within 32 = .ok (.invokestatic 341, 3) := by decide +kernel
theorem dX12_within_35 : decode cX12_within 35 = .ok (.l2i, 1) := by decide +kernel
theorem dX12_within_36 : decode cX12_within 36 = .ok (.ireturn, 1) := by decide +kernel
theorem dX12_forceOf_0 : decode cX12_forceOf 0 = .ok (.aload_n 0, 1) := by decide +kernel
theorem dX12_forceOf_1 : decode cX12_forceOf 1 = .ok (.iload_n 1, 1) := by decide +kernel
theorem dX12_forceOf_2 : decode cX12_forceOf 2 = .ok (.iload_n 2, 1) := by decide +kernel
theorem dX12_forceOf_3 : decode cX12_forceOf 3 = .ok (.iload_n 3, 1) := by decide +kernel
theorem dX12_forceOf_4 : decode cX12_forceOf 4 = .ok (.iload 4, 2) := by decide +kernel
theorem dX12_forceOf_6 : decode cX12_forceOf 6 = .ok (.invokevirtual 344, 3) := by decide +kernel
theorem dX12_forceOf_9 : decode cX12_forceOf 9 = .ok (.aload_n 0, 1) := by decide +kernel
theorem dX12_forceOf_10 : decode cX12_forceOf 10 = .ok (.iconst 0, 1) := by decide +kernel
theorem dX12_forceOf_11 : decode cX12_forceOf 11 = .ok (.iconst 0, 1) := by decide +kernel
theorem dX12_forceOf_12 : decode cX12_forceOf 12 = .ok (.sipush 999, 3) := by decide +kernel
theorem dX12_forceOf_15 : decode cX12_forceOf 15 = .ok (.aload_n 0, 1) := by decide +kernel
theorem dX12_forceOf_16 : decode cX12_forceOf 16 = .ok (.getfield 19, 3) := by decide +kernel
theorem dX12_forceOf_19 : decode cX12_forceOf 19 = .ok (.iload_n 2, 1) := by decide +kernel
theorem dX12_forceOf_20 : decode cX12_forceOf 20 = .ok (.iaload, 1) := by decide +kernel
theorem dX12_forceOf_21 : decode cX12_forceOf 21 = .ok (.aload_n 0, 1) := by decide +kernel
theorem dX12_forceOf_22 : decode cX12_forceOf 22 = .ok (.getfield 75, 3) := by decide +kernel
theorem dX12_forceOf_25 : decode cX12_forceOf 25 = .ok (.iload_n 1, 1) := by decide +kernel
theorem dX12_forceOf_26 : decode cX12_forceOf 26 = .ok (.iaload, 1) := by decide +kernel
theorem dX12_forceOf_27 : decode cX12_forceOf 27 = .ok (.imul, 1) := by decide +kernel
theorem dX12_forceOf_28 : decode cX12_forceOf 28 = .ok (.bipush 50, 2) := by decide +kernel
theorem dX12_forceOf_30 : decode cX12_forceOf 30 = .ok (.idiv, 1) := by decide +kernel
theorem dX12_forceOf_31 : decode cX12_forceOf 31 = .ok (.invokevirtual 348, 3) := by decide +kernel
theorem dX12_forceOf_34 : decode cX12_forceOf 34 = .ok (.istore 5, 2) := by decide +kernel
theorem dX12_forceOf_36 : decode cX12_forceOf 36 = .ok (.aload_n 0, 1) := by decide +kernel
theorem dX12_forceOf_37 : decode cX12_forceOf 37 = .ok (.getfield 84, 3) := by decide +kernel
theorem dX12_forceOf_40 : decode cX12_forceOf 40 = .ok (.iconst 4, 1) := by decide +kernel
theorem dX12_forceOf_41 : decode cX12_forceOf 41 = .ok (.iload_n 1, 1) := by decide +kernel
theorem dX12_forceOf_42 : decode cX12_forceOf 42 = .ok (.imul, 1) := by decide +kernel
theorem dX12_forceOf_43 : decode cX12_forceOf 43 = .ok (.iload_n 2, 1) := by decide +kernel
theorem dX12_forceOf_44 : decode cX12_forceOf 44 = .ok (.iadd, 1) := by decide +kernel
theorem dX12_forceOf_45 : decode cX12_forceOf 45 = .ok (.iaload, 1) := by decide +kernel
theorem dX12_forceOf_46 : decode cX12_forceOf 46 = .ok (.ifCond .ne 18, 3) := by decide +kernel
theorem dX12_forceOf_49 : decode cX12_forceOf 49 = .ok (.aload_n 0, 1) := by decide +kernel
theorem dX12_forceOf_50 : decode cX12_forceOf 50 = .ok (.getfield 352, 3) := by decide +kernel
theorem dX12_forceOf_53 : decode cX12_forceOf 53 = .ok (.iconst 4, 1) := by decide +kernel
theorem dX12_forceOf_54 : decode cX12_forceOf 54 = .ok (.if_icmp .eq 10, 3) := by decide +kernel
theorem dX12_forceOf_57 : decode cX12_forceOf 57 = .ok (.iload 5, 2) := by decide +kernel
theorem dX12_forceOf_59 : decode cX12_forceOf 59 = .ok (.iconst 2, 1) := by decide +kernel
theorem dX12_forceOf_60 : decode cX12_forceOf 60 = .ok (.idiv, 1) := by decide +kernel
theorem dX12_forceOf_61 : decode cX12_forceOf 61 = .ok (.goto 5, 3) := by decide +kernel
theorem dX12_forceOf_64 : decode cX12_forceOf 64 = .ok (.iload 5, 2) := by decide +kernel
theorem dX12_forceOf_66 : decode cX12_forceOf 66 = .ok (.ireturn, 1) := by decide +kernel
theorem dX12_slackOf_0 : decode cX12_slackOf 0 = .ok (.aload_n 0, 1) := by decide +kernel
theorem dX12_slackOf_1 : decode cX12_slackOf 1 = .ok (.iload_n 1, 1) := by decide +kernel
theorem dX12_slackOf_2 : decode cX12_slackOf 2 = .ok (.iload_n 2, 1) := by decide +kernel
theorem dX12_slackOf_3 : decode cX12_slackOf 3 = .ok (.iload_n 3, 1) := by decide +kernel
theorem dX12_slackOf_4 : decode cX12_slackOf 4 = .ok (.iload 4, 2) := by decide +kernel
theorem dX12_slackOf_6 : decode cX12_slackOf 6 = .ok (.invokevirtual 344, 3) := by decide +kernel
theorem dX12_slackOf_9 : decode cX12_slackOf 9 = .ok (.aload_n 0, 1) := by decide +kernel
theorem dX12_slackOf_10 : decode cX12_slackOf 10 = .ok (.iconst 1, 1) := by decide +kernel
theorem dX12_slackOf_11 : decode cX12_slackOf 11 = .ok (.iconst 1, 1) := by decide +kernel
theorem dX12_slackOf_12 : decode cX12_slackOf 12 = .ok (.bipush 99, 2) := by decide +kernel
theorem dX12_slackOf_14 : decode cX12_slackOf 14 = .ok (.bipush 10, 2) := by decide +kernel
theorem dX12_slackOf_16 : decode cX12_slackOf 16 = .ok (.invokevirtual 348, 3) := by decide +kernel
theorem dX12_slackOf_19 : decode cX12_slackOf 19 = .ok (.ireturn, 1) := by decide +kernel
theorem dX12_gainOf_0 : decode cX12_gainOf 0 = .ok (.aload_n 0, 1) := by decide +kernel
theorem dX12_gainOf_1 : decode cX12_gainOf 1 = .ok (.getfield 31, 3) := by decide +kernel
theorem dX12_gainOf_4 : decode cX12_gainOf 4 = .ok (.aload_n 0, 1) := by decide +kernel
theorem dX12_gainOf_5 : decode cX12_gainOf 5 = .ok (.getfield 43, 3) := by decide +kernel
theorem dX12_gainOf_8 : decode cX12_gainOf 8 = .ok (.iload_n 1, 1) := by decide +kernel
theorem dX12_gainOf_9 : decode cX12_gainOf 9 = .ok (.iaload, 1) := by decide +kernel
theorem dX12_gainOf_10 : decode cX12_gainOf 10 = .ok (.iaload, 1) := by decide +kernel
theorem dX12_gainOf_11 : decode cX12_gainOf 11 = .ok (.istore_n 3, 1) := by decide +kernel
theorem dX12_gainOf_12 : decode cX12_gainOf 12 = .ok (.iload_n 2, 1) := by decide +kernel
theorem dX12_gainOf_13 : decode cX12_gainOf 13 = .ok (.iconst 1, 1) := by decide +kernel
theorem dX12_gainOf_14 : decode cX12_gainOf 14 = .ok (.if_icmp .ne 7, 3) := by decide +kernel
theorem dX12_gainOf_17 : decode cX12_gainOf 17 = .ok (.iload_n 3, 1) := by decide +kernel
theorem dX12_gainOf_18 : decode cX12_gainOf 18 = .ok (.goto 15, 3) := by decide +kernel
theorem dX12_gainOf_21 : decode cX12_gainOf 21 = .ok (.iload_n 2, 1) := by decide +kernel
theorem dX12_gainOf_22 : decode cX12_gainOf 22 = .ok (.iconst 2, 1) := by decide +kernel
theorem dX12_gainOf_23 : decode cX12_gainOf 23 = .ok (.if_icmp .ne 9, 3) := by decide +kernel
theorem dX12_gainOf_26 : decode cX12_gainOf 26 = .ok (.iload_n 3, 1) := by decide +kernel
theorem dX12_gainOf_27 : decode cX12_gainOf 27 = .ok (.iconst 2, 1) := by decide +kernel
theorem dX12_gainOf_28 : decode cX12_gainOf 28 = .ok (.idiv, 1) := by decide +kernel
theorem dX12_gainOf_29 : decode cX12_gainOf 29 = .ok (.goto 4, 3) := by decide +kernel
theorem dX12_gainOf_32 : decode cX12_gainOf 32 = .ok (.iconst 0, 1) := by decide +kernel
theorem dX12_gainOf_33 : decode cX12_gainOf 33 = .ok (.ireturn, 1) := by decide +kernel
theorem dX12_suit_0 : decode cX12_suit 0 = .ok (.aload_n 0, 1) := by decide +kernel
theorem dX12_suit_1 : decode cX12_suit 1 = .ok (.aload_n 0, 1) := by decide +kernel
theorem dX12_suit_2 : decode cX12_suit 2 = .ok (.iload_n 1, 1) := by decide +kernel
theorem dX12_suit_3 : decode cX12_suit 3 = .ok (.invokevirtual 401, 3) := by decide +kernel
theorem dX12_suit_6 : decode cX12_suit 6 = .ok (.ifCond .ne 7, 3) := by decide +kernel
theorem dX12_suit_9 : decode cX12_suit 9 = .ok (.iconst 1, 1) := by decide +kernel
theorem dX12_suit_10 : decode cX12_suit 10 = .ok (.goto 17, 3) := by decide +kernel
theorem dX12_suit_13 : decode cX12_suit 13 = .ok (.iload_n 2, 1) := by decide +kernel
theorem dX12_suit_14 : decode cX12_suit 14 = .ok (.ifCond .lt 8, 3) := by decide +kernel
theorem dX12_suit_17 : decode cX12_suit 17 = .ok (.iload_n 2, 1) := by decide +kernel
theorem dX12_suit_18 : decode cX12_suit 18 = .ok (.iconst 5, 1) := by decide +kernel
theorem dX12_suit_19 : decode cX12_suit 19 = .ok (.if_icmp .le 7, 3) := by decide +kernel
theorem dX12_suit_22 : decode cX12_suit 22 = .ok (.iconst 2, 1) := by decide +kernel
theorem dX12_suit_23 : decode cX12_suit 23 = .ok (.goto 4, 3) := by decide +kernel
theorem dX12_suit_26 : decode cX12_suit 26 = .ok (.iconst 0, 1) := by decide +kernel
theorem dX12_suit_27 : decode cX12_suit 27 = .ok (.putfield 145, 3) := by decide +kernel
theorem dX12_suit_30 : decode cX12_suit 30 = .ok (.aload_n 0, 1) := by decide +kernel
theorem dX12_suit_31 : decode cX12_suit 31 = .ok (.getfield 145, 3) := by decide +kernel
theorem dX12_suit_34 : decode cX12_suit 34 = .ok (.ifCond .eq 5, 3) := by decide +kernel
theorem dX12_suit_37 : decode cX12_suit 37 = .ok (.iconst 0, 1) := by decide +kernel
theorem dX12_suit_38 : decode cX12_suit 38 = .ok (.ireturn, 1) := by decide +kernel
theorem dX12_suit_39 : decode cX12_suit 39 = .ok (.iload_n 2, 1) := by decide +kernel
theorem dX12_suit_40 : decode cX12_suit 40 = .ok (.tableswitch 75 0 4 #[36, 43, 50, 57, 68], 36) := by decide +kernel
theorem dX12_suit_76 : decode cX12_suit 76 = .ok (.aload_n 0, 1) := by decide +kernel
theorem dX12_suit_77 : decode cX12_suit 77 = .ok (.getfield 90, 3) := by decide +kernel
theorem dX12_suit_80 : decode cX12_suit 80 = .ok (.iload_n 1, 1) := by decide +kernel
theorem dX12_suit_81 : decode cX12_suit 81 = .ok (.iaload, 1) := by decide +kernel
theorem dX12_suit_82 : decode cX12_suit 82 = .ok (.ireturn, 1) := by decide +kernel
theorem dX12_suit_83 : decode cX12_suit 83 = .ok (.aload_n 0, 1) := by decide +kernel
theorem dX12_suit_84 : decode cX12_suit 84 = .ok (.getfield 43, 3) := by decide +kernel
theorem dX12_suit_87 : decode cX12_suit 87 = .ok (.iload_n 1, 1) := by decide +kernel
theorem dX12_suit_88 : decode cX12_suit 88 = .ok (.iaload, 1) := by decide +kernel
theorem dX12_suit_89 : decode cX12_suit 89 = .ok (.ireturn, 1) := by decide +kernel
theorem dX12_suit_90 : decode cX12_suit 90 = .ok (.aload_n 0, 1) := by decide +kernel
theorem dX12_suit_91 : decode cX12_suit 91 = .ok (.getfield 93, 3) := by decide +kernel
theorem dX12_suit_94 : decode cX12_suit 94 = .ok (.iload_n 1, 1) := by decide +kernel
theorem dX12_suit_95 : decode cX12_suit 95 = .ok (.iaload, 1) := by decide +kernel
theorem dX12_suit_96 : decode cX12_suit 96 = .ok (.ireturn, 1) := by decide +kernel
theorem dX12_suit_97 : decode cX12_suit 97 = .ok (.aload_n 0, 1) := by decide +kernel
theorem dX12_suit_98 : decode cX12_suit 98 = .ok (.getfield 78, 3) := by decide +kernel
theorem dX12_suit_101 : decode cX12_suit 101 = .ok (.iconst 0, 1) := by decide +kernel
theorem dX12_suit_102 : decode cX12_suit 102 = .ok (.iaload, 1) := by decide +kernel
theorem dX12_suit_103 : decode cX12_suit 103 = .ok (.iload_n 1, 1) := by decide +kernel
theorem dX12_suit_104 : decode cX12_suit 104 = .ok (.ishr, 1) := by decide +kernel
theorem dX12_suit_105 : decode cX12_suit 105 = .ok (.iconst 1, 1) := by decide +kernel
theorem dX12_suit_106 : decode cX12_suit 106 = .ok (.iand, 1) := by decide +kernel
theorem dX12_suit_107 : decode cX12_suit 107 = .ok (.ireturn, 1) := by decide +kernel
theorem dX12_suit_108 : decode cX12_suit 108 = .ok (.aload_n 0, 1) := by decide +kernel
theorem dX12_suit_109 : decode cX12_suit 109 = .ok (.getfield 96, 3) := by decide +kernel
theorem dX12_suit_112 : decode cX12_suit 112 = .ok (.iload_n 1, 1) := by decide +kernel
theorem dX12_suit_113 : decode cX12_suit 113 = .ok (.iaload, 1) := by decide +kernel
theorem dX12_suit_114 : decode cX12_suit 114 = .ok (.ireturn, 1) := by decide +kernel
theorem dX12_suit_115 : decode cX12_suit 115 = .ok (.aload_n 0, 1) := by decide +kernel
theorem dX12_suit_116 : decode cX12_suit 116 = .ok (.iload_n 1, 1) := by decide +kernel
theorem dX12_suit_117 : decode cX12_suit 117 = .ok (.aload_n 0, 1) := by decide +kernel
theorem dX12_suit_118 : decode cX12_suit 118 = .ok (.getfield 96, 3) := by decide +kernel
theorem dX12_suit_121 : decode cX12_suit 121 = .ok (.iload_n 1, 1) := by decide +kernel
theorem dX12_suit_122 : decode cX12_suit 122 = .ok (.iaload, 1) := by decide +kernel
theorem dX12_suit_123 : decode cX12_suit 123 = .ok (.invokevirtual 398, 3) := by decide +kernel
theorem dX12_suit_126 : decode cX12_suit 126 = .ok (.ireturn, 1) := by decide +kernel
theorem dX12_triedBy_0 : decode cX12_triedBy 0 = .ok (.iconst 0, 1) := by decide +kernel
theorem dX12_triedBy_1 : decode cX12_triedBy 1 = .ok (.istore_n 3, 1) := by decide +kernel
theorem dX12_triedBy_2 : decode cX12_triedBy 2 = .ok (.iconst 0, 1) := by decide +kernel
theorem dX12_triedBy_3 : decode cX12_triedBy 3 = .ok (.istore 4, 2) := by decide +kernel
theorem dX12_triedBy_5 : decode cX12_triedBy 5 = .ok (.iload 4, 2) := by decide +kernel
theorem dX12_triedBy_7 : decode cX12_triedBy 7 = .ok (.aload_n 0, 1) := by decide +kernel
theorem dX12_triedBy_8 : decode cX12_triedBy 8 = .ok (.getfield 13, 3) := by decide +kernel
theorem dX12_triedBy_11 : decode cX12_triedBy 11 = .ok (.iconst 2, 1) := by decide +kernel
theorem dX12_triedBy_12 : decode cX12_triedBy 12 = .ok (.iaload, 1) := by decide +kernel
theorem dX12_triedBy_13 : decode cX12_triedBy 13 = .ok (.if_icmp .ge 66, 3) := by decide +kernel
theorem dX12_triedBy_16 : decode cX12_triedBy 16 = .ok (.aload_n 0, 1) := by decide +kernel
theorem dX12_triedBy_17 : decode cX12_triedBy 17 = .ok (.getfield 90, 3) := by decide +kernel
theorem dX12_triedBy_20 : decode cX12_triedBy 20 = .ok (.iload 4, 2) := by decide +kernel
theorem dX12_triedBy_22 : decode cX12_triedBy 22 = .ok (.iaload, 1) := by decide +kernel
theorem dX12_triedBy_23 : decode cX12_triedBy 23 = .ok (.iload_n 1, 1) := by decide +kernel
theorem dX12_triedBy_24 : decode cX12_triedBy 24 = .ok (.if_icmp .ne 33, 3) := by decide +kernel
theorem dX12_triedBy_27 : decode cX12_triedBy 27 = .ok (.aload_n 0, 1) := by decide +kernel
theorem dX12_triedBy_28 : decode cX12_triedBy 28 = .ok (.iconst 0, 1) := by decide +kernel
theorem dX12_triedBy_29 : decode cX12_triedBy 29 = .ok (.iload 4, 2) := by decide +kernel
theorem dX12_triedBy_31 : decode cX12_triedBy 31 = .ok (.invokevirtual 379, 3) := by decide +kernel
theorem dX12_triedBy_34 : decode cX12_triedBy 34 = .ok (.ifCond .ne 23, 3) := by decide +kernel
theorem dX12_triedBy_37 : decode cX12_triedBy 37 = .ok (.iload_n 2, 1) := by decide +kernel
theorem dX12_triedBy_38 : decode cX12_triedBy 38 = .ok (.iconst (-1), 1) := by decide +kernel
theorem dX12_triedBy_39 : decode cX12_triedBy 39 = .ok (.if_icmp .eq 14, 3) := by decide +kernel
theorem dX12_triedBy_42 : decode cX12_triedBy 42 = .ok (.aload_n 0, 1) := by decide +kernel
theorem dX12_triedBy_43 : decode cX12_triedBy 43 = .ok (.getfield 96, 3) := by decide +kernel
theorem dX12_triedBy_46 : decode cX12_triedBy 46 = .ok (.iload 4, 2) := by decide +kernel
theorem dX12_triedBy_48 : decode cX12_triedBy 48 = .ok (.iaload, 1) := by decide +kernel
theorem dX12_triedBy_49 : decode cX12_triedBy 49 = .ok (.iload_n 2, 1) := by decide +kernel
theorem dX12_triedBy_50 : decode cX12_triedBy 50 = .ok (.if_icmp .ne 7, 3) := by decide +kernel
theorem dX12_triedBy_53 : decode cX12_triedBy 53 = .ok (.iconst 1, 1) := by decide +kernel
theorem dX12_triedBy_54 : decode cX12_triedBy 54 = .ok (.goto 4, 3) := by decide +kernel
theorem dX12_triedBy_57 : decode cX12_triedBy 57 = .ok (.iconst 0, 1) := by decide +kernel
theorem dX12_triedBy_58 : decode cX12_triedBy 58 = .ok (.istore 5, 2) := by decide +kernel
theorem dX12_triedBy_60 : decode cX12_triedBy 60 = .ok (.iload_n 3, 1) := by decide +kernel
theorem dX12_triedBy_61 : decode cX12_triedBy 61 = .ok (.iload 5, 2) := by decide +kernel
theorem dX12_triedBy_63 : decode cX12_triedBy 63 = .ok (.ifCond .eq 7, 3) := by decide +kernel
theorem dX12_triedBy_66 : decode cX12_triedBy 66 = .ok (.iconst 1, 1) := by decide +kernel
theorem dX12_triedBy_67 : decode cX12_triedBy 67 = .ok (.goto 4, 3) := by decide +kernel
theorem dX12_triedBy_70 : decode cX12_triedBy 70 = .ok (.iconst 0, 1) := by decide +kernel
theorem dX12_triedBy_71 : decode cX12_triedBy 71 = .ok (.iadd, 1) := by decide +kernel
theorem dX12_triedBy_72 : decode cX12_triedBy 72 = .ok (.istore_n 3, 1) := by decide +kernel
theorem dX12_triedBy_73 : decode cX12_triedBy 73 = .ok (.iinc 4 1, 3) := by decide +kernel
theorem dX12_triedBy_76 : decode cX12_triedBy 76 = .ok (.goto (-71), 3) := by decide +kernel
theorem dX12_triedBy_79 : decode cX12_triedBy 79 = .ok (.iload_n 3, 1) := by decide +kernel
theorem dX12_triedBy_80 : decode cX12_triedBy 80 = .ok (.ireturn, 1) := by decide +kernel
theorem dX12_judge_0 : decode cX12_judge 0 = .ok (.aload_n 0, 1) := by decide +kernel
theorem dX12_judge_1 : decode cX12_judge 1 = .ok (.iconst 0, 1) := by decide +kernel
theorem dX12_judge_2 : decode cX12_judge 2 = .ok (.putfield 145, 3) := by decide +kernel
theorem dX12_judge_5 : decode cX12_judge 5 = .ok (.aload_n 0, 1) := by decide +kernel
theorem dX12_judge_6 : decode cX12_judge 6 = .ok (.iload_n 1, 1) := by decide +kernel
theorem dX12_judge_7 : decode cX12_judge 7 = .ok (.invokevirtual 404, 3) := by decide +kernel
theorem dX12_judge_10 : decode cX12_judge 10 = .ok (.ifCond .ne 5, 3) := by decide +kernel
theorem dX12_judge_13 : decode cX12_judge 13 = .ok (.iconst (-1), 1) := by decide +kernel
theorem dX12_judge_14 : decode cX12_judge 14 = .ok (.ireturn, 1) := by decide +kernel
theorem dX12_judge_15 : decode cX12_judge 15 = .ok (.iload_n 2, 1) := by decide +kernel
theorem dX12_judge_16 : decode cX12_judge 16 = .ok (.tableswitch 60 0 3 #[32, 39, 46, 53], 32) := by decide +kernel
theorem dX12_judge_48 : decode cX12_judge 48 = .ok (.aload_n 0, 1) := by decide +kernel
theorem dX12_judge_49 : decode cX12_judge 49 = .ok (.getfield 19, 3) := by decide +kernel
theorem dX12_judge_52 : decode cX12_judge 52 = .ok (.iload_n 1, 1) := by decide +kernel
theorem dX12_judge_53 : decode cX12_judge 53 = .ok (.iaload, 1) := by decide +kernel
theorem dX12_judge_54 : decode cX12_judge 54 = .ok (.ireturn, 1) := by decide +kernel
theorem dX12_judge_55 : decode cX12_judge 55 = .ok (.aload_n 0, 1) := by decide +kernel
theorem dX12_judge_56 : decode cX12_judge 56 = .ok (.getfield 84, 3) := by decide +kernel
theorem dX12_judge_59 : decode cX12_judge 59 = .ok (.iload_n 1, 1) := by decide +kernel
theorem dX12_judge_60 : decode cX12_judge 60 = .ok (.iaload, 1) := by decide +kernel
theorem dX12_judge_61 : decode cX12_judge 61 = .ok (.ireturn, 1) := by decide +kernel
theorem dX12_judge_62 : decode cX12_judge 62 = .ok (.aload_n 0, 1) := by decide +kernel
theorem dX12_judge_63 : decode cX12_judge 63 = .ok (.iload_n 1, 1) := by decide +kernel
theorem dX12_judge_64 : decode cX12_judge 64 = .ok (.iconst (-1), 1) := by decide +kernel
theorem dX12_judge_65 : decode cX12_judge 65 = .ok (.invokevirtual 407, 3) := by decide +kernel
theorem dX12_judge_68 : decode cX12_judge 68 = .ok (.ireturn, 1) := by decide +kernel
theorem dX12_judge_69 : decode cX12_judge 69 = .ok (.aload_n 0, 1) := by decide +kernel
theorem dX12_judge_70 : decode cX12_judge 70 = .ok (.iload_n 1, 1) := by decide +kernel
theorem dX12_judge_71 : decode cX12_judge 71 = .ok (.iconst 1, 1) := by decide +kernel
theorem dX12_judge_72 : decode cX12_judge 72 = .ok (.invokevirtual 407, 3) := by decide +kernel
theorem dX12_judge_75 : decode cX12_judge 75 = .ok (.ireturn, 1) := by decide +kernel
theorem dX12_judge_76 : decode cX12_judge 76 = .ok (.iconst (-1), 1) := by decide +kernel
theorem dX12_judge_77 : decode cX12_judge 77 = .ok (.ireturn, 1) := by decide +kernel
theorem dX12_nut_0 : decode cX12_nut 0 = .ok (.aload_n 0, 1) := by decide +kernel
theorem dX12_nut_1 : decode cX12_nut 1 = .ok (.iconst 0, 1) := by decide +kernel
theorem dX12_nut_2 : decode cX12_nut 2 = .ok (.putfield 145, 3) := by decide +kernel
theorem dX12_nut_5 : decode cX12_nut 5 = .ok (.aload_n 0, 1) := by decide +kernel
theorem dX12_nut_6 : decode cX12_nut 6 = .ok (.iload_n 1, 1) := by decide +kernel
theorem dX12_nut_7 : decode cX12_nut 7 = .ok (.invokevirtual 410, 3) := by decide +kernel
theorem dX12_nut_10 : decode cX12_nut 10 = .ok (.ifCond .ne 5, 3) := by decide +kernel
theorem dX12_nut_13 : decode cX12_nut 13 = .ok (.iconst (-1), 1) := by decide +kernel
theorem dX12_nut_14 : decode cX12_nut 14 = .ok (.ireturn, 1) := by decide +kernel
theorem dX12_nut_15 : decode cX12_nut 15 = .ok (.iload_n 2, 1) := by decide +kernel
theorem dX12_nut_16 : decode cX12_nut 16 = .ok (.ifCond .ne 12, 3) := by decide +kernel
theorem dX12_nut_19 : decode cX12_nut 19 = .ok (.aload_n 0, 1) := by decide +kernel
theorem dX12_nut_20 : decode cX12_nut 20 = .ok (.getfield 28, 3) := by decide +kernel
theorem dX12_nut_23 : decode cX12_nut 23 = .ok (.iload_n 1, 1) := by decide +kernel
theorem dX12_nut_24 : decode cX12_nut 24 = .ok (.iaload, 1) := by decide +kernel
theorem dX12_nut_25 : decode cX12_nut 25 = .ok (.goto 32, 3) := by decide +kernel
theorem dX12_nut_28 : decode cX12_nut 28 = .ok (.iload_n 2, 1) := by decide +kernel
theorem dX12_nut_29 : decode cX12_nut 29 = .ok (.iconst 1, 1) := by decide +kernel
theorem dX12_nut_30 : decode cX12_nut 30 = .ok (.if_icmp .ne 12, 3) := by decide +kernel
theorem dX12_nut_33 : decode cX12_nut 33 = .ok (.aload_n 0, 1) := by decide +kernel
theorem dX12_nut_34 : decode cX12_nut 34 = .ok (.getfield 31, 3) := by decide +kernel
theorem dX12_nut_37 : decode cX12_nut 37 = .ok (.iload_n 1, 1) := by decide +kernel
theorem dX12_nut_38 : decode cX12_nut 38 = .ok (.iaload, 1) := by decide +kernel
theorem dX12_nut_39 : decode cX12_nut 39 = .ok (.goto 18, 3) := by decide +kernel
theorem dX12_nut_42 : decode cX12_nut 42 = .ok (.iload_n 2, 1) := by decide +kernel
theorem dX12_nut_43 : decode cX12_nut 43 = .ok (.iconst 2, 1) := by decide +kernel
theorem dX12_nut_44 : decode cX12_nut 44 = .ok (.if_icmp .ne 12, 3) := by decide +kernel
theorem dX12_nut_47 : decode cX12_nut 47 = .ok (.aload_n 0, 1) := by decide +kernel
theorem dX12_nut_48 : decode cX12_nut 48 = .ok (.getfield 34, 3) := by decide +kernel
theorem dX12_nut_51 : decode cX12_nut 51 = .ok (.iload_n 1, 1) := by decide +kernel
theorem dX12_nut_52 : decode cX12_nut 52 = .ok (.iaload, 1) := by decide +kernel
theorem dX12_nut_53 : decode cX12_nut 53 = .ok (.goto 4, 3) := by decide +kernel
theorem dX12_nut_56 : decode cX12_nut 56 = .ok (.iconst (-1), 1) := by decide +kernel
theorem dX12_nut_57 : decode cX12_nut 57 = .ok (.ireturn, 1) := by decide +kernel
theorem dX12_force_0 : decode cX12_force 0 = .ok (.aload_n 0, 1) := by decide +kernel
theorem dX12_force_1 : decode cX12_force 1 = .ok (.iconst 0, 1) := by decide +kernel
theorem dX12_force_2 : decode cX12_force 2 = .ok (.putfield 145, 3) := by decide +kernel
theorem dX12_force_5 : decode cX12_force 5 = .ok (.aload_n 0, 1) := by decide +kernel
theorem dX12_force_6 : decode cX12_force 6 = .ok (.iload_n 1, 1) := by decide +kernel
theorem dX12_force_7 : decode cX12_force 7 = .ok (.invokevirtual 404, 3) := by decide +kernel
theorem dX12_force_10 : decode cX12_force 10 = .ok (.ifCond .eq 27, 3) := by decide +kernel
theorem dX12_force_13 : decode cX12_force 13 = .ok (.aload_n 0, 1) := by decide +kernel
theorem dX12_force_14 : decode cX12_force 14 = .ok (.iload_n 2, 1) := by decide +kernel
theorem dX12_force_15 : decode cX12_force 15 = .ok (.invokevirtual 410, 3) := by decide +kernel
theorem dX12_force_18 : decode cX12_force 18 = .ok (.ifCond .eq 19, 3) := by decide +kernel
theorem dX12_force_21 : decode cX12_force 21 = .ok (.aload_n 0, 1) := by decide +kernel
theorem dX12_force_22 : decode cX12_force 22 = .ok (.iconst 0, 1) := by decide +kernel
theorem dX12_force_23 : decode cX12_force 23 = .ok (.iload_n 1, 1) := by decide +kernel
theorem dX12_force_24 : decode cX12_force 24 = .ok (.iload_n 2, 1) := by decide +kernel
theorem dX12_force_25 : decode cX12_force 25 = .ok (.aload_n 0, 1) := by decide +kernel
theorem dX12_force_26 : decode cX12_force 26 = .ok (.getfield 28, 3) := by decide +kernel
theorem dX12_force_29 : decode cX12_force 29 = .ok (.iload_n 2, 1) := by decide +kernel
theorem dX12_force_30 : decode cX12_force 30 = .ok (.iaload, 1) := by decide +kernel
theorem dX12_force_31 : decode cX12_force 31 = .ok (.invokevirtual 355, 3) := by decide +kernel
theorem dX12_force_34 : decode cX12_force 34 = .ok (.goto 4, 3) := by decide +kernel
theorem dX12_force_37 : decode cX12_force 37 = .ok (.iconst (-1), 1) := by decide +kernel
theorem dX12_force_38 : decode cX12_force 38 = .ok (.ireturn, 1) := by decide +kernel
def wp_X12_isSuit (x1 : Int32) (h : ck_H) (Q : Int32 → ck_H → Prop) : Prop := ((x1 < 0 → Q (0 : Int32) h) ∧ (¬ x1 < 0 → (((h.1 2 2) ≤ x1 → Q (0 : Int32) h) ∧ (¬ (h.1 2 2) ≤ x1 → Q (1 : Int32) h))))
set_option maxHeartbeats 4000000 in
set_option maxRecDepth 100000 in
theorem c_X12_isSuit {gr : Bool} {x1 : Int32} {h : ck_H} {Q : Int32 → ck_H → Prop} (hq : wp_X12_isSuit x1 h Q) : ck_M yX12_isSuit cX12_isSuit 2 (some .boolean) 2 0 0 gr ck_shM h [.ref 0, .int x1] (ck_Qi ck_shM Q) := by
  refine ck_entry (lv := [(0, .ref 0), (1, .int x1)]) false (own := RX12) rfl (fun q => by cases q) (by decide) (Nat.le_of_ble_eq_true rfl) rfl ?_
  refine ck_iload_n 1 dX12_isSuit_0 rfl rfl ?_
  refine ck_if_lt (tgt := 18) dX12_isSuit_1 (by decide) (fun c1 => ?_) (fun c1 => ?_)
  · have hq := hq.1 c1
    refine ck_iconst (v := 0) dX12_isSuit_18 (by decide) ?_
    exact ck_iret rfl (by decide) rfl rfl dX12_isSuit_19 ⟨_, rfl, rfl, hq⟩
  · have hq := hq.2 c1
    refine ck_iload_n 1 dX12_isSuit_4 rfl rfl ?_
    refine ck_aload_n 0 dX12_isSuit_5 rfl rfl ?_
    refine ck_getR clX12 3 rfl rfl (by decide) fl_X12_13 dX12_isSuit_6 ?_
    refine ck_iconst (v := 2) dX12_isSuit_9 (by decide) ?_
    refine ck_iald (j := 2) (by decide) rfl (ck_inL (by decide)) dX12_isSuit_10 ?_
    refine ck_icmp_ge (tgt := 18) dX12_isSuit_11 (by decide) (fun c2 => ?_) (fun c2 => ?_)
    · have hq := hq.1 c2
      refine ck_iconst (v := 0) dX12_isSuit_18 (by decide) ?_
      exact ck_iret rfl (by decide) rfl rfl dX12_isSuit_19 ⟨_, rfl, rfl, hq⟩
    · have hq := hq.2 c2
      refine ck_iconst (v := 1) dX12_isSuit_14 (by decide) ?_
      refine ck_goto (tgt := 19) dX12_isSuit_15 (by decide) ?_
      exact ck_iret rfl (by decide) rfl rfl dX12_isSuit_19 ⟨_, rfl, rfl, hq⟩
def wp_X12_gainOf (x1 : Int32) (x2 : Int32) (h : ck_H) (Q : Int32 → ck_H → Prop) : Prop := (vp_in x1 20 ∧ (vp_in (h.1 12 x1.toNatClampNeg) 12 ∧ (∀ v3, v3 = (h.1 8 (h.1 12 x1.toNatClampNeg).toNatClampNeg) → ((¬ x2 = (1 : Int32) → ((¬ x2 = (2 : Int32) → Q (0 : Int32) h) ∧ (x2 = (2 : Int32) → Q (v3 / (2 : Int32)) h))) ∧ (x2 = (1 : Int32) → Q v3 h)))))
set_option maxHeartbeats 4000000 in
set_option maxRecDepth 100000 in
theorem c_X12_gainOf {gr : Bool} {x1 : Int32} {x2 : Int32} {h : ck_H} {Q : Int32 → ck_H → Prop} (hq : wp_X12_gainOf x1 x2 h Q) : ck_M yX12_gainOf cX12_gainOf 4 (some .int) 2 0 0 gr ck_shM h [.ref 0, .int x1, .int x2] (ck_Qi ck_shM Q) := by
  refine ck_entry (lv := [(0, .ref 0), (1, .int x1), (2, .int x2)]) false (own := RX12) rfl (fun q => by cases q) (by decide) (Nat.le_of_ble_eq_true rfl) rfl ?_
  refine ck_aload_n 0 dX12_gainOf_0 rfl rfl ?_
  refine ck_getR clX12 9 rfl rfl (by decide) fl_X12_31 dX12_gainOf_1 ?_
  refine ck_aload_n 0 dX12_gainOf_4 rfl rfl ?_
  refine ck_getR clX12 13 rfl rfl (by decide) fl_X12_43 dX12_gainOf_5 ?_
  refine ck_iload_n 1 dX12_gainOf_8 rfl rfl ?_
  obtain ⟨b1, hq⟩ := hq
  refine ck_iald rfl rfl b1 dX12_gainOf_9 ?_
  obtain ⟨b2, hq⟩ := hq
  refine ck_iald rfl rfl b2 dX12_gainOf_10 ?_
  refine ck_nmI (fun v3 ev3 => ?_)
  have hq := hq v3 ev3
  refine ck_istore_n (lv' := [(3, .int v3), (0, .ref 0), (1, .int x1), (2, .int x2)]) dX12_gainOf_11 rfl (by decide) rfl ?_
  refine ck_iload_n 3 dX12_gainOf_12 rfl rfl ?_
  refine ck_iconst (v := 1) dX12_gainOf_13 (by decide) ?_
  refine ck_icmp_ne (tgt := 21) dX12_gainOf_14 (by decide) (fun c4 => ?_) (fun c4 => ?_)
  · have hq := hq.1 c4
    refine ck_iload_n 3 dX12_gainOf_21 rfl rfl ?_
    refine ck_iconst (v := 2) dX12_gainOf_22 (by decide) ?_
    refine ck_icmp_ne (tgt := 32) dX12_gainOf_23 (by decide) (fun c5 => ?_) (fun c5 => ?_)
    · have hq := hq.1 c5
      refine ck_iconst (v := 0) dX12_gainOf_32 (by decide) ?_
      exact ck_iret rfl rfl rfl rfl dX12_gainOf_33 ⟨_, rfl, rfl, hq⟩
    · have hq := hq.2 c5
      refine ck_iload_n 0 dX12_gainOf_26 rfl rfl ?_
      refine ck_iconst (v := 2) dX12_gainOf_27 (by decide) ?_
      refine ck_idiv dX12_gainOf_28 (by decide) ?_
      refine ck_goto (tgt := 33) dX12_gainOf_29 (by decide) ?_
      exact ck_iret rfl rfl rfl rfl dX12_gainOf_33 ⟨_, rfl, rfl, hq⟩
  · have hq := hq.2 c4
    refine ck_iload_n 0 dX12_gainOf_17 rfl rfl ?_
    refine ck_goto (tgt := 33) dX12_gainOf_18 (by decide) ?_
    exact ck_iret rfl rfl rfl rfl dX12_gainOf_33 ⟨_, rfl, rfl, hq⟩
def wp_X12_suit_27 (Q : Int32 → ck_H → Prop) (x1 : Int32) (x2 : Int32) (y1 : Int32) (h : ck_H) : Prop := (∀ h5, h5 = ck_sI h 0 0 y1 → (((h5.1 0 0) = 0 → ((x2 = 0 → (vp_in x1 230 ∧ Q (h5.1 26 x1.toNatClampNeg) h5)) ∧ (¬ x2 = 0 → ((x2 = 1 → (vp_in x1 20 ∧ Q (h5.1 12 x1.toNatClampNeg) h5)) ∧ (¬ x2 = 1 → ((x2 = 2 → (vp_in x1 230 ∧ Q (h5.1 27 x1.toNatClampNeg) h5)) ∧ (¬ x2 = 2 → ((x2 = 3 → Q (((h5.1 22 0) >>> (x1 &&& 31)) &&& (1 : Int32)) h5) ∧ (¬ x2 = 3 → ((x2 = 4 → (vp_in x1 230 ∧ Q (h5.1 28 x1.toNatClampNeg) h5)) ∧ (¬ x2 = 4 → (vp_in x1 230 ∧ (wp_X12_gainOf x1 (h5.1 28 x1.toNatClampNeg) h5 (fun r18 h17 => Q r18 h17)))))))))))))) ∧ (¬ (h5.1 0 0) = 0 → Q (0 : Int32) h5)))
def wp_X12_suit_22 (Q : Int32 → ck_H → Prop) (x1 : Int32) (x2 : Int32) (h : ck_H) : Prop := wp_X12_suit_27 Q x1 x2 (2 : Int32) h
def wp_X12_suit (x1 : Int32) (x2 : Int32) (h : ck_H) (Q : Int32 → ck_H → Prop) : Prop := (wp_X12_isSuit x1 h (fun r2 h1 => ((¬ r2 = 0 → ((x2 < 0 → wp_X12_suit_22 Q x1 x2 h1) ∧ (¬ x2 < 0 → ((x2 ≤ (5 : Int32) → wp_X12_suit_27 Q x1 x2 (0 : Int32) h1) ∧ (¬ x2 ≤ (5 : Int32) → wp_X12_suit_22 Q x1 x2 h1))))) ∧ (r2 = 0 → wp_X12_suit_27 Q x1 x2 (1 : Int32) h1))))
set_option maxHeartbeats 4000000 in
set_option maxRecDepth 100000 in
theorem cp_X12_suit_27 {gr : Bool} {Q : Int32 → ck_H → Prop} : ∀ (x1 : Int32) (x2 : Int32) (y1 : Int32) (h : ck_H), wp_X12_suit_27 Q x1 x2 y1 h → ck_W cX12_suit 3 RX12 (some .int) 3 0 0 false gr (ck_Qi ck_shM Q) ck_shM h 0 0 27 [(0, .ref 0), (1, .int x1), (2, .int x2)] [.int y1, .ref 0] := by
  intro x1 x2 y1 h hq
  refine ck_putI clX12 0 rfl rfl (by decide) fl_X12_145 rfl rfl rfl dX12_suit_27 ?_
  refine ck_nmH (fun h5 eh5 => ?_)
  have hq := hq h5 eh5
  refine ck_aload_n 0 dX12_suit_30 rfl rfl ?_
  refine ck_getI clX12 0 rfl rfl (by decide) fl_X12_145 dX12_suit_31 ?_
  refine ck_if_eq (tgt := 39) dX12_suit_34 (by decide) (fun c6 => ?_) (fun c6 => ?_)
  · have hq := hq.1 c6
    refine ck_iload_n 2 dX12_suit_39 rfl rfl ?_
    by_cases c7 : x2 = 0
    · have hq := hq.1 c7
      refine ck_tabIn (tgt := 76) dX12_suit_40 (by rw [c7]; decide) (by rw [c7]; decide) (by rw [c7]; rfl) (by decide) ?_
      refine ck_aload_n 0 dX12_suit_76 rfl rfl ?_
      refine ck_getR clX12 41 rfl rfl (by decide) fl_X12_90 dX12_suit_77 ?_
      refine ck_iload_n 1 dX12_suit_80 rfl rfl ?_
      obtain ⟨b8, hq⟩ := hq
      refine ck_iald rfl rfl b8 dX12_suit_81 ?_
      exact ck_iret rfl rfl rfl rfl dX12_suit_82 ⟨_, rfl, rfl, hq⟩
    have hq := hq.2 c7
    by_cases c9 : x2 = 1
    · have hq := hq.1 c9
      refine ck_tabIn (tgt := 83) dX12_suit_40 (by rw [c9]; decide) (by rw [c9]; decide) (by rw [c9]; rfl) (by decide) ?_
      refine ck_aload_n 0 dX12_suit_83 rfl rfl ?_
      refine ck_getR clX12 13 rfl rfl (by decide) fl_X12_43 dX12_suit_84 ?_
      refine ck_iload_n 1 dX12_suit_87 rfl rfl ?_
      obtain ⟨b10, hq⟩ := hq
      refine ck_iald rfl rfl b10 dX12_suit_88 ?_
      exact ck_iret rfl rfl rfl rfl dX12_suit_89 ⟨_, rfl, rfl, hq⟩
    have hq := hq.2 c9
    by_cases c11 : x2 = 2
    · have hq := hq.1 c11
      refine ck_tabIn (tgt := 90) dX12_suit_40 (by rw [c11]; decide) (by rw [c11]; decide) (by rw [c11]; rfl) (by decide) ?_
      refine ck_aload_n 0 dX12_suit_90 rfl rfl ?_
      refine ck_getR clX12 42 rfl rfl (by decide) fl_X12_93 dX12_suit_91 ?_
      refine ck_iload_n 1 dX12_suit_94 rfl rfl ?_
      obtain ⟨b12, hq⟩ := hq
      refine ck_iald rfl rfl b12 dX12_suit_95 ?_
      exact ck_iret rfl rfl rfl rfl dX12_suit_96 ⟨_, rfl, rfl, hq⟩
    have hq := hq.2 c11
    by_cases c13 : x2 = 3
    · have hq := hq.1 c13
      refine ck_tabIn (tgt := 97) dX12_suit_40 (by rw [c13]; decide) (by rw [c13]; decide) (by rw [c13]; rfl) (by decide) ?_
      refine ck_aload_n 0 dX12_suit_97 rfl rfl ?_
      refine ck_getR clX12 37 rfl rfl (by decide) fl_X12_78 dX12_suit_98 ?_
      refine ck_iconst (v := 0) dX12_suit_101 (by decide) ?_
      refine ck_iald (j := 0) (by decide) rfl (ck_inL (by decide)) dX12_suit_102 ?_
      refine ck_iload_n 1 dX12_suit_103 rfl rfl ?_
      refine ck_ishr dX12_suit_104 ?_
      refine ck_iconst (v := 1) dX12_suit_105 (by decide) ?_
      refine ck_iand dX12_suit_106 ?_
      exact ck_iret rfl rfl rfl rfl dX12_suit_107 ⟨_, rfl, rfl, hq⟩
    have hq := hq.2 c13
    by_cases c14 : x2 = 4
    · have hq := hq.1 c14
      refine ck_tabIn (tgt := 108) dX12_suit_40 (by rw [c14]; decide) (by rw [c14]; decide) (by rw [c14]; rfl) (by decide) ?_
      refine ck_aload_n 0 dX12_suit_108 rfl rfl ?_
      refine ck_getR clX12 43 rfl rfl (by decide) fl_X12_96 dX12_suit_109 ?_
      refine ck_iload_n 1 dX12_suit_112 rfl rfl ?_
      obtain ⟨b15, hq⟩ := hq
      refine ck_iald rfl rfl b15 dX12_suit_113 ?_
      exact ck_iret rfl rfl rfl rfl dX12_suit_114 ⟨_, rfl, rfl, hq⟩
    have hq := hq.2 c14
    refine ck_tabOut (tgt := 115) dX12_suit_40 (by have z0 := lv_neT c7 (a := 0) (by decide); have z1 := lv_neT c9 (a := 1) (by decide); have z2 := lv_neT c11 (a := 2) (by decide); have z3 := lv_neT c13 (a := 3) (by decide); have z4 := lv_neT c14 (a := 4) (by decide); omega) (by decide) ?_
    refine ck_aload_n 0 dX12_suit_115 rfl rfl ?_
    refine ck_iload_n 1 dX12_suit_116 rfl rfl ?_
    refine ck_aload_n 0 dX12_suit_117 rfl rfl ?_
    refine ck_getR clX12 43 rfl rfl (by decide) fl_X12_96 dX12_suit_118 ?_
    refine ck_iload_n 1 dX12_suit_121 rfl rfl ?_
    obtain ⟨b16, hq⟩ := hq
    refine ck_iald rfl rfl b16 dX12_suit_122 ?_
    refine ck_callV (c_X12_gainOf hq) rfl cal_X12_gainOf rfl ml_X12_398 vir_X12_gainOf rfl rfl (by decide) (Nat.le_of_ble_eq_true rfl) (Nat.le_of_ble_eq_true rfl) (by decide) (by decide) dX12_suit_123 ?_
    rintro _ _ h17 ⟨r18, rfl, rfl, hq⟩
    exact ck_iret rfl rfl rfl rfl dX12_suit_126 ⟨_, rfl, rfl, hq⟩
  · have hq := hq.2 c6
    refine ck_iconst (v := 0) dX12_suit_37 (by decide) ?_
    exact ck_iret rfl rfl rfl rfl dX12_suit_38 ⟨_, rfl, rfl, hq⟩
set_option maxHeartbeats 4000000 in
set_option maxRecDepth 100000 in
theorem cp_X12_suit_22 {gr : Bool} {Q : Int32 → ck_H → Prop} : ∀ (x1 : Int32) (x2 : Int32) (h : ck_H), wp_X12_suit_22 Q x1 x2 h → ck_W cX12_suit 3 RX12 (some .int) 3 0 0 false gr (ck_Qi ck_shM Q) ck_shM h 0 0 22 [(0, .ref 0), (1, .int x1), (2, .int x2)] [.ref 0] := by
  intro x1 x2 h hq
  refine ck_iconst (v := 2) dX12_suit_22 (by decide) ?_
  refine ck_goto (tgt := 27) dX12_suit_23 (by decide) ?_
  exact cp_X12_suit_27 _ _ _ _ hq
set_option maxHeartbeats 4000000 in
set_option maxRecDepth 100000 in
theorem c_X12_suit {gr : Bool} {x1 : Int32} {x2 : Int32} {h : ck_H} {Q : Int32 → ck_H → Prop} (hq : wp_X12_suit x1 x2 h Q) : ck_M yX12_suit cX12_suit 3 (some .int) 3 0 0 gr ck_shM h [.ref 0, .int x1, .int x2] (ck_Qi ck_shM Q) := by
  refine ck_entry (lv := [(0, .ref 0), (1, .int x1), (2, .int x2)]) false (own := RX12) rfl (fun q => by cases q) (by decide) (Nat.le_of_ble_eq_true rfl) rfl ?_
  refine ck_aload_n 0 dX12_suit_0 rfl rfl ?_
  refine ck_aload_n 0 dX12_suit_1 rfl rfl ?_
  refine ck_iload_n 1 dX12_suit_2 rfl rfl ?_
  refine ck_callV (c_X12_isSuit hq) rfl cal_X12_isSuit rfl ml_X12_401 vir_X12_isSuit rfl rfl (by decide) (Nat.le_of_ble_eq_true rfl) (Nat.le_of_ble_eq_true rfl) (by decide) (by decide) dX12_suit_3 ?_
  rintro _ _ h1 ⟨r2, rfl, rfl, hq⟩
  refine ck_if_ne (tgt := 13) dX12_suit_6 (by decide) (fun c3 => ?_) (fun c3 => ?_)
  · have hq := hq.1 c3
    refine ck_iload_n 2 dX12_suit_13 rfl rfl ?_
    refine ck_if_lt (tgt := 22) dX12_suit_14 (by decide) (fun c4 => ?_) (fun c4 => ?_)
    · have hq := hq.1 c4
      exact cp_X12_suit_22 _ _ _ hq
    · have hq := hq.2 c4
      refine ck_iload_n 2 dX12_suit_17 rfl rfl ?_
      refine ck_iconst (v := 5) dX12_suit_18 (by decide) ?_
      refine ck_icmp_le (tgt := 26) dX12_suit_19 (by decide) (fun c19 => ?_) (fun c19 => ?_)
      · have hq := hq.1 c19
        refine ck_iconst (v := 0) dX12_suit_26 (by decide) ?_
        exact cp_X12_suit_27 _ _ _ _ hq
      · have hq := hq.2 c19
        exact cp_X12_suit_22 _ _ _ hq
  · have hq := hq.2 c3
    refine ck_iconst (v := 1) dX12_suit_9 (by decide) ?_
    refine ck_goto (tgt := 27) dX12_suit_10 (by decide) ?_
    exact cp_X12_suit_27 _ _ _ _ hq
def wp_X12_isJudge (x1 : Int32) (h : ck_H) (Q : Int32 → ck_H → Prop) : Prop := ((x1 < 0 → Q (0 : Int32) h) ∧ (¬ x1 < 0 → (((h.1 2 0) ≤ x1 → Q (0 : Int32) h) ∧ (¬ (h.1 2 0) ≤ x1 → Q (1 : Int32) h))))
set_option maxHeartbeats 4000000 in
set_option maxRecDepth 100000 in
theorem c_X12_isJudge {gr : Bool} {x1 : Int32} {h : ck_H} {Q : Int32 → ck_H → Prop} (hq : wp_X12_isJudge x1 h Q) : ck_M yX12_isJudge cX12_isJudge 2 (some .boolean) 2 0 0 gr ck_shM h [.ref 0, .int x1] (ck_Qi ck_shM Q) := by
  refine ck_entry (lv := [(0, .ref 0), (1, .int x1)]) false (own := RX12) rfl (fun q => by cases q) (by decide) (Nat.le_of_ble_eq_true rfl) rfl ?_
  refine ck_iload_n 1 dX12_isJudge_0 rfl rfl ?_
  refine ck_if_lt (tgt := 18) dX12_isJudge_1 (by decide) (fun c1 => ?_) (fun c1 => ?_)
  · have hq := hq.1 c1
    refine ck_iconst (v := 0) dX12_isJudge_18 (by decide) ?_
    exact ck_iret rfl (by decide) rfl rfl dX12_isJudge_19 ⟨_, rfl, rfl, hq⟩
  · have hq := hq.2 c1
    refine ck_iload_n 1 dX12_isJudge_4 rfl rfl ?_
    refine ck_aload_n 0 dX12_isJudge_5 rfl rfl ?_
    refine ck_getR clX12 3 rfl rfl (by decide) fl_X12_13 dX12_isJudge_6 ?_
    refine ck_iconst (v := 0) dX12_isJudge_9 (by decide) ?_
    refine ck_iald (j := 0) (by decide) rfl (ck_inL (by decide)) dX12_isJudge_10 ?_
    refine ck_icmp_ge (tgt := 18) dX12_isJudge_11 (by decide) (fun c2 => ?_) (fun c2 => ?_)
    · have hq := hq.1 c2
      refine ck_iconst (v := 0) dX12_isJudge_18 (by decide) ?_
      exact ck_iret rfl (by decide) rfl rfl dX12_isJudge_19 ⟨_, rfl, rfl, hq⟩
    · have hq := hq.2 c2
      refine ck_iconst (v := 1) dX12_isJudge_14 (by decide) ?_
      refine ck_goto (tgt := 19) dX12_isJudge_15 (by decide) ?_
      exact ck_iret rfl (by decide) rfl rfl dX12_isJudge_19 ⟨_, rfl, rfl, hq⟩
def wp_X12_isOpen (x1 : Int32) (x2 : Int32) (h : ck_H) (Q : Int32 → ck_H → Prop) : Prop := (vp_in (((10 : Int32) * x1) + x2) 230 ∧ ((¬ (h.1 28 (((10 : Int32) * x1) + x2).toNatClampNeg) = (-1 : Int32) → Q (0 : Int32) h) ∧ ((h.1 28 (((10 : Int32) * x1) + x2).toNatClampNeg) = (-1 : Int32) → Q (1 : Int32) h)))
set_option maxHeartbeats 4000000 in
set_option maxRecDepth 100000 in
theorem c_X12_isOpen {gr : Bool} {x1 : Int32} {x2 : Int32} {h : ck_H} {Q : Int32 → ck_H → Prop} (hq : wp_X12_isOpen x1 x2 h Q) : ck_M yX12_isOpen cX12_isOpen 3 (some .boolean) 2 0 0 gr ck_shM h [.ref 0, .int x1, .int x2] (ck_Qi ck_shM Q) := by
  refine ck_entry (lv := [(0, .ref 0), (1, .int x1), (2, .int x2)]) false (own := RX12) rfl (fun q => by cases q) (by decide) (Nat.le_of_ble_eq_true rfl) rfl ?_
  refine ck_aload_n 0 dX12_isOpen_0 rfl rfl ?_
  refine ck_getR clX12 43 rfl rfl (by decide) fl_X12_96 dX12_isOpen_1 ?_
  refine ck_bipush (v := 10) dX12_isOpen_4 (by decide) ?_
  refine ck_iload_n 1 dX12_isOpen_6 rfl rfl ?_
  refine ck_imul dX12_isOpen_7 ?_
  refine ck_iload_n 2 dX12_isOpen_8 rfl rfl ?_
  refine ck_iadd dX12_isOpen_9 ?_
  obtain ⟨b1, hq⟩ := hq
  refine ck_iald rfl rfl b1 dX12_isOpen_10 ?_
  refine ck_iconst (v := -1) dX12_isOpen_11 (by decide) ?_
  refine ck_icmp_ne (tgt := 19) dX12_isOpen_12 (by decide) (fun c2 => ?_) (fun c2 => ?_)
  · have hq := hq.1 c2
    refine ck_iconst (v := 0) dX12_isOpen_19 (by decide) ?_
    exact ck_iret rfl (by decide) rfl rfl dX12_isOpen_20 ⟨_, rfl, rfl, hq⟩
  · have hq := hq.2 c2
    refine ck_iconst (v := 1) dX12_isOpen_15 (by decide) ?_
    refine ck_goto (tgt := 20) dX12_isOpen_16 (by decide) ?_
    exact ck_iret rfl (by decide) rfl rfl dX12_isOpen_20 ⟨_, rfl, rfl, hq⟩
def wp_X12_triedBy_71 (Q : Int32 → ck_H → Prop) (Kc : Int32 → Int32 → Int32 → Int32 → ck_H → Prop) (x1 : Int32) (x2 : Int32) (x4 : Int32) (y0 : Int32) (y1 : Int32) (h : ck_H) : Prop := (∀ v5, v5 = (y0 + y1) → (∀ v6, v6 = x4 + 1 → Kc x1 x2 v5 v6 h))
def wp_X12_triedBy_58 (Q : Int32 → ck_H → Prop) (Kc : Int32 → Int32 → Int32 → Int32 → ck_H → Prop) (x1 : Int32) (x2 : Int32) (x3 : Int32) (x4 : Int32) (y0 : Int32) (h : ck_H) : Prop := ((y0 = 0 → wp_X12_triedBy_71 Q Kc x1 x2 x4 x3 (0 : Int32) h) ∧ (¬ y0 = 0 → wp_X12_triedBy_71 Q Kc x1 x2 x4 x3 (1 : Int32) h))
def wp_X12_triedBy_57 (Q : Int32 → ck_H → Prop) (Kc : Int32 → Int32 → Int32 → Int32 → ck_H → Prop) (x1 : Int32) (x2 : Int32) (x3 : Int32) (x4 : Int32) (h : ck_H) : Prop := wp_X12_triedBy_58 Q Kc x1 x2 x3 x4 (0 : Int32) h
def wp_X12_triedBy_53 (Q : Int32 → ck_H → Prop) (Kc : Int32 → Int32 → Int32 → Int32 → ck_H → Prop) (x1 : Int32) (x2 : Int32) (x3 : Int32) (x4 : Int32) (h : ck_H) : Prop := wp_X12_triedBy_58 Q Kc x1 x2 x3 x4 (1 : Int32) h
def wp_X12_triedBy_5 (Q : Int32 → ck_H → Prop) : Nat → Int32 → Int32 → Int32 → Int32 → ck_H → Prop
  | 0 => fun _ _ _ _ _ => False
  | n + 1 => fun x1 x2 x3 x4 h => (((h.1 2 2) ≤ x4 → Q x3 h) ∧ (¬ (h.1 2 2) ≤ x4 → (vp_in x4 230 ∧ ((¬ (h.1 26 x4.toNatClampNeg) = x1 → wp_X12_triedBy_57 Q (wp_X12_triedBy_5 Q n) x1 x2 x3 x4 h) ∧ ((h.1 26 x4.toNatClampNeg) = x1 → (wp_X12_isOpen (0 : Int32) x4 h (fun r8 h7 => ((¬ r8 = 0 → wp_X12_triedBy_57 Q (wp_X12_triedBy_5 Q n) x1 x2 x3 x4 h7) ∧ (r8 = 0 → ((x2 = (-1 : Int32) → wp_X12_triedBy_53 Q (wp_X12_triedBy_5 Q n) x1 x2 x3 x4 h7) ∧ (¬ x2 = (-1 : Int32) → (vp_in x4 230 ∧ ((¬ (h7.1 28 x4.toNatClampNeg) = x2 → wp_X12_triedBy_57 Q (wp_X12_triedBy_5 Q n) x1 x2 x3 x4 h7) ∧ ((h7.1 28 x4.toNatClampNeg) = x2 → wp_X12_triedBy_53 Q (wp_X12_triedBy_5 Q n) x1 x2 x3 x4 h7))))))))))))))
def wp_X12_triedBy (x1 : Int32) (x2 : Int32) (h : ck_H) (Q : Int32 → ck_H → Prop) : Prop := wp_X12_triedBy_5 Q lpN x1 x2 (0 : Int32) (0 : Int32) h
set_option maxHeartbeats 4000000 in
set_option maxRecDepth 100000 in
theorem cp_X12_triedBy_71 {gr : Bool} {Q : Int32 → ck_H → Prop} {Kc : Int32 → Int32 → Int32 → Int32 → ck_H → Prop} (hKc : ∀ (x1 : Int32) (x2 : Int32) (x3 : Int32) (x4 : Int32) (h : ck_H), Kc x1 x2 x3 x4 h → ck_W cX12_triedBy 6 RX12 (some .int) 3 0 0 false gr (ck_Qi ck_shM Q) ck_shM h 0 0 5 [(0, .ref 0), (1, .int x1), (2, .int x2), (3, .int x3), (4, .int x4)] []) : ∀ (x1 : Int32) (x2 : Int32) (x4 : Int32) (y0 : Int32) (y1 : Int32) (h : ck_H), wp_X12_triedBy_71 Q Kc x1 x2 x4 y0 y1 h → ck_W cX12_triedBy 6 RX12 (some .int) 3 0 0 false gr (ck_Qi ck_shM Q) ck_shM h 0 0 71 [(0, .ref 0), (1, .int x1), (2, .int x2), (4, .int x4)] [.int y1, .int y0] := by
  intro x1 x2 x4 y0 y1 h hq
  refine ck_iadd dX12_triedBy_71 ?_
  refine ck_nmI (fun v5 ev5 => ?_)
  have hq := hq v5 ev5
  refine ck_istore_n (lv' := [(3, .int v5), (0, .ref 0), (1, .int x1), (2, .int x2), (4, .int x4)]) dX12_triedBy_72 rfl (by decide) rfl ?_
  obtain ⟨v6, ev6⟩ : ∃ z : Int32, z = x4 + 1 := ⟨_, rfl⟩
  have hq := hq v6 ev6
  refine ck_iinc (v := v6) (lv' := [(4, .int v6), (3, .int v5), (0, .ref 0), (1, .int x1), (2, .int x2)]) 4 dX12_triedBy_73 rfl (by rw [ev6]; rfl) (by decide) rfl ?_
  refine ck_goto (tgt := 5) dX12_triedBy_76 (by decide) ?_
  refine ck_loc [2, 3, 4, 1, 0] rfl ?_
  exact hKc _ _ _ _ _ hq
set_option maxHeartbeats 4000000 in
set_option maxRecDepth 100000 in
theorem cp_X12_triedBy_58 {gr : Bool} {Q : Int32 → ck_H → Prop} {Kc : Int32 → Int32 → Int32 → Int32 → ck_H → Prop} (hKc : ∀ (x1 : Int32) (x2 : Int32) (x3 : Int32) (x4 : Int32) (h : ck_H), Kc x1 x2 x3 x4 h → ck_W cX12_triedBy 6 RX12 (some .int) 3 0 0 false gr (ck_Qi ck_shM Q) ck_shM h 0 0 5 [(0, .ref 0), (1, .int x1), (2, .int x2), (3, .int x3), (4, .int x4)] []) : ∀ (x1 : Int32) (x2 : Int32) (x3 : Int32) (x4 : Int32) (y0 : Int32) (h : ck_H), wp_X12_triedBy_58 Q Kc x1 x2 x3 x4 y0 h → ck_W cX12_triedBy 6 RX12 (some .int) 3 0 0 false gr (ck_Qi ck_shM Q) ck_shM h 0 0 58 [(0, .ref 0), (1, .int x1), (2, .int x2), (3, .int x3), (4, .int x4)] [.int y0] := by
  intro x1 x2 x3 x4 y0 h hq
  refine ck_istore (lv' := [(5, .int y0), (0, .ref 0), (1, .int x1), (2, .int x2), (3, .int x3), (4, .int x4)]) dX12_triedBy_58 (by decide) rfl ?_
  refine ck_iload_n 4 dX12_triedBy_60 rfl rfl ?_
  refine ck_iload 0 dX12_triedBy_61 rfl ?_
  refine ck_if_eq (tgt := 70) dX12_triedBy_63 (by decide) (fun c4 => ?_) (fun c4 => ?_)
  · have hq := hq.1 c4
    refine ck_iconst (v := 0) dX12_triedBy_70 (by decide) ?_
    refine ck_loc [1, 2, 3, 5] rfl ?_
    exact cp_X12_triedBy_71 hKc _ _ _ _ _ _ hq
  · have hq := hq.2 c4
    refine ck_iconst (v := 1) dX12_triedBy_66 (by decide) ?_
    refine ck_goto (tgt := 71) dX12_triedBy_67 (by decide) ?_
    refine ck_loc [1, 2, 3, 5] rfl ?_
    exact cp_X12_triedBy_71 hKc _ _ _ _ _ _ hq
set_option maxHeartbeats 4000000 in
set_option maxRecDepth 100000 in
theorem cp_X12_triedBy_57 {gr : Bool} {Q : Int32 → ck_H → Prop} {Kc : Int32 → Int32 → Int32 → Int32 → ck_H → Prop} (hKc : ∀ (x1 : Int32) (x2 : Int32) (x3 : Int32) (x4 : Int32) (h : ck_H), Kc x1 x2 x3 x4 h → ck_W cX12_triedBy 6 RX12 (some .int) 3 0 0 false gr (ck_Qi ck_shM Q) ck_shM h 0 0 5 [(0, .ref 0), (1, .int x1), (2, .int x2), (3, .int x3), (4, .int x4)] []) : ∀ (x1 : Int32) (x2 : Int32) (x3 : Int32) (x4 : Int32) (h : ck_H), wp_X12_triedBy_57 Q Kc x1 x2 x3 x4 h → ck_W cX12_triedBy 6 RX12 (some .int) 3 0 0 false gr (ck_Qi ck_shM Q) ck_shM h 0 0 57 [(0, .ref 0), (1, .int x1), (2, .int x2), (3, .int x3), (4, .int x4)] [] := by
  intro x1 x2 x3 x4 h hq
  refine ck_iconst (v := 0) dX12_triedBy_57 (by decide) ?_
  exact cp_X12_triedBy_58 hKc _ _ _ _ _ _ hq
set_option maxHeartbeats 4000000 in
set_option maxRecDepth 100000 in
theorem cp_X12_triedBy_53 {gr : Bool} {Q : Int32 → ck_H → Prop} {Kc : Int32 → Int32 → Int32 → Int32 → ck_H → Prop} (hKc : ∀ (x1 : Int32) (x2 : Int32) (x3 : Int32) (x4 : Int32) (h : ck_H), Kc x1 x2 x3 x4 h → ck_W cX12_triedBy 6 RX12 (some .int) 3 0 0 false gr (ck_Qi ck_shM Q) ck_shM h 0 0 5 [(0, .ref 0), (1, .int x1), (2, .int x2), (3, .int x3), (4, .int x4)] []) : ∀ (x1 : Int32) (x2 : Int32) (x3 : Int32) (x4 : Int32) (h : ck_H), wp_X12_triedBy_53 Q Kc x1 x2 x3 x4 h → ck_W cX12_triedBy 6 RX12 (some .int) 3 0 0 false gr (ck_Qi ck_shM Q) ck_shM h 0 0 53 [(0, .ref 0), (1, .int x1), (2, .int x2), (3, .int x3), (4, .int x4)] [] := by
  intro x1 x2 x3 x4 h hq
  refine ck_iconst (v := 1) dX12_triedBy_53 (by decide) ?_
  refine ck_goto (tgt := 58) dX12_triedBy_54 (by decide) ?_
  exact cp_X12_triedBy_58 hKc _ _ _ _ _ _ hq
set_option maxHeartbeats 4000000 in
set_option maxRecDepth 100000 in
theorem cp_X12_triedBy_5 {gr : Bool} {Q : Int32 → ck_H → Prop} : ∀ (n : Nat) (x1 : Int32) (x2 : Int32) (x3 : Int32) (x4 : Int32) (h : ck_H), wp_X12_triedBy_5 Q n x1 x2 x3 x4 h → ck_W cX12_triedBy 6 RX12 (some .int) 3 0 0 false gr (ck_Qi ck_shM Q) ck_shM h 0 0 5 [(0, .ref 0), (1, .int x1), (2, .int x2), (3, .int x3), (4, .int x4)] [] := by
  intro n
  induction n with
  | zero => intro x1 x2 x3 x4 h hq; exact hq.elim
  | succ n hKc =>
    intro x1 x2 x3 x4 h hq
    refine ck_iload 4 dX12_triedBy_5 rfl ?_
    refine ck_aload_n 0 dX12_triedBy_7 rfl rfl ?_
    refine ck_getR clX12 3 rfl rfl (by decide) fl_X12_13 dX12_triedBy_8 ?_
    refine ck_iconst (v := 2) dX12_triedBy_11 (by decide) ?_
    refine ck_iald (j := 2) (by decide) rfl (ck_inL (by decide)) dX12_triedBy_12 ?_
    refine ck_icmp_ge (tgt := 79) dX12_triedBy_13 (by decide) (fun c1 => ?_) (fun c1 => ?_)
    · have hq := hq.1 c1
      refine ck_iload_n 3 dX12_triedBy_79 rfl rfl ?_
      exact ck_iret rfl rfl rfl rfl dX12_triedBy_80 ⟨_, rfl, rfl, hq⟩
    · have hq := hq.2 c1
      refine ck_aload_n 0 dX12_triedBy_16 rfl rfl ?_
      refine ck_getR clX12 41 rfl rfl (by decide) fl_X12_90 dX12_triedBy_17 ?_
      refine ck_iload 4 dX12_triedBy_20 rfl ?_
      obtain ⟨b2, hq⟩ := hq
      refine ck_iald rfl rfl b2 dX12_triedBy_22 ?_
      refine ck_iload_n 1 dX12_triedBy_23 rfl rfl ?_
      refine ck_icmp_ne (tgt := 57) dX12_triedBy_24 (by decide) (fun c3 => ?_) (fun c3 => ?_)
      · have hq := hq.1 c3
        exact cp_X12_triedBy_57 hKc _ _ _ _ _ hq
      · have hq := hq.2 c3
        refine ck_aload_n 0 dX12_triedBy_27 rfl rfl ?_
        refine ck_iconst (v := 0) dX12_triedBy_28 (by decide) ?_
        refine ck_iload 4 dX12_triedBy_29 rfl ?_
        refine ck_callV (c_X12_isOpen hq) rfl cal_X12_isOpen rfl ml_X12_379 vir_X12_isOpen rfl rfl (by decide) (Nat.le_of_ble_eq_true rfl) (Nat.le_of_ble_eq_true rfl) (by decide) (by decide) dX12_triedBy_31 ?_
        rintro _ _ h7 ⟨r8, rfl, rfl, hq⟩
        refine ck_if_ne (tgt := 57) dX12_triedBy_34 (by decide) (fun c9 => ?_) (fun c9 => ?_)
        · have hq := hq.1 c9
          exact cp_X12_triedBy_57 hKc _ _ _ _ _ hq
        · have hq := hq.2 c9
          refine ck_iload_n 2 dX12_triedBy_37 rfl rfl ?_
          refine ck_iconst (v := -1) dX12_triedBy_38 (by decide) ?_
          refine ck_icmp_eq (tgt := 53) dX12_triedBy_39 (by decide) (fun c10 => ?_) (fun c10 => ?_)
          · have hq := hq.1 c10
            exact cp_X12_triedBy_53 hKc _ _ _ _ _ hq
          · have hq := hq.2 c10
            refine ck_aload_n 0 dX12_triedBy_42 rfl rfl ?_
            refine ck_getR clX12 43 rfl rfl (by decide) fl_X12_96 dX12_triedBy_43 ?_
            refine ck_iload 4 dX12_triedBy_46 rfl ?_
            obtain ⟨b11, hq⟩ := hq
            refine ck_iald rfl rfl b11 dX12_triedBy_48 ?_
            refine ck_iload_n 2 dX12_triedBy_49 rfl rfl ?_
            refine ck_icmp_ne (tgt := 57) dX12_triedBy_50 (by decide) (fun c12 => ?_) (fun c12 => ?_)
            · have hq := hq.1 c12
              exact cp_X12_triedBy_57 hKc _ _ _ _ _ hq
            · have hq := hq.2 c12
              exact cp_X12_triedBy_53 hKc _ _ _ _ _ hq
set_option maxHeartbeats 4000000 in
set_option maxRecDepth 100000 in
theorem c_X12_triedBy {gr : Bool} {x1 : Int32} {x2 : Int32} {h : ck_H} {Q : Int32 → ck_H → Prop} (hq : wp_X12_triedBy x1 x2 h Q) : ck_M yX12_triedBy cX12_triedBy 6 (some .int) 3 0 0 gr ck_shM h [.ref 0, .int x1, .int x2] (ck_Qi ck_shM Q) := by
  refine ck_entry (lv := [(0, .ref 0), (1, .int x1), (2, .int x2)]) false (own := RX12) rfl (fun q => by cases q) (by decide) (Nat.le_of_ble_eq_true rfl) rfl ?_
  refine ck_iconst (v := 0) dX12_triedBy_0 (by decide) ?_
  refine ck_istore_n (lv' := [(3, .int (0 : Int32)), (0, .ref 0), (1, .int x1), (2, .int x2)]) dX12_triedBy_1 rfl (by decide) rfl ?_
  refine ck_iconst (v := 0) dX12_triedBy_2 (by decide) ?_
  refine ck_istore (lv' := [(4, .int (0 : Int32)), (3, .int (0 : Int32)), (0, .ref 0), (1, .int x1), (2, .int x2)]) dX12_triedBy_3 (by decide) rfl ?_
  refine ck_loc [2, 3, 4, 1, 0] rfl ?_
  refine cp_X12_triedBy_5 lpN _ _ _ _ _ hq
def wp_X12_judge (x1 : Int32) (x2 : Int32) (h : ck_H) (Q : Int32 → ck_H → Prop) : Prop := (∀ h1, h1 = ck_sI h 0 0 (0 : Int32) → (wp_X12_isJudge x1 h1 (fun r3 h2 => ((¬ r3 = 0 → ((x2 = 0 → (vp_in x1 8 ∧ Q (h2.1 4 x1.toNatClampNeg) h2)) ∧ (¬ x2 = 0 → ((x2 = 1 → (vp_in x1 92 ∧ Q (h2.1 24 x1.toNatClampNeg) h2)) ∧ (¬ x2 = 1 → ((x2 = 2 → (wp_X12_triedBy x1 (-1 : Int32) h2 (fun r11 h10 => Q r11 h10))) ∧ (¬ x2 = 2 → ((x2 = 3 → (wp_X12_triedBy x1 (1 : Int32) h2 (fun r14 h13 => Q r14 h13))) ∧ (¬ x2 = 3 → Q (-1 : Int32) h2))))))))) ∧ (r3 = 0 → Q (-1 : Int32) h2)))))
set_option maxHeartbeats 4000000 in
set_option maxRecDepth 100000 in
theorem c_X12_judge {gr : Bool} {x1 : Int32} {x2 : Int32} {h : ck_H} {Q : Int32 → ck_H → Prop} (hq : wp_X12_judge x1 x2 h Q) : ck_M yX12_judge cX12_judge 3 (some .int) 4 0 0 gr ck_shM h [.ref 0, .int x1, .int x2] (ck_Qi ck_shM Q) := by
  refine ck_entry (lv := [(0, .ref 0), (1, .int x1), (2, .int x2)]) false (own := RX12) rfl (fun q => by cases q) (by decide) (Nat.le_of_ble_eq_true rfl) rfl ?_
  refine ck_aload_n 0 dX12_judge_0 rfl rfl ?_
  refine ck_iconst (v := 0) dX12_judge_1 (by decide) ?_
  refine ck_putI clX12 0 rfl rfl (by decide) fl_X12_145 rfl rfl rfl dX12_judge_2 ?_
  refine ck_nmH (fun h1 eh1 => ?_)
  have hq := hq h1 eh1
  refine ck_aload_n 0 dX12_judge_5 rfl rfl ?_
  refine ck_iload_n 1 dX12_judge_6 rfl rfl ?_
  refine ck_callV (c_X12_isJudge hq) rfl cal_X12_isJudge rfl ml_X12_404 vir_X12_isJudge rfl rfl (by decide) (Nat.le_of_ble_eq_true rfl) (Nat.le_of_ble_eq_true rfl) (by decide) (by decide) dX12_judge_7 ?_
  rintro _ _ h2 ⟨r3, rfl, rfl, hq⟩
  refine ck_if_ne (tgt := 15) dX12_judge_10 (by decide) (fun c4 => ?_) (fun c4 => ?_)
  · have hq := hq.1 c4
    refine ck_iload_n 2 dX12_judge_15 rfl rfl ?_
    by_cases c5 : x2 = 0
    · have hq := hq.1 c5
      refine ck_tabIn (tgt := 48) dX12_judge_16 (by rw [c5]; decide) (by rw [c5]; decide) (by rw [c5]; rfl) (by decide) ?_
      refine ck_aload_n 0 dX12_judge_48 rfl rfl ?_
      refine ck_getR clX12 5 rfl rfl (by decide) fl_X12_19 dX12_judge_49 ?_
      refine ck_iload_n 1 dX12_judge_52 rfl rfl ?_
      obtain ⟨b6, hq⟩ := hq
      refine ck_iald rfl rfl b6 dX12_judge_53 ?_
      exact ck_iret rfl rfl rfl rfl dX12_judge_54 ⟨_, rfl, rfl, hq⟩
    have hq := hq.2 c5
    by_cases c7 : x2 = 1
    · have hq := hq.1 c7
      refine ck_tabIn (tgt := 55) dX12_judge_16 (by rw [c7]; decide) (by rw [c7]; decide) (by rw [c7]; rfl) (by decide) ?_
      refine ck_aload_n 0 dX12_judge_55 rfl rfl ?_
      refine ck_getR clX12 39 rfl rfl (by decide) fl_X12_84 dX12_judge_56 ?_
      refine ck_iload_n 1 dX12_judge_59 rfl rfl ?_
      obtain ⟨b8, hq⟩ := hq
      refine ck_iald rfl rfl b8 dX12_judge_60 ?_
      exact ck_iret rfl rfl rfl rfl dX12_judge_61 ⟨_, rfl, rfl, hq⟩
    have hq := hq.2 c7
    by_cases c9 : x2 = 2
    · have hq := hq.1 c9
      refine ck_tabIn (tgt := 62) dX12_judge_16 (by rw [c9]; decide) (by rw [c9]; decide) (by rw [c9]; rfl) (by decide) ?_
      refine ck_aload_n 0 dX12_judge_62 rfl rfl ?_
      refine ck_iload_n 1 dX12_judge_63 rfl rfl ?_
      refine ck_iconst (v := -1) dX12_judge_64 (by decide) ?_
      refine ck_callV (c_X12_triedBy hq) rfl cal_X12_triedBy rfl ml_X12_407 vir_X12_triedBy rfl rfl (by decide) (Nat.le_of_ble_eq_true rfl) (Nat.le_of_ble_eq_true rfl) (by decide) (by decide) dX12_judge_65 ?_
      rintro _ _ h10 ⟨r11, rfl, rfl, hq⟩
      exact ck_iret rfl rfl rfl rfl dX12_judge_68 ⟨_, rfl, rfl, hq⟩
    have hq := hq.2 c9
    by_cases c12 : x2 = 3
    · have hq := hq.1 c12
      refine ck_tabIn (tgt := 69) dX12_judge_16 (by rw [c12]; decide) (by rw [c12]; decide) (by rw [c12]; rfl) (by decide) ?_
      refine ck_aload_n 0 dX12_judge_69 rfl rfl ?_
      refine ck_iload_n 1 dX12_judge_70 rfl rfl ?_
      refine ck_iconst (v := 1) dX12_judge_71 (by decide) ?_
      refine ck_callV (c_X12_triedBy hq) rfl cal_X12_triedBy rfl ml_X12_407 vir_X12_triedBy rfl rfl (by decide) (Nat.le_of_ble_eq_true rfl) (Nat.le_of_ble_eq_true rfl) (by decide) (by decide) dX12_judge_72 ?_
      rintro _ _ h13 ⟨r14, rfl, rfl, hq⟩
      exact ck_iret rfl rfl rfl rfl dX12_judge_75 ⟨_, rfl, rfl, hq⟩
    have hq := hq.2 c12
    refine ck_tabOut (tgt := 76) dX12_judge_16 (by have z0 := lv_neT c5 (a := 0) (by decide); have z1 := lv_neT c7 (a := 1) (by decide); have z2 := lv_neT c9 (a := 2) (by decide); have z3 := lv_neT c12 (a := 3) (by decide); omega) (by decide) ?_
    refine ck_iconst (v := -1) dX12_judge_76 (by decide) ?_
    exact ck_iret rfl rfl rfl rfl dX12_judge_77 ⟨_, rfl, rfl, hq⟩
  · have hq := hq.2 c4
    refine ck_iconst (v := -1) dX12_judge_13 (by decide) ?_
    exact ck_iret rfl rfl rfl rfl dX12_judge_14 ⟨_, rfl, rfl, hq⟩
def wp_X12_isNut (x1 : Int32) (h : ck_H) (Q : Int32 → ck_H → Prop) : Prop := ((x1 < 0 → Q (0 : Int32) h) ∧ (¬ x1 < 0 → (((h.1 2 1) ≤ x1 → Q (0 : Int32) h) ∧ (¬ (h.1 2 1) ≤ x1 → Q (1 : Int32) h))))
set_option maxHeartbeats 4000000 in
set_option maxRecDepth 100000 in
theorem c_X12_isNut {gr : Bool} {x1 : Int32} {h : ck_H} {Q : Int32 → ck_H → Prop} (hq : wp_X12_isNut x1 h Q) : ck_M yX12_isNut cX12_isNut 2 (some .boolean) 2 0 0 gr ck_shM h [.ref 0, .int x1] (ck_Qi ck_shM Q) := by
  refine ck_entry (lv := [(0, .ref 0), (1, .int x1)]) false (own := RX12) rfl (fun q => by cases q) (by decide) (Nat.le_of_ble_eq_true rfl) rfl ?_
  refine ck_iload_n 1 dX12_isNut_0 rfl rfl ?_
  refine ck_if_lt (tgt := 18) dX12_isNut_1 (by decide) (fun c1 => ?_) (fun c1 => ?_)
  · have hq := hq.1 c1
    refine ck_iconst (v := 0) dX12_isNut_18 (by decide) ?_
    exact ck_iret rfl (by decide) rfl rfl dX12_isNut_19 ⟨_, rfl, rfl, hq⟩
  · have hq := hq.2 c1
    refine ck_iload_n 1 dX12_isNut_4 rfl rfl ?_
    refine ck_aload_n 0 dX12_isNut_5 rfl rfl ?_
    refine ck_getR clX12 3 rfl rfl (by decide) fl_X12_13 dX12_isNut_6 ?_
    refine ck_iconst (v := 1) dX12_isNut_9 (by decide) ?_
    refine ck_iald (j := 1) (by decide) rfl (ck_inL (by decide)) dX12_isNut_10 ?_
    refine ck_icmp_ge (tgt := 18) dX12_isNut_11 (by decide) (fun c2 => ?_) (fun c2 => ?_)
    · have hq := hq.1 c2
      refine ck_iconst (v := 0) dX12_isNut_18 (by decide) ?_
      exact ck_iret rfl (by decide) rfl rfl dX12_isNut_19 ⟨_, rfl, rfl, hq⟩
    · have hq := hq.2 c2
      refine ck_iconst (v := 1) dX12_isNut_14 (by decide) ?_
      refine ck_goto (tgt := 19) dX12_isNut_15 (by decide) ?_
      exact ck_iret rfl (by decide) rfl rfl dX12_isNut_19 ⟨_, rfl, rfl, hq⟩
def wp_X12_nut (x1 : Int32) (x2 : Int32) (h : ck_H) (Q : Int32 → ck_H → Prop) : Prop := (∀ h1, h1 = ck_sI h 0 0 (0 : Int32) → (wp_X12_isNut x1 h1 (fun r3 h2 => ((¬ r3 = 0 → ((¬ x2 = 0 → ((¬ x2 = (1 : Int32) → ((¬ x2 = (2 : Int32) → Q (-1 : Int32) h2) ∧ (x2 = (2 : Int32) → (vp_in x1 12 ∧ Q (h2.1 9 x1.toNatClampNeg) h2)))) ∧ (x2 = (1 : Int32) → (vp_in x1 12 ∧ Q (h2.1 8 x1.toNatClampNeg) h2)))) ∧ (x2 = 0 → (vp_in x1 12 ∧ Q (h2.1 7 x1.toNatClampNeg) h2)))) ∧ (r3 = 0 → Q (-1 : Int32) h2)))))
set_option maxHeartbeats 4000000 in
set_option maxRecDepth 100000 in
theorem c_X12_nut {gr : Bool} {x1 : Int32} {x2 : Int32} {h : ck_H} {Q : Int32 → ck_H → Prop} (hq : wp_X12_nut x1 x2 h Q) : ck_M yX12_nut cX12_nut 3 (some .int) 3 0 0 gr ck_shM h [.ref 0, .int x1, .int x2] (ck_Qi ck_shM Q) := by
  refine ck_entry (lv := [(0, .ref 0), (1, .int x1), (2, .int x2)]) false (own := RX12) rfl (fun q => by cases q) (by decide) (Nat.le_of_ble_eq_true rfl) rfl ?_
  refine ck_aload_n 0 dX12_nut_0 rfl rfl ?_
  refine ck_iconst (v := 0) dX12_nut_1 (by decide) ?_
  refine ck_putI clX12 0 rfl rfl (by decide) fl_X12_145 rfl rfl rfl dX12_nut_2 ?_
  refine ck_nmH (fun h1 eh1 => ?_)
  have hq := hq h1 eh1
  refine ck_aload_n 0 dX12_nut_5 rfl rfl ?_
  refine ck_iload_n 1 dX12_nut_6 rfl rfl ?_
  refine ck_callV (c_X12_isNut hq) rfl cal_X12_isNut rfl ml_X12_410 vir_X12_isNut rfl rfl (by decide) (Nat.le_of_ble_eq_true rfl) (Nat.le_of_ble_eq_true rfl) (by decide) (by decide) dX12_nut_7 ?_
  rintro _ _ h2 ⟨r3, rfl, rfl, hq⟩
  refine ck_if_ne (tgt := 15) dX12_nut_10 (by decide) (fun c4 => ?_) (fun c4 => ?_)
  · have hq := hq.1 c4
    refine ck_iload_n 2 dX12_nut_15 rfl rfl ?_
    refine ck_if_ne (tgt := 28) dX12_nut_16 (by decide) (fun c5 => ?_) (fun c5 => ?_)
    · have hq := hq.1 c5
      refine ck_iload_n 2 dX12_nut_28 rfl rfl ?_
      refine ck_iconst (v := 1) dX12_nut_29 (by decide) ?_
      refine ck_icmp_ne (tgt := 42) dX12_nut_30 (by decide) (fun c6 => ?_) (fun c6 => ?_)
      · have hq := hq.1 c6
        refine ck_iload_n 2 dX12_nut_42 rfl rfl ?_
        refine ck_iconst (v := 2) dX12_nut_43 (by decide) ?_
        refine ck_icmp_ne (tgt := 56) dX12_nut_44 (by decide) (fun c7 => ?_) (fun c7 => ?_)
        · have hq := hq.1 c7
          refine ck_iconst (v := -1) dX12_nut_56 (by decide) ?_
          exact ck_iret rfl rfl rfl rfl dX12_nut_57 ⟨_, rfl, rfl, hq⟩
        · have hq := hq.2 c7
          refine ck_aload_n 0 dX12_nut_47 rfl rfl ?_
          refine ck_getR clX12 10 rfl rfl (by decide) fl_X12_34 dX12_nut_48 ?_
          refine ck_iload_n 1 dX12_nut_51 rfl rfl ?_
          obtain ⟨b8, hq⟩ := hq
          refine ck_iald rfl rfl b8 dX12_nut_52 ?_
          refine ck_goto (tgt := 57) dX12_nut_53 (by decide) ?_
          exact ck_iret rfl rfl rfl rfl dX12_nut_57 ⟨_, rfl, rfl, hq⟩
      · have hq := hq.2 c6
        refine ck_aload_n 0 dX12_nut_33 rfl rfl ?_
        refine ck_getR clX12 9 rfl rfl (by decide) fl_X12_31 dX12_nut_34 ?_
        refine ck_iload_n 1 dX12_nut_37 rfl rfl ?_
        obtain ⟨b9, hq⟩ := hq
        refine ck_iald rfl rfl b9 dX12_nut_38 ?_
        refine ck_goto (tgt := 57) dX12_nut_39 (by decide) ?_
        exact ck_iret rfl rfl rfl rfl dX12_nut_57 ⟨_, rfl, rfl, hq⟩
    · have hq := hq.2 c5
      refine ck_aload_n 0 dX12_nut_19 rfl rfl ?_
      refine ck_getR clX12 8 rfl rfl (by decide) fl_X12_28 dX12_nut_20 ?_
      refine ck_iload_n 1 dX12_nut_23 rfl rfl ?_
      obtain ⟨b10, hq⟩ := hq
      refine ck_iald rfl rfl b10 dX12_nut_24 ?_
      refine ck_goto (tgt := 57) dX12_nut_25 (by decide) ?_
      exact ck_iret rfl rfl rfl rfl dX12_nut_57 ⟨_, rfl, rfl, hq⟩
  · have hq := hq.2 c4
    refine ck_iconst (v := -1) dX12_nut_13 (by decide) ?_
    exact ck_iret rfl rfl rfl rfl dX12_nut_14 ⟨_, rfl, rfl, hq⟩
def wp_X12_calls (x1 : Int32) (x2 : Int32) (x3 : Int32) (x4 : Int32) (h : ck_H) (Q : ck_H → Prop) : Prop := (vp_in x2 8 ∧ (∀ h2, h2 = ck_sL h 18 0 (h.1 4 x2.toNatClampNeg).toInt64 → (vp_in (((4 : Int32) * x1) + x2) 92 ∧ (∀ h4, h4 = ck_sL h2 18 1 (h2.1 24 (((4 : Int32) * x1) + x2).toNatClampNeg).toInt64 → (∀ h5, h5 = ck_sL h4 18 2 x4.toInt64 → (vp_in x3 12 ∧ (∀ h7, h7 = ck_sL h5 18 3 (h5.1 9 x3.toNatClampNeg).toInt64 → (vp_in x1 23 ∧ (∀ h9, h9 = ck_sL h7 18 6 (h7.1 21 x1.toNatClampNeg).toInt64 → (vp_in (((4 : Int32) * x1) + x2) 92 ∧ (∀ h11, h11 = ck_sL h9 18 4 (h9.1 25 (((4 : Int32) * x1) + x2).toNatClampNeg).toInt64 → (vp_in x1 23 ∧ (∀ h13, h13 = ck_sL h11 18 5 (h11.1 20 x1.toNatClampNeg).toInt64 → Q h13)))))))))))))
set_option maxHeartbeats 4000000 in
set_option maxRecDepth 100000 in
theorem c_X12_calls {gr : Bool} {x1 : Int32} {x2 : Int32} {x3 : Int32} {x4 : Int32} {h : ck_H} {Q : ck_H → Prop} (hq : wp_X12_calls x1 x2 x3 x4 h Q) : ck_M yX12_calls cX12_calls 5 none 2 0 0 gr ck_shM h [.ref 0, .int x1, .int x2, .int x3, .int x4] (ck_Qv ck_shM Q) := by
  refine ck_entry (lv := [(0, .ref 0), (1, .int x1), (2, .int x2), (3, .int x3), (4, .int x4)]) false (own := RX12) rfl (fun q => by cases q) (by decide) (Nat.le_of_ble_eq_true rfl) rfl ?_
  refine ck_aload_n 0 dX12_calls_0 rfl rfl ?_
  refine ck_getR clX12 32 rfl rfl (by decide) fl_X12_65 dX12_calls_1 ?_
  refine ck_iconst (v := 0) dX12_calls_4 (by decide) ?_
  refine ck_aload_n 0 dX12_calls_5 rfl rfl ?_
  refine ck_getR clX12 5 rfl rfl (by decide) fl_X12_19 dX12_calls_6 ?_
  refine ck_iload_n 2 dX12_calls_9 rfl rfl ?_
  obtain ⟨b1, hq⟩ := hq
  refine ck_iald rfl rfl b1 dX12_calls_10 ?_
  refine ck_i2l dX12_calls_11 ?_
  refine ck_last (j := 0) (by decide) rfl (ck_inL (by decide)) dX12_calls_12 ?_
  refine ck_nmH (fun h2 eh2 => ?_)
  have hq := hq h2 eh2
  refine ck_aload_n 0 dX12_calls_13 rfl rfl ?_
  refine ck_getR clX12 32 rfl rfl (by decide) fl_X12_65 dX12_calls_14 ?_
  refine ck_iconst (v := 1) dX12_calls_17 (by decide) ?_
  refine ck_aload_n 0 dX12_calls_18 rfl rfl ?_
  refine ck_getR clX12 39 rfl rfl (by decide) fl_X12_84 dX12_calls_19 ?_
  refine ck_iconst (v := 4) dX12_calls_22 (by decide) ?_
  refine ck_iload_n 1 dX12_calls_23 rfl rfl ?_
  refine ck_imul dX12_calls_24 ?_
  refine ck_iload_n 2 dX12_calls_25 rfl rfl ?_
  refine ck_iadd dX12_calls_26 ?_
  obtain ⟨b3, hq⟩ := hq
  refine ck_iald rfl rfl b3 dX12_calls_27 ?_
  refine ck_i2l dX12_calls_28 ?_
  refine ck_last (j := 1) (by decide) rfl (ck_inL (by decide)) dX12_calls_29 ?_
  refine ck_nmH (fun h4 eh4 => ?_)
  have hq := hq h4 eh4
  refine ck_aload_n 0 dX12_calls_30 rfl rfl ?_
  refine ck_getR clX12 32 rfl rfl (by decide) fl_X12_65 dX12_calls_31 ?_
  refine ck_iconst (v := 2) dX12_calls_34 (by decide) ?_
  refine ck_iload 4 dX12_calls_35 rfl ?_
  refine ck_i2l dX12_calls_37 ?_
  refine ck_last (j := 2) (by decide) rfl (ck_inL (by decide)) dX12_calls_38 ?_
  refine ck_nmH (fun h5 eh5 => ?_)
  have hq := hq h5 eh5
  refine ck_aload_n 0 dX12_calls_39 rfl rfl ?_
  refine ck_getR clX12 32 rfl rfl (by decide) fl_X12_65 dX12_calls_40 ?_
  refine ck_iconst (v := 3) dX12_calls_43 (by decide) ?_
  refine ck_aload_n 0 dX12_calls_44 rfl rfl ?_
  refine ck_getR clX12 10 rfl rfl (by decide) fl_X12_34 dX12_calls_45 ?_
  refine ck_iload_n 3 dX12_calls_48 rfl rfl ?_
  obtain ⟨b6, hq⟩ := hq
  refine ck_iald rfl rfl b6 dX12_calls_49 ?_
  refine ck_i2l dX12_calls_50 ?_
  refine ck_last (j := 3) (by decide) rfl (ck_inL (by decide)) dX12_calls_51 ?_
  refine ck_nmH (fun h7 eh7 => ?_)
  have hq := hq h7 eh7
  refine ck_aload_n 0 dX12_calls_52 rfl rfl ?_
  refine ck_getR clX12 32 rfl rfl (by decide) fl_X12_65 dX12_calls_53 ?_
  refine ck_bipush (v := 6) dX12_calls_56 (by decide) ?_
  refine ck_aload_n 0 dX12_calls_58 rfl rfl ?_
  refine ck_getR clX12 36 rfl rfl (by decide) fl_X12_75 dX12_calls_59 ?_
  refine ck_iload_n 1 dX12_calls_62 rfl rfl ?_
  obtain ⟨b8, hq⟩ := hq
  refine ck_iald rfl rfl b8 dX12_calls_63 ?_
  refine ck_i2l dX12_calls_64 ?_
  refine ck_last (j := 6) (by decide) rfl (ck_inL (by decide)) dX12_calls_65 ?_
  refine ck_nmH (fun h9 eh9 => ?_)
  have hq := hq h9 eh9
  refine ck_aload_n 0 dX12_calls_66 rfl rfl ?_
  refine ck_getR clX12 32 rfl rfl (by decide) fl_X12_65 dX12_calls_67 ?_
  refine ck_iconst (v := 4) dX12_calls_70 (by decide) ?_
  refine ck_aload_n 0 dX12_calls_71 rfl rfl ?_
  refine ck_getR clX12 40 rfl rfl (by decide) fl_X12_87 dX12_calls_72 ?_
  refine ck_iconst (v := 4) dX12_calls_75 (by decide) ?_
  refine ck_iload_n 1 dX12_calls_76 rfl rfl ?_
  refine ck_imul dX12_calls_77 ?_
  refine ck_iload_n 2 dX12_calls_78 rfl rfl ?_
  refine ck_iadd dX12_calls_79 ?_
  obtain ⟨b10, hq⟩ := hq
  refine ck_iald rfl rfl b10 dX12_calls_80 ?_
  refine ck_i2l dX12_calls_81 ?_
  refine ck_last (j := 4) (by decide) rfl (ck_inL (by decide)) dX12_calls_82 ?_
  refine ck_nmH (fun h11 eh11 => ?_)
  have hq := hq h11 eh11
  refine ck_aload_n 0 dX12_calls_83 rfl rfl ?_
  refine ck_getR clX12 32 rfl rfl (by decide) fl_X12_65 dX12_calls_84 ?_
  refine ck_iconst (v := 5) dX12_calls_87 (by decide) ?_
  refine ck_aload_n 0 dX12_calls_88 rfl rfl ?_
  refine ck_getR clX12 35 rfl rfl (by decide) fl_X12_72 dX12_calls_89 ?_
  refine ck_iload_n 1 dX12_calls_92 rfl rfl ?_
  obtain ⟨b12, hq⟩ := hq
  refine ck_iald rfl rfl b12 dX12_calls_93 ?_
  refine ck_i2l dX12_calls_94 ?_
  refine ck_last (j := 5) (by decide) rfl (ck_inL (by decide)) dX12_calls_95 ?_
  refine ck_nmH (fun h13 eh13 => ?_)
  have hq := hq h13 eh13
  exact ck_vret rfl rfl rfl dX12_calls_96 ⟨rfl, rfl, hq⟩
def wp_X12_hasLaw (x1 : Int32) (h : ck_H) (Q : Int32 → ck_H → Prop) : Prop := (vp_in x1 6 ∧ (vp_in x1 6 ∧ (((h.1 15 x1.toNatClampNeg) ≤ (h.1 14 x1.toNatClampNeg) → Q (0 : Int32) h) ∧ (¬ (h.1 15 x1.toNatClampNeg) ≤ (h.1 14 x1.toNatClampNeg) → Q (1 : Int32) h))))
set_option maxHeartbeats 4000000 in
set_option maxRecDepth 100000 in
theorem c_X12_hasLaw {gr : Bool} {x1 : Int32} {h : ck_H} {Q : Int32 → ck_H → Prop} (hq : wp_X12_hasLaw x1 h Q) : ck_M yX12_hasLaw cX12_hasLaw 2 (some .boolean) 2 0 0 gr ck_shM h [.ref 0, .int x1] (ck_Qi ck_shM Q) := by
  refine ck_entry (lv := [(0, .ref 0), (1, .int x1)]) false (own := RX12) rfl (fun q => by cases q) (by decide) (Nat.le_of_ble_eq_true rfl) rfl ?_
  refine ck_aload_n 0 dX12_hasLaw_0 rfl rfl ?_
  refine ck_getR clX12 16 rfl rfl (by decide) fl_X12_52 dX12_hasLaw_1 ?_
  refine ck_iload_n 1 dX12_hasLaw_4 rfl rfl ?_
  obtain ⟨b1, hq⟩ := hq
  refine ck_iald rfl rfl b1 dX12_hasLaw_5 ?_
  refine ck_aload_n 0 dX12_hasLaw_6 rfl rfl ?_
  refine ck_getR clX12 15 rfl rfl (by decide) fl_X12_49 dX12_hasLaw_7 ?_
  refine ck_iload_n 1 dX12_hasLaw_10 rfl rfl ?_
  obtain ⟨b2, hq⟩ := hq
  refine ck_iald rfl rfl b2 dX12_hasLaw_11 ?_
  refine ck_icmp_le (tgt := 19) dX12_hasLaw_12 (by decide) (fun c3 => ?_) (fun c3 => ?_)
  · have hq := hq.1 c3
    refine ck_iconst (v := 0) dX12_hasLaw_19 (by decide) ?_
    exact ck_iret rfl (by decide) rfl rfl dX12_hasLaw_20 ⟨_, rfl, rfl, hq⟩
  · have hq := hq.2 c3
    refine ck_iconst (v := 1) dX12_hasLaw_15 (by decide) ?_
    refine ck_goto (tgt := 20) dX12_hasLaw_16 (by decide) ?_
    exact ck_iret rfl (by decide) rfl rfl dX12_hasLaw_20 ⟨_, rfl, rfl, hq⟩
def wp_X12_is (x0 : Int32) (h : ck_H) (Q : Int64 → ck_H → Prop) : Prop := ((x0 = 0 → Q (0 : Int64) h) ∧ (¬ x0 = 0 → Q (1 : Int64) h))
set_option maxHeartbeats 4000000 in
set_option maxRecDepth 100000 in
theorem c_X12_is {gr : Bool} {x0 : Int32} {h : ck_H} {Q : Int64 → ck_H → Prop} (hq : wp_X12_is x0 h Q) : ck_M yX12_is cX12_is 1 (some .long) 2 0 0 gr ck_shM h [.int x0] (ck_Ql ck_shM Q) := by
  refine ck_entry (lv := [(0, .int x0)]) false (own := RX12) rfl (fun q => by cases q) (by decide) (Nat.le_of_ble_eq_true rfl) rfl ?_
  refine ck_iload_n 0 dX12_is_0 rfl rfl ?_
  refine ck_if_eq (tgt := 8) dX12_is_1 (by decide) (fun c1 => ?_) (fun c1 => ?_)
  · have hq := hq.1 c1
    refine ck_lconst (v := 0) dX12_is_8 (by decide) ?_
    exact ck_lret rfl rfl rfl dX12_is_9 ⟨_, rfl, rfl, hq⟩
  · have hq := hq.2 c1
    refine ck_lconst (v := 1) dX12_is_4 (by decide) ?_
    refine ck_goto (tgt := 9) dX12_is_5 (by decide) ?_
    exact ck_lret rfl rfl rfl dX12_is_9 ⟨_, rfl, rfl, hq⟩
def wp_X12_works_407 (Q : Int32 → ck_H → Prop) (x6 : Int64) (h : ck_H) : Prop := (vp_in ((h.1 0 34) - (1 : Int32)) 64 ∧ (∀ h11, h11 = ck_sL h 19 ((h.1 0 34) - (1 : Int32)).toNatClampNeg x6 → ((0 < (lg_cmp x6 (1000000000000 : Int64)) → Q (0 : Int32) h11) ∧ (¬ 0 < (lg_cmp x6 (1000000000000 : Int64)) → (((lg_cmp x6 (-1000000000000 : Int64)) < 0 → Q (0 : Int32) h11) ∧ (¬ (lg_cmp x6 (-1000000000000 : Int64)) < 0 → Q (1 : Int32) h11))))))
def wp_X12_works_212 (Q : Int32 → ck_H → Prop) (x2 : Int64) (x4 : Int64) (h : ck_H) : Prop := (∀ v9, v9 = (x4 * x2) → wp_X12_works_407 Q v9 h)
def wp_X12_works_250 (Q : Int32 → ck_H → Prop) (y0 : Int32) (h : ck_H) : Prop := (wp_X12_is y0 h (fun r27 h26 => wp_X12_works_407 Q r27 h26))
def wp_X12_works_290 (Q : Int32 → ck_H → Prop) (y0 : Int32) (h : ck_H) : Prop := (wp_X12_is y0 h (fun r31 h30 => wp_X12_works_407 Q r31 h30))
def wp_X12_works_270 (Q : Int32 → ck_H → Prop) (y0 : Int32) (h : ck_H) : Prop := (wp_X12_is y0 h (fun r35 h34 => wp_X12_works_407 Q r35 h34))
def wp_X12_works_310 (Q : Int32 → ck_H → Prop) (y0 : Int32) (h : ck_H) : Prop := (wp_X12_is y0 h (fun r39 h38 => wp_X12_works_407 Q r39 h38))
def wp_X12_works_350 (Q : Int32 → ck_H → Prop) (y0 : Int32) (h : ck_H) : Prop := (wp_X12_is y0 h (fun r43 h42 => wp_X12_works_407 Q r43 h42))
def wp_X12_works_330 (Q : Int32 → ck_H → Prop) (y0 : Int32) (h : ck_H) : Prop := (wp_X12_is y0 h (fun r47 h46 => wp_X12_works_407 Q r47 h46))
def wp_X12_works_376 (Q : Int32 → ck_H → Prop) (y0 : Int32) (h : ck_H) : Prop := (wp_X12_is y0 h (fun r51 h50 => wp_X12_works_407 Q r51 h50))
def wp_X12_works_375 (Q : Int32 → ck_H → Prop) (h : ck_H) : Prop := wp_X12_works_376 Q (0 : Int32) h
def wp_X12_works_402 (Q : Int32 → ck_H → Prop) (y0 : Int32) (h : ck_H) : Prop := (wp_X12_is y0 h (fun r55 h54 => wp_X12_works_407 Q r55 h54))
def wp_X12_works_397 (Q : Int32 → ck_H → Prop) (h : ck_H) : Prop := wp_X12_works_402 Q (1 : Int32) h
def wp_X12_works_40 (Q : Int32 → ck_H → Prop) (y1 : Int32) (y2 : Int32) (h : ck_H) : Prop := (wp_X12_is y2 h (fun r59 h58 => (vp_in y1 64 ∧ (∀ h61, h61 = ck_sL h58 19 y1.toNatClampNeg r59 → Q (1 : Int32) h61))))
def wp_X12_works (x1 : Int32) (h : ck_H) (Q : Int32 → ck_H → Prop) : Prop := (vp_in ((h.1 0 34) - (1 : Int32)) 64 ∧ (∀ v2, v2 = (h.2 19 ((h.1 0 34) - (1 : Int32)).toNatClampNeg) → ((¬ x1 = (260 : Int32) → (vp_in ((h.1 0 34) - (2 : Int32)) 64 ∧ (∀ v5, v5 = (h.2 19 ((h.1 0 34) - (2 : Int32)).toNatClampNeg) → (∀ h6, h6 = ck_sI h 0 34 ((h.1 0 34) - (1 : Int32)) → ((x1 = 42 → (((lg_cmp v5 (0 : Int64)) = 0 → wp_X12_works_212 Q v2 v5 h6) ∧ (¬ (lg_cmp v5 (0 : Int64)) = 0 → (¬ (if 0 < v5 then v5 else -v5) = 0 ∧ (((lg_cmp (if 0 < v2 then v2 else -v2) ((1000000000000 : Int64) / (if 0 < v5 then v5 else -v5))) ≤ 0 → wp_X12_works_212 Q v2 v5 h6) ∧ (¬ (lg_cmp (if 0 < v2 then v2 else -v2) ((1000000000000 : Int64) / (if 0 < v5 then v5 else -v5))) ≤ 0 → Q (0 : Int32) h6)))))) ∧ (¬ x1 = 42 → ((x1 = 43 → (∀ v17, v17 = (v5 + v2) → wp_X12_works_407 Q v17 h6)) ∧ (¬ x1 = 43 → ((x1 = 45 → (∀ v19, v19 = (v5 - v2) → wp_X12_works_407 Q v19 h6)) ∧ (¬ x1 = 45 → ((x1 = 47 → ((¬ (lg_cmp v2 (0 : Int64)) = 0 → (¬ v2 = 0 ∧ (∀ v23, v23 = (v5 / v2) → wp_X12_works_407 Q v23 h6))) ∧ ((lg_cmp v2 (0 : Int64)) = 0 → Q (0 : Int32) h6))) ∧ (¬ x1 = 47 → ((x1 = 60 → ((0 ≤ (lg_cmp v5 v2) → wp_X12_works_250 Q (0 : Int32) h6) ∧ (¬ 0 ≤ (lg_cmp v5 v2) → wp_X12_works_250 Q (1 : Int32) h6))) ∧ (¬ x1 = 60 → ((x1 = 61 → ((¬ (lg_cmp v5 v2) = 0 → wp_X12_works_290 Q (0 : Int32) h6) ∧ ((lg_cmp v5 v2) = 0 → wp_X12_works_290 Q (1 : Int32) h6))) ∧ (¬ x1 = 61 → ((x1 = 62 → (((lg_cmp v5 v2) ≤ 0 → wp_X12_works_270 Q (0 : Int32) h6) ∧ (¬ (lg_cmp v5 v2) ≤ 0 → wp_X12_works_270 Q (1 : Int32) h6))) ∧ (¬ x1 = 62 → ((x1 = 256 → ((0 < (lg_cmp v5 v2) → wp_X12_works_310 Q (0 : Int32) h6) ∧ (¬ 0 < (lg_cmp v5 v2) → wp_X12_works_310 Q (1 : Int32) h6))) ∧ (¬ x1 = 256 → ((x1 = 257 → (((lg_cmp v5 v2) = 0 → wp_X12_works_350 Q (0 : Int32) h6) ∧ (¬ (lg_cmp v5 v2) = 0 → wp_X12_works_350 Q (1 : Int32) h6))) ∧ (¬ x1 = 257 → ((x1 = 258 → (((lg_cmp v5 v2) < 0 → wp_X12_works_330 Q (0 : Int32) h6) ∧ (¬ (lg_cmp v5 v2) < 0 → wp_X12_works_330 Q (1 : Int32) h6))) ∧ (¬ x1 = 258 → ((x1 = 261 → (((lg_cmp v5 (0 : Int64)) = 0 → wp_X12_works_375 Q h6) ∧ (¬ (lg_cmp v5 (0 : Int64)) = 0 → (((lg_cmp v2 (0 : Int64)) = 0 → wp_X12_works_375 Q h6) ∧ (¬ (lg_cmp v2 (0 : Int64)) = 0 → wp_X12_works_376 Q (1 : Int32) h6))))) ∧ (¬ x1 = 261 → ((¬ (lg_cmp v5 (0 : Int64)) = 0 → wp_X12_works_397 Q h6) ∧ ((lg_cmp v5 (0 : Int64)) = 0 → (((lg_cmp v2 (0 : Int64)) = 0 → wp_X12_works_402 Q (0 : Int32) h6) ∧ (¬ (lg_cmp v2 (0 : Int64)) = 0 → wp_X12_works_397 Q h6)))))))))))))))))))))))))))))) ∧ (x1 = (260 : Int32) → ((¬ (lg_cmp v2 (0 : Int64)) = 0 → wp_X12_works_40 Q ((h.1 0 34) - (1 : Int32)) (0 : Int32) h) ∧ ((lg_cmp v2 (0 : Int64)) = 0 → wp_X12_works_40 Q ((h.1 0 34) - (1 : Int32)) (1 : Int32) h))))))
set_option maxHeartbeats 4000000 in
set_option maxRecDepth 100000 in
theorem cp_X12_works_407 {gr : Bool} {Q : Int32 → ck_H → Prop} : ∀ (x6 : Int64) (h : ck_H), wp_X12_works_407 Q x6 h → ck_W cX12_works 8 RX12 (some .boolean) 3 0 0 false gr (ck_Qi ck_shM Q) ck_shM h 0 0 407 [(0, .ref 0), (6, .long x6)] [] := by
  intro x6 h hq
  refine ck_aload_n 0 dX12_works_407 rfl rfl ?_
  refine ck_getR clX12 33 rfl rfl (by decide) fl_X12_69 dX12_works_408 ?_
  refine ck_aload_n 0 dX12_works_411 rfl rfl ?_
  refine ck_getI clX12 34 rfl rfl (by decide) fl_X12_305 dX12_works_412 ?_
  refine ck_iconst (v := 1) dX12_works_415 (by decide) ?_
  refine ck_isub dX12_works_416 ?_
  refine ck_lload 1 dX12_works_417 rfl ?_
  obtain ⟨b10, hq⟩ := hq
  refine ck_last rfl rfl b10 dX12_works_419 ?_
  refine ck_nmH (fun h11 eh11 => ?_)
  have hq := hq h11 eh11
  refine ck_lload 1 dX12_works_420 rfl ?_
  refine ck_ldc2 con_X12_318 dX12_works_422 ?_
  refine ck_lcmp dX12_works_425 ?_
  refine ck_if_gt (tgt := 442) dX12_works_426 (by decide) (fun c12 => ?_) (fun c12 => ?_)
  · have hq := hq.1 c12
    refine ck_iconst (v := 0) dX12_works_442 (by decide) ?_
    exact ck_iret rfl (by decide) rfl rfl dX12_works_443 ⟨_, rfl, rfl, hq⟩
  · have hq := hq.2 c12
    refine ck_lload 1 dX12_works_429 rfl ?_
    refine ck_ldc2 con_X12_320 dX12_works_431 ?_
    refine ck_lcmp dX12_works_434 ?_
    refine ck_if_lt (tgt := 442) dX12_works_435 (by decide) (fun c13 => ?_) (fun c13 => ?_)
    · have hq := hq.1 c13
      refine ck_iconst (v := 0) dX12_works_442 (by decide) ?_
      exact ck_iret rfl (by decide) rfl rfl dX12_works_443 ⟨_, rfl, rfl, hq⟩
    · have hq := hq.2 c13
      refine ck_iconst (v := 1) dX12_works_438 (by decide) ?_
      refine ck_goto (tgt := 443) dX12_works_439 (by decide) ?_
      exact ck_iret rfl (by decide) rfl rfl dX12_works_443 ⟨_, rfl, rfl, hq⟩
set_option maxHeartbeats 4000000 in
set_option maxRecDepth 100000 in
theorem cp_X12_works_212 {gr : Bool} {Q : Int32 → ck_H → Prop} : ∀ (x2 : Int64) (x4 : Int64) (h : ck_H), wp_X12_works_212 Q x2 x4 h → ck_W cX12_works 8 RX12 (some .boolean) 3 0 0 false gr (ck_Qi ck_shM Q) ck_shM h 0 0 212 [(0, .ref 0), (2, .long x2), (4, .long x4)] [] := by
  intro x2 x4 h hq
  refine ck_lload 2 dX12_works_212 rfl ?_
  refine ck_lload_n 1 dX12_works_214 rfl rfl ?_
  refine ck_lmul dX12_works_215 ?_
  refine ck_nmL (fun v9 ev9 => ?_)
  have hq := hq v9 ev9
  refine ck_lstore (lv' := [(6, .long v9), (0, .ref 0), (2, .long x2), (4, .long x4)]) dX12_works_216 (by decide) rfl ?_
  refine ck_goto (tgt := 407) dX12_works_218 (by decide) ?_
  refine ck_loc [1, 0] rfl ?_
  exact cp_X12_works_407 _ _ hq
set_option maxHeartbeats 4000000 in
set_option maxRecDepth 100000 in
theorem cp_X12_works_250 {gr : Bool} {Q : Int32 → ck_H → Prop} : ∀ (y0 : Int32) (h : ck_H), wp_X12_works_250 Q y0 h → ck_W cX12_works 8 RX12 (some .boolean) 3 0 0 false gr (ck_Qi ck_shM Q) ck_shM h 0 0 250 [(0, .ref 0)] [.int y0] := by
  intro y0 h hq
  refine ck_callS (c_X12_is hq) rfl cal_X12_is rfl ml_X12_308 sta_X12_is (by decide) (Nat.le_of_ble_eq_true rfl) (Nat.le_of_ble_eq_true rfl) (by decide) (by decide) dX12_works_250 ?_
  rintro _ _ h26 ⟨r27, rfl, rfl, hq⟩
  refine ck_lstore (lv' := [(6, .long r27), (0, .ref 0)]) dX12_works_253 (by decide) rfl ?_
  refine ck_goto (tgt := 407) dX12_works_255 (by decide) ?_
  refine ck_loc [1, 0] rfl ?_
  exact cp_X12_works_407 _ _ hq
set_option maxHeartbeats 4000000 in
set_option maxRecDepth 100000 in
theorem cp_X12_works_290 {gr : Bool} {Q : Int32 → ck_H → Prop} : ∀ (y0 : Int32) (h : ck_H), wp_X12_works_290 Q y0 h → ck_W cX12_works 8 RX12 (some .boolean) 3 0 0 false gr (ck_Qi ck_shM Q) ck_shM h 0 0 290 [(0, .ref 0)] [.int y0] := by
  intro y0 h hq
  refine ck_callS (c_X12_is hq) rfl cal_X12_is rfl ml_X12_308 sta_X12_is (by decide) (Nat.le_of_ble_eq_true rfl) (Nat.le_of_ble_eq_true rfl) (by decide) (by decide) dX12_works_290 ?_
  rintro _ _ h30 ⟨r31, rfl, rfl, hq⟩
  refine ck_lstore (lv' := [(6, .long r31), (0, .ref 0)]) dX12_works_293 (by decide) rfl ?_
  refine ck_goto (tgt := 407) dX12_works_295 (by decide) ?_
  refine ck_loc [1, 0] rfl ?_
  exact cp_X12_works_407 _ _ hq
set_option maxHeartbeats 4000000 in
set_option maxRecDepth 100000 in
theorem cp_X12_works_270 {gr : Bool} {Q : Int32 → ck_H → Prop} : ∀ (y0 : Int32) (h : ck_H), wp_X12_works_270 Q y0 h → ck_W cX12_works 8 RX12 (some .boolean) 3 0 0 false gr (ck_Qi ck_shM Q) ck_shM h 0 0 270 [(0, .ref 0)] [.int y0] := by
  intro y0 h hq
  refine ck_callS (c_X12_is hq) rfl cal_X12_is rfl ml_X12_308 sta_X12_is (by decide) (Nat.le_of_ble_eq_true rfl) (Nat.le_of_ble_eq_true rfl) (by decide) (by decide) dX12_works_270 ?_
  rintro _ _ h34 ⟨r35, rfl, rfl, hq⟩
  refine ck_lstore (lv' := [(6, .long r35), (0, .ref 0)]) dX12_works_273 (by decide) rfl ?_
  refine ck_goto (tgt := 407) dX12_works_275 (by decide) ?_
  refine ck_loc [1, 0] rfl ?_
  exact cp_X12_works_407 _ _ hq
set_option maxHeartbeats 4000000 in
set_option maxRecDepth 100000 in
theorem cp_X12_works_310 {gr : Bool} {Q : Int32 → ck_H → Prop} : ∀ (y0 : Int32) (h : ck_H), wp_X12_works_310 Q y0 h → ck_W cX12_works 8 RX12 (some .boolean) 3 0 0 false gr (ck_Qi ck_shM Q) ck_shM h 0 0 310 [(0, .ref 0)] [.int y0] := by
  intro y0 h hq
  refine ck_callS (c_X12_is hq) rfl cal_X12_is rfl ml_X12_308 sta_X12_is (by decide) (Nat.le_of_ble_eq_true rfl) (Nat.le_of_ble_eq_true rfl) (by decide) (by decide) dX12_works_310 ?_
  rintro _ _ h38 ⟨r39, rfl, rfl, hq⟩
  refine ck_lstore (lv' := [(6, .long r39), (0, .ref 0)]) dX12_works_313 (by decide) rfl ?_
  refine ck_goto (tgt := 407) dX12_works_315 (by decide) ?_
  refine ck_loc [1, 0] rfl ?_
  exact cp_X12_works_407 _ _ hq
set_option maxHeartbeats 4000000 in
set_option maxRecDepth 100000 in
theorem cp_X12_works_350 {gr : Bool} {Q : Int32 → ck_H → Prop} : ∀ (y0 : Int32) (h : ck_H), wp_X12_works_350 Q y0 h → ck_W cX12_works 8 RX12 (some .boolean) 3 0 0 false gr (ck_Qi ck_shM Q) ck_shM h 0 0 350 [(0, .ref 0)] [.int y0] := by
  intro y0 h hq
  refine ck_callS (c_X12_is hq) rfl cal_X12_is rfl ml_X12_308 sta_X12_is (by decide) (Nat.le_of_ble_eq_true rfl) (Nat.le_of_ble_eq_true rfl) (by decide) (by decide) dX12_works_350 ?_
  rintro _ _ h42 ⟨r43, rfl, rfl, hq⟩
  refine ck_lstore (lv' := [(6, .long r43), (0, .ref 0)]) dX12_works_353 (by decide) rfl ?_
  refine ck_goto (tgt := 407) dX12_works_355 (by decide) ?_
  refine ck_loc [1, 0] rfl ?_
  exact cp_X12_works_407 _ _ hq
set_option maxHeartbeats 4000000 in
set_option maxRecDepth 100000 in
theorem cp_X12_works_330 {gr : Bool} {Q : Int32 → ck_H → Prop} : ∀ (y0 : Int32) (h : ck_H), wp_X12_works_330 Q y0 h → ck_W cX12_works 8 RX12 (some .boolean) 3 0 0 false gr (ck_Qi ck_shM Q) ck_shM h 0 0 330 [(0, .ref 0)] [.int y0] := by
  intro y0 h hq
  refine ck_callS (c_X12_is hq) rfl cal_X12_is rfl ml_X12_308 sta_X12_is (by decide) (Nat.le_of_ble_eq_true rfl) (Nat.le_of_ble_eq_true rfl) (by decide) (by decide) dX12_works_330 ?_
  rintro _ _ h46 ⟨r47, rfl, rfl, hq⟩
  refine ck_lstore (lv' := [(6, .long r47), (0, .ref 0)]) dX12_works_333 (by decide) rfl ?_
  refine ck_goto (tgt := 407) dX12_works_335 (by decide) ?_
  refine ck_loc [1, 0] rfl ?_
  exact cp_X12_works_407 _ _ hq
set_option maxHeartbeats 4000000 in
set_option maxRecDepth 100000 in
theorem cp_X12_works_376 {gr : Bool} {Q : Int32 → ck_H → Prop} : ∀ (y0 : Int32) (h : ck_H), wp_X12_works_376 Q y0 h → ck_W cX12_works 8 RX12 (some .boolean) 3 0 0 false gr (ck_Qi ck_shM Q) ck_shM h 0 0 376 [(0, .ref 0)] [.int y0] := by
  intro y0 h hq
  refine ck_callS (c_X12_is hq) rfl cal_X12_is rfl ml_X12_308 sta_X12_is (by decide) (Nat.le_of_ble_eq_true rfl) (Nat.le_of_ble_eq_true rfl) (by decide) (by decide) dX12_works_376 ?_
  rintro _ _ h50 ⟨r51, rfl, rfl, hq⟩
  refine ck_lstore (lv' := [(6, .long r51), (0, .ref 0)]) dX12_works_379 (by decide) rfl ?_
  refine ck_goto (tgt := 407) dX12_works_381 (by decide) ?_
  refine ck_loc [1, 0] rfl ?_
  exact cp_X12_works_407 _ _ hq
set_option maxHeartbeats 4000000 in
set_option maxRecDepth 100000 in
theorem cp_X12_works_375 {gr : Bool} {Q : Int32 → ck_H → Prop} : ∀ (h : ck_H), wp_X12_works_375 Q h → ck_W cX12_works 8 RX12 (some .boolean) 3 0 0 false gr (ck_Qi ck_shM Q) ck_shM h 0 0 375 [(0, .ref 0)] [] := by
  intro h hq
  refine ck_iconst (v := 0) dX12_works_375 (by decide) ?_
  exact cp_X12_works_376 _ _ hq
set_option maxHeartbeats 4000000 in
set_option maxRecDepth 100000 in
theorem cp_X12_works_402 {gr : Bool} {Q : Int32 → ck_H → Prop} : ∀ (y0 : Int32) (h : ck_H), wp_X12_works_402 Q y0 h → ck_W cX12_works 8 RX12 (some .boolean) 3 0 0 false gr (ck_Qi ck_shM Q) ck_shM h 0 0 402 [(0, .ref 0)] [.int y0] := by
  intro y0 h hq
  refine ck_callS (c_X12_is hq) rfl cal_X12_is rfl ml_X12_308 sta_X12_is (by decide) (Nat.le_of_ble_eq_true rfl) (Nat.le_of_ble_eq_true rfl) (by decide) (by decide) dX12_works_402 ?_
  rintro _ _ h54 ⟨r55, rfl, rfl, hq⟩
  refine ck_lstore (lv' := [(6, .long r55), (0, .ref 0)]) dX12_works_405 (by decide) rfl ?_
  refine ck_loc [1, 0] rfl ?_
  exact cp_X12_works_407 _ _ hq
set_option maxHeartbeats 4000000 in
set_option maxRecDepth 100000 in
theorem cp_X12_works_397 {gr : Bool} {Q : Int32 → ck_H → Prop} : ∀ (h : ck_H), wp_X12_works_397 Q h → ck_W cX12_works 8 RX12 (some .boolean) 3 0 0 false gr (ck_Qi ck_shM Q) ck_shM h 0 0 397 [(0, .ref 0)] [] := by
  intro h hq
  refine ck_iconst (v := 1) dX12_works_397 (by decide) ?_
  refine ck_goto (tgt := 402) dX12_works_398 (by decide) ?_
  exact cp_X12_works_402 _ _ hq
set_option maxHeartbeats 4000000 in
set_option maxRecDepth 100000 in
theorem cp_X12_works_40 {gr : Bool} {Q : Int32 → ck_H → Prop} : ∀ (y1 : Int32) (y2 : Int32) (h : ck_H), wp_X12_works_40 Q y1 y2 h → ck_W cX12_works 8 RX12 (some .boolean) 3 0 0 false gr (ck_Qi ck_shM Q) ck_shM h 0 0 40 [] [.int y2, .int y1, .ref 19] := by
  intro y1 y2 h hq
  refine ck_callS (c_X12_is hq) rfl cal_X12_is rfl ml_X12_308 sta_X12_is (by decide) (Nat.le_of_ble_eq_true rfl) (Nat.le_of_ble_eq_true rfl) (by decide) (by decide) dX12_works_40 ?_
  rintro _ _ h58 ⟨r59, rfl, rfl, hq⟩
  obtain ⟨b60, hq⟩ := hq
  refine ck_last rfl rfl b60 dX12_works_43 ?_
  refine ck_nmH (fun h61 eh61 => ?_)
  have hq := hq h61 eh61
  refine ck_iconst (v := 1) dX12_works_44 (by decide) ?_
  exact ck_iret rfl (by decide) rfl rfl dX12_works_45 ⟨_, rfl, rfl, hq⟩
set_option maxHeartbeats 4000000 in
set_option maxRecDepth 100000 in
theorem c_X12_works {gr : Bool} {x1 : Int32} {h : ck_H} {Q : Int32 → ck_H → Prop} (hq : wp_X12_works x1 h Q) : ck_M yX12_works cX12_works 8 (some .boolean) 3 0 0 gr ck_shM h [.ref 0, .int x1] (ck_Qi ck_shM Q) := by
  refine ck_entry (lv := [(0, .ref 0), (1, .int x1)]) false (own := RX12) rfl (fun q => by cases q) (by decide) (Nat.le_of_ble_eq_true rfl) rfl ?_
  refine ck_aload_n 0 dX12_works_0 rfl rfl ?_
  refine ck_getR clX12 33 rfl rfl (by decide) fl_X12_69 dX12_works_1 ?_
  refine ck_aload_n 0 dX12_works_4 rfl rfl ?_
  refine ck_getI clX12 34 rfl rfl (by decide) fl_X12_305 dX12_works_5 ?_
  refine ck_iconst (v := 1) dX12_works_8 (by decide) ?_
  refine ck_isub dX12_works_9 ?_
  obtain ⟨b1, hq⟩ := hq
  refine ck_lald rfl rfl b1 dX12_works_10 ?_
  refine ck_nmL (fun v2 ev2 => ?_)
  have hq := hq v2 ev2
  refine ck_lstore_n (lv' := [(2, .long v2), (0, .ref 0), (1, .int x1)]) dX12_works_11 rfl (by decide) rfl ?_
  refine ck_iload_n 2 dX12_works_12 rfl rfl ?_
  refine ck_sipush (v := 260) dX12_works_13 (by decide) ?_
  refine ck_icmp_ne (tgt := 46) dX12_works_16 (by decide) (fun c3 => ?_) (fun c3 => ?_)
  · have hq := hq.1 c3
    refine ck_aload_n 1 dX12_works_46 rfl rfl ?_
    refine ck_getR clX12 33 rfl rfl (by decide) fl_X12_69 dX12_works_47 ?_
    refine ck_aload_n 1 dX12_works_50 rfl rfl ?_
    refine ck_getI clX12 34 rfl rfl (by decide) fl_X12_305 dX12_works_51 ?_
    refine ck_iconst (v := 2) dX12_works_54 (by decide) ?_
    refine ck_isub dX12_works_55 ?_
    obtain ⟨b4, hq⟩ := hq
    refine ck_lald rfl rfl b4 dX12_works_56 ?_
    refine ck_nmL (fun v5 ev5 => ?_)
    have hq := hq v5 ev5
    refine ck_lstore (lv' := [(4, .long v5), (2, .long v2), (0, .ref 0), (1, .int x1)]) dX12_works_57 (by decide) rfl ?_
    refine ck_aload_n 2 dX12_works_59 rfl rfl ?_
    refine ck_dup dX12_works_60 rfl ?_
    refine ck_getI clX12 34 rfl rfl (by decide) fl_X12_305 dX12_works_61 ?_
    refine ck_iconst (v := 1) dX12_works_64 (by decide) ?_
    refine ck_isub dX12_works_65 ?_
    refine ck_putI clX12 34 rfl rfl (by decide) fl_X12_305 rfl rfl rfl dX12_works_66 ?_
    refine ck_nmH (fun h6 eh6 => ?_)
    have hq := hq h6 eh6
    refine ck_iload_n 3 dX12_works_69 rfl rfl ?_
    by_cases c7 : x1 = 42
    · have hq := hq.1 c7
      refine ck_lookup (off := 116) (tgt := 186) dX12_works_70 (by decide) (by rw [c7]; try rfl) (by decide) ?_
      refine ck_lload 0 dX12_works_186 rfl ?_
      refine ck_lconst (v := 0) dX12_works_188 (by decide) ?_
      refine ck_lcmp dX12_works_189 ?_
      refine ck_if_eq (tgt := 212) dX12_works_190 (by decide) (fun c8 => ?_) (fun c8 => ?_)
      · have hq := hq.1 c8
        refine ck_loc [2, 1, 0] rfl ?_
        exact cp_X12_works_212 _ _ _ hq
      · have hq := hq.2 c8
        refine ck_lload_n 1 dX12_works_193 rfl rfl ?_
        refine ck_mabsL ml_X12_312 w_mabsL (by decide) (Nat.le_of_ble_eq_true rfl) (by decide) (by decide) dX12_works_194 ?_
        refine ck_ldc2 con_X12_318 dX12_works_197 ?_
        refine ck_lload 0 dX12_works_200 rfl ?_
        refine ck_mabsL ml_X12_312 w_mabsL (by decide) (Nat.le_of_ble_eq_true rfl) (by decide) (by decide) dX12_works_202 ?_
        obtain ⟨b14, hq⟩ := hq
        refine ck_ldiv dX12_works_205 b14 ?_
        refine ck_lcmp dX12_works_206 ?_
        refine ck_if_le (tgt := 212) dX12_works_207 (by decide) (fun c15 => ?_) (fun c15 => ?_)
        · have hq := hq.1 c15
          refine ck_loc [2, 1, 0] rfl ?_
          exact cp_X12_works_212 _ _ _ hq
        · have hq := hq.2 c15
          refine ck_iconst (v := 0) dX12_works_210 (by decide) ?_
          exact ck_iret rfl (by decide) rfl rfl dX12_works_211 ⟨_, rfl, rfl, hq⟩
    have hq := hq.2 c7
    by_cases c16 : x1 = 43
    · have hq := hq.1 c16
      refine ck_lookup (off := 98) (tgt := 168) dX12_works_70 (by decide) (by rw [c16]; try rfl) (by decide) ?_
      refine ck_lload 0 dX12_works_168 rfl ?_
      refine ck_lload_n 1 dX12_works_170 rfl rfl ?_
      refine ck_ladd dX12_works_171 ?_
      refine ck_nmL (fun v17 ev17 => ?_)
      have hq := hq v17 ev17
      refine ck_lstore (lv' := [(6, .long v17), (4, .long v5), (2, .long v2), (0, .ref 0), (1, .int x1)]) dX12_works_172 (by decide) rfl ?_
      refine ck_goto (tgt := 407) dX12_works_174 (by decide) ?_
      refine ck_loc [3, 0] rfl ?_
      exact cp_X12_works_407 _ _ hq
    have hq := hq.2 c16
    by_cases c18 : x1 = 45
    · have hq := hq.1 c18
      refine ck_lookup (off := 107) (tgt := 177) dX12_works_70 (by decide) (by rw [c18]; try rfl) (by decide) ?_
      refine ck_lload 0 dX12_works_177 rfl ?_
      refine ck_lload_n 1 dX12_works_179 rfl rfl ?_
      refine ck_lsub dX12_works_180 ?_
      refine ck_nmL (fun v19 ev19 => ?_)
      have hq := hq v19 ev19
      refine ck_lstore (lv' := [(6, .long v19), (4, .long v5), (2, .long v2), (0, .ref 0), (1, .int x1)]) dX12_works_181 (by decide) rfl ?_
      refine ck_goto (tgt := 407) dX12_works_183 (by decide) ?_
      refine ck_loc [3, 0] rfl ?_
      exact cp_X12_works_407 _ _ hq
    have hq := hq.2 c18
    by_cases c20 : x1 = 47
    · have hq := hq.1 c20
      refine ck_lookup (off := 151) (tgt := 221) dX12_works_70 (by decide) (by rw [c20]; try rfl) (by decide) ?_
      refine ck_lload_n 1 dX12_works_221 rfl rfl ?_
      refine ck_lconst (v := 0) dX12_works_222 (by decide) ?_
      refine ck_lcmp dX12_works_223 ?_
      refine ck_if_ne (tgt := 229) dX12_works_224 (by decide) (fun c21 => ?_) (fun c21 => ?_)
      · have hq := hq.1 c21
        refine ck_lload 0 dX12_works_229 rfl ?_
        refine ck_lload_n 1 dX12_works_231 rfl rfl ?_
        obtain ⟨b22, hq⟩ := hq
        refine ck_ldiv dX12_works_232 b22 ?_
        refine ck_nmL (fun v23 ev23 => ?_)
        have hq := hq v23 ev23
        refine ck_lstore (lv' := [(6, .long v23), (4, .long v5), (2, .long v2), (0, .ref 0), (1, .int x1)]) dX12_works_233 (by decide) rfl ?_
        refine ck_goto (tgt := 407) dX12_works_235 (by decide) ?_
        refine ck_loc [3, 0] rfl ?_
        exact cp_X12_works_407 _ _ hq
      · have hq := hq.2 c21
        refine ck_iconst (v := 0) dX12_works_227 (by decide) ?_
        exact ck_iret rfl (by decide) rfl rfl dX12_works_228 ⟨_, rfl, rfl, hq⟩
    have hq := hq.2 c20
    by_cases c24 : x1 = 60
    · have hq := hq.1 c24
      refine ck_lookup (off := 168) (tgt := 238) dX12_works_70 (by decide) (by rw [c24]; try rfl) (by decide) ?_
      refine ck_lload 0 dX12_works_238 rfl ?_
      refine ck_lload_n 1 dX12_works_240 rfl rfl ?_
      refine ck_lcmp dX12_works_241 ?_
      refine ck_if_ge (tgt := 249) dX12_works_242 (by decide) (fun c25 => ?_) (fun c25 => ?_)
      · have hq := hq.1 c25
        refine ck_iconst (v := 0) dX12_works_249 (by decide) ?_
        refine ck_loc [2] rfl ?_
        exact cp_X12_works_250 _ _ hq
      · have hq := hq.2 c25
        refine ck_iconst (v := 1) dX12_works_245 (by decide) ?_
        refine ck_goto (tgt := 250) dX12_works_246 (by decide) ?_
        refine ck_loc [2] rfl ?_
        exact cp_X12_works_250 _ _ hq
    have hq := hq.2 c24
    by_cases c28 : x1 = 61
    · have hq := hq.1 c28
      refine ck_lookup (off := 208) (tgt := 278) dX12_works_70 (by decide) (by rw [c28]; try rfl) (by decide) ?_
      refine ck_lload 0 dX12_works_278 rfl ?_
      refine ck_lload_n 1 dX12_works_280 rfl rfl ?_
      refine ck_lcmp dX12_works_281 ?_
      refine ck_if_ne (tgt := 289) dX12_works_282 (by decide) (fun c29 => ?_) (fun c29 => ?_)
      · have hq := hq.1 c29
        refine ck_iconst (v := 0) dX12_works_289 (by decide) ?_
        refine ck_loc [2] rfl ?_
        exact cp_X12_works_290 _ _ hq
      · have hq := hq.2 c29
        refine ck_iconst (v := 1) dX12_works_285 (by decide) ?_
        refine ck_goto (tgt := 290) dX12_works_286 (by decide) ?_
        refine ck_loc [2] rfl ?_
        exact cp_X12_works_290 _ _ hq
    have hq := hq.2 c28
    by_cases c32 : x1 = 62
    · have hq := hq.1 c32
      refine ck_lookup (off := 188) (tgt := 258) dX12_works_70 (by decide) (by rw [c32]; try rfl) (by decide) ?_
      refine ck_lload 0 dX12_works_258 rfl ?_
      refine ck_lload_n 1 dX12_works_260 rfl rfl ?_
      refine ck_lcmp dX12_works_261 ?_
      refine ck_if_le (tgt := 269) dX12_works_262 (by decide) (fun c33 => ?_) (fun c33 => ?_)
      · have hq := hq.1 c33
        refine ck_iconst (v := 0) dX12_works_269 (by decide) ?_
        refine ck_loc [2] rfl ?_
        exact cp_X12_works_270 _ _ hq
      · have hq := hq.2 c33
        refine ck_iconst (v := 1) dX12_works_265 (by decide) ?_
        refine ck_goto (tgt := 270) dX12_works_266 (by decide) ?_
        refine ck_loc [2] rfl ?_
        exact cp_X12_works_270 _ _ hq
    have hq := hq.2 c32
    by_cases c36 : x1 = 256
    · have hq := hq.1 c36
      refine ck_lookup (off := 228) (tgt := 298) dX12_works_70 (by decide) (by rw [c36]; try rfl) (by decide) ?_
      refine ck_lload 0 dX12_works_298 rfl ?_
      refine ck_lload_n 1 dX12_works_300 rfl rfl ?_
      refine ck_lcmp dX12_works_301 ?_
      refine ck_if_gt (tgt := 309) dX12_works_302 (by decide) (fun c37 => ?_) (fun c37 => ?_)
      · have hq := hq.1 c37
        refine ck_iconst (v := 0) dX12_works_309 (by decide) ?_
        refine ck_loc [2] rfl ?_
        exact cp_X12_works_310 _ _ hq
      · have hq := hq.2 c37
        refine ck_iconst (v := 1) dX12_works_305 (by decide) ?_
        refine ck_goto (tgt := 310) dX12_works_306 (by decide) ?_
        refine ck_loc [2] rfl ?_
        exact cp_X12_works_310 _ _ hq
    have hq := hq.2 c36
    by_cases c40 : x1 = 257
    · have hq := hq.1 c40
      refine ck_lookup (off := 268) (tgt := 338) dX12_works_70 (by decide) (by rw [c40]; try rfl) (by decide) ?_
      refine ck_lload 0 dX12_works_338 rfl ?_
      refine ck_lload_n 1 dX12_works_340 rfl rfl ?_
      refine ck_lcmp dX12_works_341 ?_
      refine ck_if_eq (tgt := 349) dX12_works_342 (by decide) (fun c41 => ?_) (fun c41 => ?_)
      · have hq := hq.1 c41
        refine ck_iconst (v := 0) dX12_works_349 (by decide) ?_
        refine ck_loc [2] rfl ?_
        exact cp_X12_works_350 _ _ hq
      · have hq := hq.2 c41
        refine ck_iconst (v := 1) dX12_works_345 (by decide) ?_
        refine ck_goto (tgt := 350) dX12_works_346 (by decide) ?_
        refine ck_loc [2] rfl ?_
        exact cp_X12_works_350 _ _ hq
    have hq := hq.2 c40
    by_cases c44 : x1 = 258
    · have hq := hq.1 c44
      refine ck_lookup (off := 248) (tgt := 318) dX12_works_70 (by decide) (by rw [c44]; try rfl) (by decide) ?_
      refine ck_lload 0 dX12_works_318 rfl ?_
      refine ck_lload_n 1 dX12_works_320 rfl rfl ?_
      refine ck_lcmp dX12_works_321 ?_
      refine ck_if_lt (tgt := 329) dX12_works_322 (by decide) (fun c45 => ?_) (fun c45 => ?_)
      · have hq := hq.1 c45
        refine ck_iconst (v := 0) dX12_works_329 (by decide) ?_
        refine ck_loc [2] rfl ?_
        exact cp_X12_works_330 _ _ hq
      · have hq := hq.2 c45
        refine ck_iconst (v := 1) dX12_works_325 (by decide) ?_
        refine ck_goto (tgt := 330) dX12_works_326 (by decide) ?_
        refine ck_loc [2] rfl ?_
        exact cp_X12_works_330 _ _ hq
    have hq := hq.2 c44
    by_cases c48 : x1 = 261
    · have hq := hq.1 c48
      refine ck_lookup (off := 288) (tgt := 358) dX12_works_70 (by decide) (by rw [c48]; try rfl) (by decide) ?_
      refine ck_lload 0 dX12_works_358 rfl ?_
      refine ck_lconst (v := 0) dX12_works_360 (by decide) ?_
      refine ck_lcmp dX12_works_361 ?_
      refine ck_if_eq (tgt := 375) dX12_works_362 (by decide) (fun c49 => ?_) (fun c49 => ?_)
      · have hq := hq.1 c49
        refine ck_loc [2] rfl ?_
        exact cp_X12_works_375  _ hq
      · have hq := hq.2 c49
        refine ck_lload_n 1 dX12_works_365 rfl rfl ?_
        refine ck_lconst (v := 0) dX12_works_366 (by decide) ?_
        refine ck_lcmp dX12_works_367 ?_
        refine ck_if_eq (tgt := 375) dX12_works_368 (by decide) (fun c52 => ?_) (fun c52 => ?_)
        · have hq := hq.1 c52
          refine ck_loc [2] rfl ?_
          exact cp_X12_works_375  _ hq
        · have hq := hq.2 c52
          refine ck_iconst (v := 1) dX12_works_371 (by decide) ?_
          refine ck_goto (tgt := 376) dX12_works_372 (by decide) ?_
          refine ck_loc [2] rfl ?_
          exact cp_X12_works_376 _ _ hq
    have hq := hq.2 c48
    refine ck_lookup (off := 314) (tgt := 384) dX12_works_70 (by decide) (by show Op.lookupswitch.offset [(42, 116), (43, 98), (45, 107), (47, 151), (60, 168), (61, 208), (62, 188), (256, 228), (257, 268), (258, 248), (261, 288)] _ _ = _; rw [lv_osw c7 (by decide), lv_osw c16 (by decide), lv_osw c18 (by decide), lv_osw c20 (by decide), lv_osw c24 (by decide), lv_osw c28 (by decide), lv_osw c32 (by decide), lv_osw c36 (by decide), lv_osw c40 (by decide), lv_osw c44 (by decide), lv_osw c48 (by decide)]; try rfl) (by decide) ?_
    refine ck_lload 0 dX12_works_384 rfl ?_
    refine ck_lconst (v := 0) dX12_works_386 (by decide) ?_
    refine ck_lcmp dX12_works_387 ?_
    refine ck_if_ne (tgt := 397) dX12_works_388 (by decide) (fun c53 => ?_) (fun c53 => ?_)
    · have hq := hq.1 c53
      refine ck_loc [2] rfl ?_
      exact cp_X12_works_397  _ hq
    · have hq := hq.2 c53
      refine ck_lload_n 1 dX12_works_391 rfl rfl ?_
      refine ck_lconst (v := 0) dX12_works_392 (by decide) ?_
      refine ck_lcmp dX12_works_393 ?_
      refine ck_if_eq (tgt := 401) dX12_works_394 (by decide) (fun c56 => ?_) (fun c56 => ?_)
      · have hq := hq.1 c56
        refine ck_iconst (v := 0) dX12_works_401 (by decide) ?_
        refine ck_loc [2] rfl ?_
        exact cp_X12_works_402 _ _ hq
      · have hq := hq.2 c56
        refine ck_loc [2] rfl ?_
        exact cp_X12_works_397  _ hq
  · have hq := hq.2 c3
    refine ck_aload_n 1 dX12_works_19 rfl rfl ?_
    refine ck_getR clX12 33 rfl rfl (by decide) fl_X12_69 dX12_works_20 ?_
    refine ck_aload_n 1 dX12_works_23 rfl rfl ?_
    refine ck_getI clX12 34 rfl rfl (by decide) fl_X12_305 dX12_works_24 ?_
    refine ck_iconst (v := 1) dX12_works_27 (by decide) ?_
    refine ck_isub dX12_works_28 ?_
    refine ck_lload_n 0 dX12_works_29 rfl rfl ?_
    refine ck_lconst (v := 0) dX12_works_30 (by decide) ?_
    refine ck_lcmp dX12_works_31 ?_
    refine ck_if_ne (tgt := 39) dX12_works_32 (by decide) (fun c57 => ?_) (fun c57 => ?_)
    · have hq := hq.1 c57
      refine ck_iconst (v := 0) dX12_works_39 (by decide) ?_
      refine ck_loc [] rfl ?_
      exact cp_X12_works_40 _ _ _ hq
    · have hq := hq.2 c57
      refine ck_iconst (v := 1) dX12_works_35 (by decide) ?_
      refine ck_goto (tgt := 40) dX12_works_36 (by decide) ?_
      refine ck_loc [] rfl ?_
      exact cp_X12_works_40 _ _ _ hq
def wp_X12_goes_96 (Q : Int32 → ck_H → Prop) (Kc : Int32 → Int32 → ck_H → Prop) (x1 : Int32) (x2 : Int32) (h : ck_H) : Prop := (∀ v15, v15 = x2 + 1 → Kc x1 v15 h)
def wp_X12_goes_85 (Q : Int32 → ck_H → Prop) (Kc : Int32 → Int32 → ck_H → Prop) (x1 : Int32) (x2 : Int32) (y1 : Int32) (y2 : Int64) (h : ck_H) : Prop := (vp_in y1 64 ∧ (∀ h13, h13 = ck_sL h 19 y1.toNatClampNeg y2 → (∀ h14, h14 = ck_sI h13 0 34 ((h13.1 0 34) + (1 : Int32)) → wp_X12_goes_96 Q Kc x1 x2 h14)))
def wp_X12_goes_12 (Q : Int32 → ck_H → Prop) : Nat → Int32 → Int32 → ck_H → Prop
  | 0 => fun _ _ _ => False
  | n + 1 => fun x1 x2 h => (vp_in x1 6 ∧ (((h.1 15 x1.toNatClampNeg) ≤ x2 → Q (1 : Int32) h) ∧ (¬ (h.1 15 x1.toNatClampNeg) ≤ x2 → (vp_in x2 128 ∧ ((¬ (h.1 16 x2.toNatClampNeg) = (2 : Int32) → (vp_in x2 128 ∧ ((¬ (h.1 16 x2.toNatClampNeg) = 0 → (vp_in x2 128 ∧ (vp_in (h.1 17 x2.toNatClampNeg) 7 ∧ wp_X12_goes_85 Q (wp_X12_goes_12 Q n) x1 x2 (h.1 0 34) (h.2 18 (h.1 17 x2.toNatClampNeg).toNatClampNeg) h))) ∧ ((h.1 16 x2.toNatClampNeg) = 0 → (vp_in x2 128 ∧ wp_X12_goes_85 Q (wp_X12_goes_12 Q n) x1 x2 (h.1 0 34) (h.1 17 x2.toNatClampNeg).toInt64 h))))) ∧ ((h.1 16 x2.toNatClampNeg) = (2 : Int32) → (vp_in x2 128 ∧ (wp_X12_works (h.1 17 x2.toNatClampNeg) h (fun r19 h18 => ((¬ r19 = 0 → wp_X12_goes_96 Q (wp_X12_goes_12 Q n) x1 x2 h18) ∧ (r19 = 0 → Q (0 : Int32) h18)))))))))))
def wp_X12_goes (x1 : Int32) (h : ck_H) (Q : Int32 → ck_H → Prop) : Prop := (∀ h1, h1 = ck_sI h 0 34 (0 : Int32) → (vp_in x1 6 ∧ (∀ v3, v3 = (h1.1 14 x1.toNatClampNeg) → wp_X12_goes_12 Q lpN x1 v3 h1)))
set_option maxHeartbeats 4000000 in
set_option maxRecDepth 100000 in
theorem cp_X12_goes_96 {gr : Bool} {Q : Int32 → ck_H → Prop} {Kc : Int32 → Int32 → ck_H → Prop} (hKc : ∀ (x1 : Int32) (x2 : Int32) (h : ck_H), Kc x1 x2 h → ck_W cX12_goes 3 RX12 (some .boolean) 4 0 0 false gr (ck_Qi ck_shM Q) ck_shM h 0 0 12 [(0, .ref 0), (1, .int x1), (2, .int x2)] []) : ∀ (x1 : Int32) (x2 : Int32) (h : ck_H), wp_X12_goes_96 Q Kc x1 x2 h → ck_W cX12_goes 3 RX12 (some .boolean) 4 0 0 false gr (ck_Qi ck_shM Q) ck_shM h 0 0 96 [(0, .ref 0), (1, .int x1), (2, .int x2)] [] := by
  intro x1 x2 h hq
  obtain ⟨v15, ev15⟩ : ∃ z : Int32, z = x2 + 1 := ⟨_, rfl⟩
  have hq := hq v15 ev15
  refine ck_iinc (v := v15) (lv' := [(2, .int v15), (0, .ref 0), (1, .int x1)]) 2 dX12_goes_96 rfl (by rw [ev15]; rfl) (by decide) rfl ?_
  refine ck_goto (tgt := 12) dX12_goes_99 (by decide) ?_
  refine ck_loc [1, 2, 0] rfl ?_
  exact hKc _ _ _ hq
set_option maxHeartbeats 4000000 in
set_option maxRecDepth 100000 in
theorem cp_X12_goes_85 {gr : Bool} {Q : Int32 → ck_H → Prop} {Kc : Int32 → Int32 → ck_H → Prop} (hKc : ∀ (x1 : Int32) (x2 : Int32) (h : ck_H), Kc x1 x2 h → ck_W cX12_goes 3 RX12 (some .boolean) 4 0 0 false gr (ck_Qi ck_shM Q) ck_shM h 0 0 12 [(0, .ref 0), (1, .int x1), (2, .int x2)] []) : ∀ (x1 : Int32) (x2 : Int32) (y1 : Int32) (y2 : Int64) (h : ck_H), wp_X12_goes_85 Q Kc x1 x2 y1 y2 h → ck_W cX12_goes 3 RX12 (some .boolean) 4 0 0 false gr (ck_Qi ck_shM Q) ck_shM h 0 0 85 [(0, .ref 0), (1, .int x1), (2, .int x2)] [.long y2, .int y1, .ref 19] := by
  intro x1 x2 y1 y2 h hq
  obtain ⟨b12, hq⟩ := hq
  refine ck_last rfl rfl b12 dX12_goes_85 ?_
  refine ck_nmH (fun h13 eh13 => ?_)
  have hq := hq h13 eh13
  refine ck_aload_n 0 dX12_goes_86 rfl rfl ?_
  refine ck_dup dX12_goes_87 rfl ?_
  refine ck_getI clX12 34 rfl rfl (by decide) fl_X12_305 dX12_goes_88 ?_
  refine ck_iconst (v := 1) dX12_goes_91 (by decide) ?_
  refine ck_iadd dX12_goes_92 ?_
  refine ck_putI clX12 34 rfl rfl (by decide) fl_X12_305 rfl rfl rfl dX12_goes_93 ?_
  refine ck_nmH (fun h14 eh14 => ?_)
  have hq := hq h14 eh14
  exact cp_X12_goes_96 hKc _ _ _ hq
set_option maxHeartbeats 4000000 in
set_option maxRecDepth 100000 in
theorem cp_X12_goes_12 {gr : Bool} {Q : Int32 → ck_H → Prop} : ∀ (n : Nat) (x1 : Int32) (x2 : Int32) (h : ck_H), wp_X12_goes_12 Q n x1 x2 h → ck_W cX12_goes 3 RX12 (some .boolean) 4 0 0 false gr (ck_Qi ck_shM Q) ck_shM h 0 0 12 [(0, .ref 0), (1, .int x1), (2, .int x2)] [] := by
  intro n
  induction n with
  | zero => intro x1 x2 h hq; exact hq.elim
  | succ n hKc =>
    intro x1 x2 h hq
    refine ck_iload_n 2 dX12_goes_12 rfl rfl ?_
    refine ck_aload_n 0 dX12_goes_13 rfl rfl ?_
    refine ck_getR clX12 16 rfl rfl (by decide) fl_X12_52 dX12_goes_14 ?_
    refine ck_iload_n 1 dX12_goes_17 rfl rfl ?_
    obtain ⟨b4, hq⟩ := hq
    refine ck_iald rfl rfl b4 dX12_goes_18 ?_
    refine ck_icmp_ge (tgt := 102) dX12_goes_19 (by decide) (fun c5 => ?_) (fun c5 => ?_)
    · have hq := hq.1 c5
      refine ck_iconst (v := 1) dX12_goes_102 (by decide) ?_
      exact ck_iret rfl (by decide) rfl rfl dX12_goes_103 ⟨_, rfl, rfl, hq⟩
    · have hq := hq.2 c5
      refine ck_aload_n 0 dX12_goes_22 rfl rfl ?_
      refine ck_getR clX12 17 rfl rfl (by decide) fl_X12_55 dX12_goes_23 ?_
      refine ck_iload_n 2 dX12_goes_26 rfl rfl ?_
      obtain ⟨b6, hq⟩ := hq
      refine ck_iald rfl rfl b6 dX12_goes_27 ?_
      refine ck_iconst (v := 2) dX12_goes_28 (by decide) ?_
      refine ck_icmp_ne (tgt := 47) dX12_goes_29 (by decide) (fun c7 => ?_) (fun c7 => ?_)
      · have hq := hq.1 c7
        refine ck_aload_n 0 dX12_goes_47 rfl rfl ?_
        refine ck_getR clX12 33 rfl rfl (by decide) fl_X12_69 dX12_goes_48 ?_
        refine ck_aload_n 0 dX12_goes_51 rfl rfl ?_
        refine ck_getI clX12 34 rfl rfl (by decide) fl_X12_305 dX12_goes_52 ?_
        refine ck_aload_n 0 dX12_goes_55 rfl rfl ?_
        refine ck_getR clX12 17 rfl rfl (by decide) fl_X12_55 dX12_goes_56 ?_
        refine ck_iload_n 2 dX12_goes_59 rfl rfl ?_
        obtain ⟨b8, hq⟩ := hq
        refine ck_iald rfl rfl b8 dX12_goes_60 ?_
        refine ck_if_ne (tgt := 74) dX12_goes_61 (by decide) (fun c9 => ?_) (fun c9 => ?_)
        · have hq := hq.1 c9
          refine ck_aload_n 0 dX12_goes_74 rfl rfl ?_
          refine ck_getR clX12 32 rfl rfl (by decide) fl_X12_65 dX12_goes_75 ?_
          refine ck_aload_n 0 dX12_goes_78 rfl rfl ?_
          refine ck_getR clX12 18 rfl rfl (by decide) fl_X12_58 dX12_goes_79 ?_
          refine ck_iload_n 2 dX12_goes_82 rfl rfl ?_
          obtain ⟨b10, hq⟩ := hq
          refine ck_iald rfl rfl b10 dX12_goes_83 ?_
          obtain ⟨b11, hq⟩ := hq
          refine ck_lald rfl rfl b11 dX12_goes_84 ?_
          exact cp_X12_goes_85 hKc _ _ _ _ _ hq
        · have hq := hq.2 c9
          refine ck_aload_n 0 dX12_goes_64 rfl rfl ?_
          refine ck_getR clX12 18 rfl rfl (by decide) fl_X12_58 dX12_goes_65 ?_
          refine ck_iload_n 2 dX12_goes_68 rfl rfl ?_
          obtain ⟨b16, hq⟩ := hq
          refine ck_iald rfl rfl b16 dX12_goes_69 ?_
          refine ck_i2l dX12_goes_70 ?_
          refine ck_goto (tgt := 85) dX12_goes_71 (by decide) ?_
          exact cp_X12_goes_85 hKc _ _ _ _ _ hq
      · have hq := hq.2 c7
        refine ck_aload_n 0 dX12_goes_32 rfl rfl ?_
        refine ck_aload_n 0 dX12_goes_33 rfl rfl ?_
        refine ck_getR clX12 18 rfl rfl (by decide) fl_X12_58 dX12_goes_34 ?_
        refine ck_iload_n 2 dX12_goes_37 rfl rfl ?_
        obtain ⟨b17, hq⟩ := hq
        refine ck_iald rfl rfl b17 dX12_goes_38 ?_
        refine ck_callV (c_X12_works hq) rfl cal_X12_works rfl ml_X12_322 vir_X12_works rfl rfl (by decide) (Nat.le_of_ble_eq_true rfl) (Nat.le_of_ble_eq_true rfl) (by decide) (by decide) dX12_goes_39 ?_
        rintro _ _ h18 ⟨r19, rfl, rfl, hq⟩
        refine ck_if_ne (tgt := 96) dX12_goes_42 (by decide) (fun c20 => ?_) (fun c20 => ?_)
        · have hq := hq.1 c20
          exact cp_X12_goes_96 hKc _ _ _ hq
        · have hq := hq.2 c20
          refine ck_iconst (v := 0) dX12_goes_45 (by decide) ?_
          exact ck_iret rfl (by decide) rfl rfl dX12_goes_46 ⟨_, rfl, rfl, hq⟩
set_option maxHeartbeats 4000000 in
set_option maxRecDepth 100000 in
theorem c_X12_goes {gr : Bool} {x1 : Int32} {h : ck_H} {Q : Int32 → ck_H → Prop} (hq : wp_X12_goes x1 h Q) : ck_M yX12_goes cX12_goes 3 (some .boolean) 4 0 0 gr ck_shM h [.ref 0, .int x1] (ck_Qi ck_shM Q) := by
  refine ck_entry (lv := [(0, .ref 0), (1, .int x1)]) false (own := RX12) rfl (fun q => by cases q) (by decide) (Nat.le_of_ble_eq_true rfl) rfl ?_
  refine ck_aload_n 0 dX12_goes_0 rfl rfl ?_
  refine ck_iconst (v := 0) dX12_goes_1 (by decide) ?_
  refine ck_putI clX12 34 rfl rfl (by decide) fl_X12_305 rfl rfl rfl dX12_goes_2 ?_
  refine ck_nmH (fun h1 eh1 => ?_)
  have hq := hq h1 eh1
  refine ck_aload_n 0 dX12_goes_5 rfl rfl ?_
  refine ck_getR clX12 15 rfl rfl (by decide) fl_X12_49 dX12_goes_6 ?_
  refine ck_iload_n 1 dX12_goes_9 rfl rfl ?_
  obtain ⟨b2, hq⟩ := hq
  refine ck_iald rfl rfl b2 dX12_goes_10 ?_
  refine ck_nmI (fun v3 ev3 => ?_)
  have hq := hq v3 ev3
  refine ck_istore_n (lv' := [(2, .int v3), (0, .ref 0), (1, .int x1)]) dX12_goes_11 rfl (by decide) rfl ?_
  refine ck_loc [1, 2, 0] rfl ?_
  refine cp_X12_goes_12 lpN _ _ _ hq
def wp_X12_within (x1 : Int32) (x2 : Int32) (x3 : Int32) (x4 : Int32) (h : ck_H) (Q : Int32 → ck_H → Prop) : Prop := (wp_X12_hasLaw x1 h (fun r2 h1 => ((r2 = 0 → Q x4 h1) ∧ (¬ r2 = 0 → (wp_X12_goes x1 h1 (fun r5 h4 => ((¬ r5 = 0 → Q (if (if (h4.2 19 0) < x3.toInt64 then (h4.2 19 0) else x3.toInt64) < x2.toInt64 then x2.toInt64 else (if (h4.2 19 0) < x3.toInt64 then (h4.2 19 0) else x3.toInt64)).toInt32 h4) ∧ (r5 = 0 → Q x4 h4))))))))
set_option maxHeartbeats 4000000 in
set_option maxRecDepth 100000 in
theorem c_X12_within {gr : Bool} {x1 : Int32} {x2 : Int32} {x3 : Int32} {x4 : Int32} {h : ck_H} {Q : Int32 → ck_H → Prop} (hq : wp_X12_within x1 x2 x3 x4 h Q) : ck_M yX12_within cX12_within 5 (some .int) 5 0 0 gr ck_shM h [.ref 0, .int x1, .int x2, .int x3, .int x4] (ck_Qi ck_shM Q) := by
  refine ck_entry (lv := [(0, .ref 0), (1, .int x1), (2, .int x2), (3, .int x3), (4, .int x4)]) false (own := RX12) rfl (fun q => by cases q) (by decide) (Nat.le_of_ble_eq_true rfl) rfl ?_
  refine ck_aload_n 0 dX12_within_0 rfl rfl ?_
  refine ck_iload_n 1 dX12_within_1 rfl rfl ?_
  refine ck_callV (c_X12_hasLaw hq) rfl cal_X12_hasLaw rfl ml_X12_331 vir_X12_hasLaw rfl rfl (by decide) (Nat.le_of_ble_eq_true rfl) (Nat.le_of_ble_eq_true rfl) (by decide) (by decide) dX12_within_2 ?_
  rintro _ _ h1 ⟨r2, rfl, rfl, hq⟩
  refine ck_if_eq (tgt := 16) dX12_within_5 (by decide) (fun c3 => ?_) (fun c3 => ?_)
  · have hq := hq.1 c3
    refine ck_iload 4 dX12_within_16 rfl ?_
    exact ck_iret rfl rfl rfl rfl dX12_within_18 ⟨_, rfl, rfl, hq⟩
  · have hq := hq.2 c3
    refine ck_aload_n 0 dX12_within_8 rfl rfl ?_
    refine ck_iload_n 1 dX12_within_9 rfl rfl ?_
    refine ck_callV (c_X12_goes hq) rfl cal_X12_goes rfl ml_X12_334 vir_X12_goes rfl rfl (by decide) (Nat.le_of_ble_eq_true rfl) (Nat.le_of_ble_eq_true rfl) (by decide) (by decide) dX12_within_10 ?_
    rintro _ _ h4 ⟨r5, rfl, rfl, hq⟩
    refine ck_if_ne (tgt := 19) dX12_within_13 (by decide) (fun c6 => ?_) (fun c6 => ?_)
    · have hq := hq.1 c6
      refine ck_iload_n 2 dX12_within_19 rfl rfl ?_
      refine ck_i2l dX12_within_20 ?_
      refine ck_iload_n 3 dX12_within_21 rfl rfl ?_
      refine ck_i2l dX12_within_22 ?_
      refine ck_aload_n 0 dX12_within_23 rfl rfl ?_
      refine ck_getR clX12 33 rfl rfl (by decide) fl_X12_69 dX12_within_24 ?_
      refine ck_iconst (v := 0) dX12_within_27 (by decide) ?_
      refine ck_lald (j := 0) (by decide) rfl (ck_inL (by decide)) dX12_within_28 ?_
      refine ck_mminL ml_X12_337 w_mminL (by decide) (Nat.le_of_ble_eq_true rfl) (by decide) (by decide) dX12_within_29 ?_
      refine ck_mmaxL ml_X12_341 w_mmaxL (by decide) (Nat.le_of_ble_eq_true rfl) (by decide) (by decide) dX12_within_32 ?_
      refine ck_l2i dX12_within_35 ?_
      exact ck_iret rfl rfl rfl rfl dX12_within_36 ⟨_, rfl, rfl, hq⟩
    · have hq := hq.2 c6
      refine ck_iload 4 dX12_within_16 rfl ?_
      exact ck_iret rfl rfl rfl rfl dX12_within_18 ⟨_, rfl, rfl, hq⟩
def wp_X12_forceOf (x1 : Int32) (x2 : Int32) (x3 : Int32) (x4 : Int32) (h : ck_H) (Q : Int32 → ck_H → Prop) : Prop := (wp_X12_calls x1 x2 x3 x4 h (fun h1 => (vp_in x2 8 ∧ (vp_in x1 23 ∧ (wp_X12_within (0 : Int32) (0 : Int32) (999 : Int32) (((h1.1 4 x2.toNatClampNeg) * (h1.1 21 x1.toNatClampNeg)) / (50 : Int32)) h1 (fun r5 h4 => (vp_in (((4 : Int32) * x1) + x2) 92 ∧ ((¬ (h4.1 24 (((4 : Int32) * x1) + x2).toNatClampNeg) = 0 → Q r5 h4) ∧ ((h4.1 24 (((4 : Int32) * x1) + x2).toNatClampNeg) = 0 → (((h4.1 0 46) = (4 : Int32) → Q r5 h4) ∧ (¬ (h4.1 0 46) = (4 : Int32) → Q (r5 / (2 : Int32)) h4)))))))))))
set_option maxHeartbeats 4000000 in
set_option maxRecDepth 100000 in
theorem c_X12_forceOf {gr : Bool} {x1 : Int32} {x2 : Int32} {x3 : Int32} {x4 : Int32} {h : ck_H} {Q : Int32 → ck_H → Prop} (hq : wp_X12_forceOf x1 x2 x3 x4 h Q) : ck_M yX12_forceOf cX12_forceOf 6 (some .int) 6 0 0 gr ck_shM h [.ref 0, .int x1, .int x2, .int x3, .int x4] (ck_Qi ck_shM Q) := by
  refine ck_entry (lv := [(0, .ref 0), (1, .int x1), (2, .int x2), (3, .int x3), (4, .int x4)]) false (own := RX12) rfl (fun q => by cases q) (by decide) (Nat.le_of_ble_eq_true rfl) rfl ?_
  refine ck_aload_n 0 dX12_forceOf_0 rfl rfl ?_
  refine ck_iload_n 1 dX12_forceOf_1 rfl rfl ?_
  refine ck_iload_n 2 dX12_forceOf_2 rfl rfl ?_
  refine ck_iload_n 3 dX12_forceOf_3 rfl rfl ?_
  refine ck_iload 4 dX12_forceOf_4 rfl ?_
  refine ck_callV (c_X12_calls hq) rfl cal_X12_calls rfl ml_X12_344 vir_X12_calls rfl rfl (by decide) (Nat.le_of_ble_eq_true rfl) (Nat.le_of_ble_eq_true rfl) (by decide) (by decide) dX12_forceOf_6 ?_
  rintro _ _ h1 ⟨rfl, rfl, hq⟩
  refine ck_aload_n 0 dX12_forceOf_9 rfl rfl ?_
  refine ck_iconst (v := 0) dX12_forceOf_10 (by decide) ?_
  refine ck_iconst (v := 0) dX12_forceOf_11 (by decide) ?_
  refine ck_sipush (v := 999) dX12_forceOf_12 (by decide) ?_
  refine ck_aload_n 0 dX12_forceOf_15 rfl rfl ?_
  refine ck_getR clX12 5 rfl rfl (by decide) fl_X12_19 dX12_forceOf_16 ?_
  refine ck_iload_n 2 dX12_forceOf_19 rfl rfl ?_
  obtain ⟨b2, hq⟩ := hq
  refine ck_iald rfl rfl b2 dX12_forceOf_20 ?_
  refine ck_aload_n 0 dX12_forceOf_21 rfl rfl ?_
  refine ck_getR clX12 36 rfl rfl (by decide) fl_X12_75 dX12_forceOf_22 ?_
  refine ck_iload_n 1 dX12_forceOf_25 rfl rfl ?_
  obtain ⟨b3, hq⟩ := hq
  refine ck_iald rfl rfl b3 dX12_forceOf_26 ?_
  refine ck_imul dX12_forceOf_27 ?_
  refine ck_bipush (v := 50) dX12_forceOf_28 (by decide) ?_
  refine ck_idiv dX12_forceOf_30 (by decide) ?_
  refine ck_callV (c_X12_within hq) rfl cal_X12_within rfl ml_X12_348 vir_X12_within rfl rfl (by decide) (Nat.le_of_ble_eq_true rfl) (Nat.le_of_ble_eq_true rfl) (by decide) (by decide) dX12_forceOf_31 ?_
  rintro _ _ h4 ⟨r5, rfl, rfl, hq⟩
  refine ck_istore (lv' := [(5, .int r5), (0, .ref 0), (1, .int x1), (2, .int x2), (3, .int x3), (4, .int x4)]) dX12_forceOf_34 (by decide) rfl ?_
  refine ck_aload_n 1 dX12_forceOf_36 rfl rfl ?_
  refine ck_getR clX12 39 rfl rfl (by decide) fl_X12_84 dX12_forceOf_37 ?_
  refine ck_iconst (v := 4) dX12_forceOf_40 (by decide) ?_
  refine ck_iload_n 2 dX12_forceOf_41 rfl rfl ?_
  refine ck_imul dX12_forceOf_42 ?_
  refine ck_iload_n 3 dX12_forceOf_43 rfl rfl ?_
  refine ck_iadd dX12_forceOf_44 ?_
  obtain ⟨b6, hq⟩ := hq
  refine ck_iald rfl rfl b6 dX12_forceOf_45 ?_
  refine ck_if_ne (tgt := 64) dX12_forceOf_46 (by decide) (fun c7 => ?_) (fun c7 => ?_)
  · have hq := hq.1 c7
    refine ck_iload 0 dX12_forceOf_64 rfl ?_
    exact ck_iret rfl rfl rfl rfl dX12_forceOf_66 ⟨_, rfl, rfl, hq⟩
  · have hq := hq.2 c7
    refine ck_aload_n 1 dX12_forceOf_49 rfl rfl ?_
    refine ck_getI clX12 46 rfl rfl (by decide) fl_X12_352 dX12_forceOf_50 ?_
    refine ck_iconst (v := 4) dX12_forceOf_53 (by decide) ?_
    refine ck_icmp_eq (tgt := 64) dX12_forceOf_54 (by decide) (fun c8 => ?_) (fun c8 => ?_)
    · have hq := hq.1 c8
      refine ck_iload 0 dX12_forceOf_64 rfl ?_
      exact ck_iret rfl rfl rfl rfl dX12_forceOf_66 ⟨_, rfl, rfl, hq⟩
    · have hq := hq.2 c8
      refine ck_iload 0 dX12_forceOf_57 rfl ?_
      refine ck_iconst (v := 2) dX12_forceOf_59 (by decide) ?_
      refine ck_idiv dX12_forceOf_60 (by decide) ?_
      refine ck_goto (tgt := 66) dX12_forceOf_61 (by decide) ?_
      exact ck_iret rfl rfl rfl rfl dX12_forceOf_66 ⟨_, rfl, rfl, hq⟩
def wp_X12_force (x1 : Int32) (x2 : Int32) (h : ck_H) (Q : Int32 → ck_H → Prop) : Prop := (∀ h1, h1 = ck_sI h 0 0 (0 : Int32) → (wp_X12_isJudge x1 h1 (fun r3 h2 => ((r3 = 0 → Q (-1 : Int32) h2) ∧ (¬ r3 = 0 → (wp_X12_isNut x2 h2 (fun r6 h5 => ((r6 = 0 → Q (-1 : Int32) h5) ∧ (¬ r6 = 0 → (vp_in x2 12 ∧ (wp_X12_forceOf (0 : Int32) x1 x2 (h5.1 7 x2.toNatClampNeg) h5 (fun r10 h9 => Q r10 h9))))))))))))
set_option maxHeartbeats 4000000 in
set_option maxRecDepth 100000 in
theorem c_X12_force {gr : Bool} {x1 : Int32} {x2 : Int32} {h : ck_H} {Q : Int32 → ck_H → Prop} (hq : wp_X12_force x1 x2 h Q) : ck_M yX12_force cX12_force 3 (some .int) 7 0 0 gr ck_shM h [.ref 0, .int x1, .int x2] (ck_Qi ck_shM Q) := by
  refine ck_entry (lv := [(0, .ref 0), (1, .int x1), (2, .int x2)]) false (own := RX12) rfl (fun q => by cases q) (by decide) (Nat.le_of_ble_eq_true rfl) rfl ?_
  refine ck_aload_n 0 dX12_force_0 rfl rfl ?_
  refine ck_iconst (v := 0) dX12_force_1 (by decide) ?_
  refine ck_putI clX12 0 rfl rfl (by decide) fl_X12_145 rfl rfl rfl dX12_force_2 ?_
  refine ck_nmH (fun h1 eh1 => ?_)
  have hq := hq h1 eh1
  refine ck_aload_n 0 dX12_force_5 rfl rfl ?_
  refine ck_iload_n 1 dX12_force_6 rfl rfl ?_
  refine ck_callV (c_X12_isJudge hq) rfl cal_X12_isJudge rfl ml_X12_404 vir_X12_isJudge rfl rfl (by decide) (Nat.le_of_ble_eq_true rfl) (Nat.le_of_ble_eq_true rfl) (by decide) (by decide) dX12_force_7 ?_
  rintro _ _ h2 ⟨r3, rfl, rfl, hq⟩
  refine ck_if_eq (tgt := 37) dX12_force_10 (by decide) (fun c4 => ?_) (fun c4 => ?_)
  · have hq := hq.1 c4
    refine ck_iconst (v := -1) dX12_force_37 (by decide) ?_
    exact ck_iret rfl rfl rfl rfl dX12_force_38 ⟨_, rfl, rfl, hq⟩
  · have hq := hq.2 c4
    refine ck_aload_n 0 dX12_force_13 rfl rfl ?_
    refine ck_iload_n 2 dX12_force_14 rfl rfl ?_
    refine ck_callV (c_X12_isNut hq) rfl cal_X12_isNut rfl ml_X12_410 vir_X12_isNut rfl rfl (by decide) (Nat.le_of_ble_eq_true rfl) (Nat.le_of_ble_eq_true rfl) (by decide) (by decide) dX12_force_15 ?_
    rintro _ _ h5 ⟨r6, rfl, rfl, hq⟩
    refine ck_if_eq (tgt := 37) dX12_force_18 (by decide) (fun c7 => ?_) (fun c7 => ?_)
    · have hq := hq.1 c7
      refine ck_iconst (v := -1) dX12_force_37 (by decide) ?_
      exact ck_iret rfl rfl rfl rfl dX12_force_38 ⟨_, rfl, rfl, hq⟩
    · have hq := hq.2 c7
      refine ck_aload_n 0 dX12_force_21 rfl rfl ?_
      refine ck_iconst (v := 0) dX12_force_22 (by decide) ?_
      refine ck_iload_n 1 dX12_force_23 rfl rfl ?_
      refine ck_iload_n 2 dX12_force_24 rfl rfl ?_
      refine ck_aload_n 0 dX12_force_25 rfl rfl ?_
      refine ck_getR clX12 8 rfl rfl (by decide) fl_X12_28 dX12_force_26 ?_
      refine ck_iload_n 2 dX12_force_29 rfl rfl ?_
      obtain ⟨b8, hq⟩ := hq
      refine ck_iald rfl rfl b8 dX12_force_30 ?_
      refine ck_callV (c_X12_forceOf hq) rfl cal_X12_forceOf rfl ml_X12_355 vir_X12_forceOf rfl rfl (by decide) (Nat.le_of_ble_eq_true rfl) (Nat.le_of_ble_eq_true rfl) (by decide) (by decide) dX12_force_31 ?_
      rintro _ _ h9 ⟨r10, rfl, rfl, hq⟩
      refine ck_goto (tgt := 38) dX12_force_34 (by decide) ?_
      exact ck_iret rfl rfl rfl rfl dX12_force_38 ⟨_, rfl, rfl, hq⟩
def wp_X12_slackOf (x1 : Int32) (x2 : Int32) (x3 : Int32) (x4 : Int32) (h : ck_H) (Q : Int32 → ck_H → Prop) : Prop := (wp_X12_calls x1 x2 x3 x4 h (fun h1 => (wp_X12_within (1 : Int32) (1 : Int32) (99 : Int32) (10 : Int32) h1 (fun r3 h2 => Q r3 h2))))
set_option maxHeartbeats 4000000 in
set_option maxRecDepth 100000 in
theorem c_X12_slackOf {gr : Bool} {x1 : Int32} {x2 : Int32} {x3 : Int32} {x4 : Int32} {h : ck_H} {Q : Int32 → ck_H → Prop} (hq : wp_X12_slackOf x1 x2 x3 x4 h Q) : ck_M yX12_slackOf cX12_slackOf 5 (some .int) 6 0 0 gr ck_shM h [.ref 0, .int x1, .int x2, .int x3, .int x4] (ck_Qi ck_shM Q) := by
  refine ck_entry (lv := [(0, .ref 0), (1, .int x1), (2, .int x2), (3, .int x3), (4, .int x4)]) false (own := RX12) rfl (fun q => by cases q) (by decide) (Nat.le_of_ble_eq_true rfl) rfl ?_
  refine ck_aload_n 0 dX12_slackOf_0 rfl rfl ?_
  refine ck_iload_n 1 dX12_slackOf_1 rfl rfl ?_
  refine ck_iload_n 2 dX12_slackOf_2 rfl rfl ?_
  refine ck_iload_n 3 dX12_slackOf_3 rfl rfl ?_
  refine ck_iload 4 dX12_slackOf_4 rfl ?_
  refine ck_callV (c_X12_calls hq) rfl cal_X12_calls rfl ml_X12_344 vir_X12_calls rfl rfl (by decide) (Nat.le_of_ble_eq_true rfl) (Nat.le_of_ble_eq_true rfl) (by decide) (by decide) dX12_slackOf_6 ?_
  rintro _ _ h1 ⟨rfl, rfl, hq⟩
  refine ck_aload_n 0 dX12_slackOf_9 rfl rfl ?_
  refine ck_iconst (v := 1) dX12_slackOf_10 (by decide) ?_
  refine ck_iconst (v := 1) dX12_slackOf_11 (by decide) ?_
  refine ck_bipush (v := 99) dX12_slackOf_12 (by decide) ?_
  refine ck_bipush (v := 10) dX12_slackOf_14 (by decide) ?_
  refine ck_callV (c_X12_within hq) rfl cal_X12_within rfl ml_X12_348 vir_X12_within rfl rfl (by decide) (Nat.le_of_ble_eq_true rfl) (Nat.le_of_ble_eq_true rfl) (by decide) (by decide) dX12_slackOf_16 ?_
  rintro _ _ h2 ⟨r3, rfl, rfl, hq⟩
  exact ck_iret rfl rfl rfl rfl dX12_slackOf_19 ⟨_, rfl, rfl, hq⟩
