theorem dX12_line_0 : decode cX12_line 0 = .ok (.aload_n 0, 1) := by decide +kernel
theorem dX12_line_1 : decode cX12_line 1 = .ok (.getfield 164, 3) := by decide +kernel
theorem dX12_line_4 : decode cX12_line 4 = .ok (.ifCond .ne 12, 3) := by decide +kernel
theorem dX12_line_7 : decode cX12_line 7 = .ok (.aload_n 0, 1) := by decide +kernel
theorem dX12_line_8 : decode cX12_line 8 = .ok (.getfield 174, 3) := by decide +kernel
theorem dX12_line_11 : decode cX12_line 11 = .ok (.bipush 6, 2) := by decide +kernel
theorem dX12_line_13 : decode cX12_line 13 = .ok (.if_icmp .le 9, 3) := by decide +kernel
theorem dX12_line_16 : decode cX12_line 16 = .ok (.aload_n 0, 1) := by decide +kernel
theorem dX12_line_17 : decode cX12_line 17 = .ok (.iconst 1, 1) := by decide +kernel
theorem dX12_line_18 : decode cX12_line 18 = .ok (.invokevirtual 208, 3) := by decide +kernel
theorem dX12_line_21 : decode cX12_line 21 = .ok (.return_, 1) := by decide +kernel
theorem dX12_line_22 : decode cX12_line 22 = .ok (.aload_n 0, 1) := by decide +kernel
theorem dX12_line_23 : decode cX12_line 23 = .ok (.getfield 174, 3) := by decide +kernel
theorem dX12_line_26 : decode cX12_line 26 = .ok (.istore_n 1, 1) := by decide +kernel
theorem dX12_line_27 : decode cX12_line 27 = .ok (.aload_n 0, 1) := by decide +kernel
theorem dX12_line_28 : decode cX12_line 28 = .ok (.iload_n 1, 1) := by decide +kernel
theorem dX12_line_29 : decode cX12_line 29 = .ok (.invokevirtual 222, 3) := by decide +kernel
theorem dX12_line_32 : decode cX12_line 32 = .ok (.ifCond .eq 11, 3) := by decide +kernel
theorem dX12_line_35 : decode cX12_line 35 = .ok (.aload_n 0, 1) := by decide +kernel
theorem dX12_line_36 : decode cX12_line 36 = .ok (.iconst 2, 1) := by decide +kernel
theorem dX12_line_37 : decode cX12_line 37 = .ok (.invokevirtual 208, 3) := by decide +kernel
theorem dX12_line_40 : decode cX12_line 40 = .ok (.goto 30, 3) := by decide +kernel
theorem dX12_line_43 : decode cX12_line 43 = .ok (.iload_n 1, 1) := by decide +kernel
theorem dX12_line_44 : decode cX12_line 44 = .ok (.iconst 3, 1) := by decide +kernel
theorem dX12_line_45 : decode cX12_line 45 = .ok (.if_icmp .lt 25, 3) := by decide +kernel
theorem dX12_line_48 : decode cX12_line 48 = .ok (.iload_n 1, 1) := by decide +kernel
theorem dX12_line_49 : decode cX12_line 49 = .ok (.iconst 5, 1) := by decide +kernel
theorem dX12_line_50 : decode cX12_line 50 = .ok (.if_icmp .gt 20, 3) := by decide +kernel
theorem dX12_line_53 : decode cX12_line 53 = .ok (.aload_n 0, 1) := by decide +kernel
theorem dX12_line_54 : decode cX12_line 54 = .ok (.getfield 225, 3) := by decide +kernel
theorem dX12_line_57 : decode cX12_line 57 = .ok (.iload_n 1, 1) := by decide +kernel
theorem dX12_line_58 : decode cX12_line 58 = .ok (.ishr, 1) := by decide +kernel
theorem dX12_line_59 : decode cX12_line 59 = .ok (.iconst 1, 1) := by decide +kernel
theorem dX12_line_60 : decode cX12_line 60 = .ok (.iand, 1) := by decide +kernel
theorem dX12_line_61 : decode cX12_line 61 = .ok (.iconst 1, 1) := by decide +kernel
theorem dX12_line_62 : decode cX12_line 62 = .ok (.if_icmp .ne 8, 3) := by decide +kernel
theorem dX12_line_65 : decode cX12_line 65 = .ok (.aload_n 0, 1) := by decide +kernel
theorem dX12_line_66 : decode cX12_line 66 = .ok (.iconst 3, 1) := by decide +kernel
theorem dX12_line_67 : decode cX12_line 67 = .ok (.invokevirtual 208, 3) := by decide +kernel
theorem dX12_line_70 : decode cX12_line 70 = .ok (.aload_n 0, 1) := by decide +kernel
theorem dX12_line_71 : decode cX12_line 71 = .ok (.getfield 199, 3) := by decide +kernel
theorem dX12_line_74 : decode cX12_line 74 = .ok (.ifCond .eq 4, 3) := by decide +kernel
theorem dX12_line_77 : decode cX12_line 77 = .ok (.return_, 1) := by decide +kernel
theorem dX12_line_78 : decode cX12_line 78 = .ok (.aload_n 0, 1) := by decide +kernel
theorem dX12_line_79 : decode cX12_line 79 = .ok (.dup, 1) := by decide +kernel
theorem dX12_line_80 : decode cX12_line 80 = .ok (.getfield 225, 3) := by decide +kernel
theorem dX12_line_83 : decode cX12_line 83 = .ok (.iconst 1, 1) := by decide +kernel
theorem dX12_line_84 : decode cX12_line 84 = .ok (.iload_n 1, 1) := by decide +kernel
theorem dX12_line_85 : decode cX12_line 85 = .ok (.ishl, 1) := by decide +kernel
theorem dX12_line_86 : decode cX12_line 86 = .ok (.ior, 1) := by decide +kernel
theorem dX12_line_87 : decode cX12_line 87 = .ok (.putfield 225, 3) := by decide +kernel
theorem dX12_line_90 : decode cX12_line 90 = .ok (.aload_n 0, 1) := by decide +kernel
theorem dX12_line_91 : decode cX12_line 91 = .ok (.invokevirtual 205, 3) := by decide +kernel
theorem dX12_line_94 : decode cX12_line 94 = .ok (.iload_n 1, 1) := by decide +kernel
theorem dX12_line_95 : decode cX12_line 95 = .ok (.tableswitch 339 0 5 #[37, 106, 190, 294, 309, 324], 37) := by decide +kernel
theorem dX12_line_132 : decode cX12_line 132 = .ok (.iconst 4, 1) := by decide +kernel
theorem dX12_line_133 : decode cX12_line 133 = .ok (.aload_n 0, 1) := by decide +kernel
theorem dX12_line_134 : decode cX12_line 134 = .ok (.iconst 0, 1) := by decide +kernel
theorem dX12_line_135 : decode cX12_line 135 = .ok (.invokevirtual 218, 3) := by decide +kernel
theorem dX12_line_138 : decode cX12_line 138 = .ok (.iadd, 1) := by decide +kernel
theorem dX12_line_139 : decode cX12_line 139 = .ok (.istore_n 2, 1) := by decide +kernel
theorem dX12_line_140 : decode cX12_line 140 = .ok (.aload_n 0, 1) := by decide +kernel
theorem dX12_line_141 : decode cX12_line 141 = .ok (.getfield 16, 3) := by decide +kernel
theorem dX12_line_144 : decode cX12_line 144 = .ok (.iload_n 2, 1) := by decide +kernel
theorem dX12_line_145 : decode cX12_line 145 = .ok (.aload_n 0, 1) := by decide +kernel
theorem dX12_line_146 : decode cX12_line 146 = .ok (.aload_n 0, 1) := by decide +kernel
theorem dX12_line_147 : decode cX12_line 147 = .ok (.getfield 16, 3) := by decide +kernel
theorem dX12_line_150 : decode cX12_line 150 = .ok (.iconst 4, 1) := by decide +kernel
theorem dX12_line_151 : decode cX12_line 151 = .ok (.aload_n 0, 1) := by decide +kernel
theorem dX12_line_152 : decode cX12_line 152 = .ok (.iconst 0, 1) := by decide +kernel
theorem dX12_line_153 : decode cX12_line 153 = .ok (.invokevirtual 218, 3) := by decide +kernel
theorem dX12_line_156 : decode cX12_line 156 = .ok (.invokevirtual 228, 3) := by decide +kernel
theorem dX12_line_159 : decode cX12_line 159 = .ok (.iastore, 1) := by decide +kernel
theorem dX12_line_160 : decode cX12_line 160 = .ok (.aload_n 0, 1) := by decide +kernel
theorem dX12_line_161 : decode cX12_line 161 = .ok (.getfield 19, 3) := by decide +kernel
theorem dX12_line_164 : decode cX12_line 164 = .ok (.iload_n 2, 1) := by decide +kernel
theorem dX12_line_165 : decode cX12_line 165 = .ok (.aload_n 0, 1) := by decide +kernel
theorem dX12_line_166 : decode cX12_line 166 = .ok (.iconst 1, 1) := by decide +kernel
theorem dX12_line_167 : decode cX12_line 167 = .ok (.bipush 99, 2) := by decide +kernel
theorem dX12_line_169 : decode cX12_line 169 = .ok (.invokevirtual 232, 3) := by decide +kernel
theorem dX12_line_172 : decode cX12_line 172 = .ok (.iastore, 1) := by decide +kernel
theorem dX12_line_173 : decode cX12_line 173 = .ok (.aload_n 0, 1) := by decide +kernel
theorem dX12_line_174 : decode cX12_line 174 = .ok (.getfield 22, 3) := by decide +kernel
theorem dX12_line_177 : decode cX12_line 177 = .ok (.iload_n 2, 1) := by decide +kernel
theorem dX12_line_178 : decode cX12_line 178 = .ok (.aload_n 0, 1) := by decide +kernel
theorem dX12_line_179 : decode cX12_line 179 = .ok (.iconst 0, 1) := by decide +kernel
theorem dX12_line_180 : decode cX12_line 180 = .ok (.bipush 9, 2) := by decide +kernel
theorem dX12_line_182 : decode cX12_line 182 = .ok (.invokevirtual 232, 3) := by decide +kernel
theorem dX12_line_185 : decode cX12_line 185 = .ok (.iastore, 1) := by decide +kernel
theorem dX12_line_186 : decode cX12_line 186 = .ok (.aload_n 0, 1) := by decide +kernel
theorem dX12_line_187 : decode cX12_line 187 = .ok (.iconst 0, 1) := by decide +kernel
theorem dX12_line_188 : decode cX12_line 188 = .ok (.aload_n 0, 1) := by decide +kernel
theorem dX12_line_189 : decode cX12_line 189 = .ok (.iconst 0, 1) := by decide +kernel
theorem dX12_line_190 : decode cX12_line 190 = .ok (.invokevirtual 218, 3) := by decide +kernel
theorem dX12_line_193 : decode cX12_line 193 = .ok (.iconst 1, 1) := by decide +kernel
theorem dX12_line_194 : decode cX12_line 194 = .ok (.iadd, 1) := by decide +kernel
theorem dX12_line_195 : decode cX12_line 195 = .ok (.invokevirtual 236, 3) := by decide +kernel
theorem dX12_line_198 : decode cX12_line 198 = .ok (.goto 240, 3) := by decide +kernel
theorem dX12_line_201 : decode cX12_line 201 = .ok (.bipush 6, 2) := by decide +kernel
theorem dX12_line_203 : decode cX12_line 203 = .ok (.aload_n 0, 1) := by decide +kernel
theorem dX12_line_204 : decode cX12_line 204 = .ok (.iconst 1, 1) := by decide +kernel
theorem dX12_line_205 : decode cX12_line 205 = .ok (.invokevirtual 218, 3) := by decide +kernel
theorem dX12_line_208 : decode cX12_line 208 = .ok (.iadd, 1) := by decide +kernel
theorem dX12_line_209 : decode cX12_line 209 = .ok (.istore_n 3, 1) := by decide +kernel
theorem dX12_line_210 : decode cX12_line 210 = .ok (.aload_n 0, 1) := by decide +kernel
theorem dX12_line_211 : decode cX12_line 211 = .ok (.getfield 25, 3) := by decide +kernel
theorem dX12_line_214 : decode cX12_line 214 = .ok (.iload_n 3, 1) := by decide +kernel
theorem dX12_line_215 : decode cX12_line 215 = .ok (.aload_n 0, 1) := by decide +kernel
theorem dX12_line_216 : decode cX12_line 216 = .ok (.aload_n 0, 1) := by decide +kernel
theorem dX12_line_217 : decode cX12_line 217 = .ok (.getfield 25, 3) := by decide +kernel
theorem dX12_line_220 : decode cX12_line 220 = .ok (.bipush 6, 2) := by decide +kernel
theorem dX12_line_222 : decode cX12_line 222 = .ok (.aload_n 0, 1) := by decide +kernel
theorem dX12_line_223 : decode cX12_line 223 = .ok (.iconst 1, 1) := by decide +kernel
theorem dX12_line_224 : decode cX12_line 224 = .ok (.invokevirtual 218, 3) := by decide +kernel
theorem dX12_line_227 : decode cX12_line 227 = .ok (.invokevirtual 228, 3) := by decide +kernel
theorem dX12_line_230 : decode cX12_line 230 = .ok (.iastore, 1) := by decide +kernel
theorem dX12_line_231 : decode cX12_line 231 = .ok (.aload_n 0, 1) := by decide +kernel
theorem dX12_line_232 : decode cX12_line 232 = .ok (.getfield 28, 3) := by decide +kernel
theorem dX12_line_235 : decode cX12_line 235 = .ok (.iload_n 3, 1) := by decide +kernel
theorem dX12_line_236 : decode cX12_line 236 = .ok (.aload_n 0, 1) := by decide +kernel
theorem dX12_line_237 : decode cX12_line 237 = .ok (.iconst 0, 1) := by decide +kernel
theorem dX12_line_238 : decode cX12_line 238 = .ok (.bipush 99, 2) := by decide +kernel
theorem dX12_line_240 : decode cX12_line 240 = .ok (.invokevirtual 232, 3) := by decide +kernel
theorem dX12_line_243 : decode cX12_line 243 = .ok (.iastore, 1) := by decide +kernel
theorem dX12_line_244 : decode cX12_line 244 = .ok (.aload_n 0, 1) := by decide +kernel
theorem dX12_line_245 : decode cX12_line 245 = .ok (.getfield 31, 3) := by decide +kernel
theorem dX12_line_248 : decode cX12_line 248 = .ok (.iload_n 3, 1) := by decide +kernel
theorem dX12_line_249 : decode cX12_line 249 = .ok (.aload_n 0, 1) := by decide +kernel
theorem dX12_line_250 : decode cX12_line 250 = .ok (.iconst 0, 1) := by decide +kernel
theorem dX12_line_251 : decode cX12_line 251 = .ok (.bipush 99, 2) := by decide +kernel
theorem dX12_line_253 : decode cX12_line 253 = .ok (.invokevirtual 232, 3) := by decide +kernel
theorem dX12_line_256 : decode cX12_line 256 = .ok (.iastore, 1) := by decide +kernel
theorem dX12_line_257 : decode cX12_line 257 = .ok (.aload_n 0, 1) := by decide +kernel
theorem dX12_line_258 : decode cX12_line 258 = .ok (.getfield 34, 3) := by decide +kernel
theorem dX12_line_261 : decode cX12_line 261 = .ok (.iload_n 3, 1) := by decide +kernel
theorem dX12_line_262 : decode cX12_line 262 = .ok (.aload_n 0, 1) := by decide +kernel
theorem dX12_line_263 : decode cX12_line 263 = .ok (.iconst 0, 1) := by decide +kernel
theorem dX12_line_264 : decode cX12_line 264 = .ok (.bipush 9, 2) := by decide +kernel
theorem dX12_line_266 : decode cX12_line 266 = .ok (.invokevirtual 232, 3) := by decide +kernel
theorem dX12_line_269 : decode cX12_line 269 = .ok (.iastore, 1) := by decide +kernel
theorem dX12_line_270 : decode cX12_line 270 = .ok (.aload_n 0, 1) := by decide +kernel
theorem dX12_line_271 : decode cX12_line 271 = .ok (.iconst 1, 1) := by decide +kernel
theorem dX12_line_272 : decode cX12_line 272 = .ok (.aload_n 0, 1) := by decide +kernel
theorem dX12_line_273 : decode cX12_line 273 = .ok (.iconst 1, 1) := by decide +kernel
theorem dX12_line_274 : decode cX12_line 274 = .ok (.invokevirtual 218, 3) := by decide +kernel
theorem dX12_line_277 : decode cX12_line 277 = .ok (.iconst 1, 1) := by decide +kernel
theorem dX12_line_278 : decode cX12_line 278 = .ok (.iadd, 1) := by decide +kernel
theorem dX12_line_279 : decode cX12_line 279 = .ok (.invokevirtual 236, 3) := by decide +kernel
theorem dX12_line_282 : decode cX12_line 282 = .ok (.goto 156, 3) := by decide +kernel
theorem dX12_line_285 : decode cX12_line 285 = .ok (.bipush 10, 2) := by decide +kernel
theorem dX12_line_287 : decode cX12_line 287 = .ok (.aload_n 0, 1) := by decide +kernel
theorem dX12_line_288 : decode cX12_line 288 = .ok (.iconst 2, 1) := by decide +kernel
theorem dX12_line_289 : decode cX12_line 289 = .ok (.invokevirtual 218, 3) := by decide +kernel
theorem dX12_line_292 : decode cX12_line 292 = .ok (.iadd, 1) := by decide +kernel
theorem dX12_line_293 : decode cX12_line 293 = .ok (.istore 4, 2) := by decide +kernel
theorem dX12_line_295 : decode cX12_line 295 = .ok (.aload_n 0, 1) := by decide +kernel
theorem dX12_line_296 : decode cX12_line 296 = .ok (.getfield 37, 3) := by decide +kernel
theorem dX12_line_299 : decode cX12_line 299 = .ok (.iload 4, 2) := by decide +kernel
theorem dX12_line_301 : decode cX12_line 301 = .ok (.aload_n 0, 1) := by decide +kernel
theorem dX12_line_302 : decode cX12_line 302 = .ok (.aload_n 0, 1) := by decide +kernel
theorem dX12_line_303 : decode cX12_line 303 = .ok (.getfield 37, 3) := by decide +kernel
theorem dX12_line_306 : decode cX12_line 306 = .ok (.bipush 10, 2) := by decide +kernel
theorem dX12_line_308 : decode cX12_line 308 = .ok (.aload_n 0, 1) := by decide +kernel
theorem dX12_line_309 : decode cX12_line 309 = .ok (.iconst 2, 1) := by decide +kernel
theorem dX12_line_310 : decode cX12_line 310 = .ok (.invokevirtual 218, 3) := by decide +kernel
theorem dX12_line_313 : decode cX12_line 313 = .ok (.invokevirtual 228, 3) := by decide +kernel
theorem dX12_line_316 : decode cX12_line 316 = .ok (.iastore, 1) := by decide +kernel
theorem dX12_line_317 : decode cX12_line 317 = .ok (.aload_n 0, 1) := by decide +kernel
theorem dX12_line_318 : decode cX12_line 318 = .ok (.getfield 40, 3) := by decide +kernel
theorem dX12_line_321 : decode cX12_line 321 = .ok (.iload 4, 2) := by decide +kernel
theorem dX12_line_323 : decode cX12_line 323 = .ok (.aload_n 0, 1) := by decide +kernel
theorem dX12_line_324 : decode cX12_line 324 = .ok (.aload_n 0, 1) := by decide +kernel
theorem dX12_line_325 : decode cX12_line 325 = .ok (.getfield 16, 3) := by decide +kernel
theorem dX12_line_328 : decode cX12_line 328 = .ok (.iconst 4, 1) := by decide +kernel
theorem dX12_line_329 : decode cX12_line 329 = .ok (.aload_n 0, 1) := by decide +kernel
theorem dX12_line_330 : decode cX12_line 330 = .ok (.iconst 0, 1) := by decide +kernel
theorem dX12_line_331 : decode cX12_line 331 = .ok (.invokevirtual 218, 3) := by decide +kernel
theorem dX12_line_334 : decode cX12_line 334 = .ok (.invokevirtual 240, 3) := by decide +kernel
theorem dX12_line_337 : decode cX12_line 337 = .ok (.iastore, 1) := by decide +kernel
theorem dX12_line_338 : decode cX12_line 338 = .ok (.aload_n 0, 1) := by decide +kernel
theorem dX12_line_339 : decode cX12_line 339 = .ok (.getfield 43, 3) := by decide +kernel
theorem dX12_line_342 : decode cX12_line 342 = .ok (.iload 4, 2) := by decide +kernel
theorem dX12_line_344 : decode cX12_line 344 = .ok (.aload_n 0, 1) := by decide +kernel
theorem dX12_line_345 : decode cX12_line 345 = .ok (.aload_n 0, 1) := by decide +kernel
theorem dX12_line_346 : decode cX12_line 346 = .ok (.getfield 25, 3) := by decide +kernel
theorem dX12_line_349 : decode cX12_line 349 = .ok (.bipush 6, 2) := by decide +kernel
theorem dX12_line_351 : decode cX12_line 351 = .ok (.aload_n 0, 1) := by decide +kernel
theorem dX12_line_352 : decode cX12_line 352 = .ok (.iconst 1, 1) := by decide +kernel
theorem dX12_line_353 : decode cX12_line 353 = .ok (.invokevirtual 218, 3) := by decide +kernel
theorem dX12_line_356 : decode cX12_line 356 = .ok (.invokevirtual 240, 3) := by decide +kernel
theorem dX12_line_359 : decode cX12_line 359 = .ok (.iastore, 1) := by decide +kernel
theorem dX12_line_360 : decode cX12_line 360 = .ok (.aload_n 0, 1) := by decide +kernel
theorem dX12_line_361 : decode cX12_line 361 = .ok (.getfield 46, 3) := by decide +kernel
theorem dX12_line_364 : decode cX12_line 364 = .ok (.iload 4, 2) := by decide +kernel
theorem dX12_line_366 : decode cX12_line 366 = .ok (.aload_n 0, 1) := by decide +kernel
theorem dX12_line_367 : decode cX12_line 367 = .ok (.iconst 0, 1) := by decide +kernel
theorem dX12_line_368 : decode cX12_line 368 = .ok (.bipush 99, 2) := by decide +kernel
theorem dX12_line_370 : decode cX12_line 370 = .ok (.invokevirtual 232, 3) := by decide +kernel
theorem dX12_line_373 : decode cX12_line 373 = .ok (.iastore, 1) := by decide +kernel
theorem dX12_line_374 : decode cX12_line 374 = .ok (.aload_n 0, 1) := by decide +kernel
theorem dX12_line_375 : decode cX12_line 375 = .ok (.iconst 2, 1) := by decide +kernel
theorem dX12_line_376 : decode cX12_line 376 = .ok (.aload_n 0, 1) := by decide +kernel
theorem dX12_line_377 : decode cX12_line 377 = .ok (.iconst 2, 1) := by decide +kernel
theorem dX12_line_378 : decode cX12_line 378 = .ok (.invokevirtual 218, 3) := by decide +kernel
theorem dX12_line_381 : decode cX12_line 381 = .ok (.iconst 1, 1) := by decide +kernel
theorem dX12_line_382 : decode cX12_line 382 = .ok (.iadd, 1) := by decide +kernel
theorem dX12_line_383 : decode cX12_line 383 = .ok (.invokevirtual 236, 3) := by decide +kernel
theorem dX12_line_386 : decode cX12_line 386 = .ok (.goto 52, 3) := by decide +kernel
theorem dX12_line_389 : decode cX12_line 389 = .ok (.aload_n 0, 1) := by decide +kernel
theorem dX12_line_390 : decode cX12_line 390 = .ok (.iconst 3, 1) := by decide +kernel
theorem dX12_line_391 : decode cX12_line 391 = .ok (.aload_n 0, 1) := by decide +kernel
theorem dX12_line_392 : decode cX12_line 392 = .ok (.iconst 1, 1) := by decide +kernel
theorem dX12_line_393 : decode cX12_line 393 = .ok (.bipush 99, 2) := by decide +kernel
theorem dX12_line_395 : decode cX12_line 395 = .ok (.invokevirtual 232, 3) := by decide +kernel
theorem dX12_line_398 : decode cX12_line 398 = .ok (.invokevirtual 236, 3) := by decide +kernel
theorem dX12_line_401 : decode cX12_line 401 = .ok (.goto 37, 3) := by decide +kernel
theorem dX12_line_404 : decode cX12_line 404 = .ok (.aload_n 0, 1) := by decide +kernel
theorem dX12_line_405 : decode cX12_line 405 = .ok (.iconst 4, 1) := by decide +kernel
theorem dX12_line_406 : decode cX12_line 406 = .ok (.aload_n 0, 1) := by decide +kernel
theorem dX12_line_407 : decode cX12_line 407 = .ok (.iconst 0, 1) := by decide +kernel
theorem dX12_line_408 : decode cX12_line 408 = .ok (.bipush 30, 2) := by decide +kernel
theorem dX12_line_410 : decode cX12_line 410 = .ok (.invokevirtual 232, 3) := by decide +kernel
theorem dX12_line_413 : decode cX12_line 413 = .ok (.invokevirtual 236, 3) := by decide +kernel
theorem dX12_line_416 : decode cX12_line 416 = .ok (.goto 22, 3) := by decide +kernel
theorem dX12_line_419 : decode cX12_line 419 = .ok (.aload_n 0, 1) := by decide +kernel
theorem dX12_line_420 : decode cX12_line 420 = .ok (.iconst 5, 1) := by decide +kernel
theorem dX12_line_421 : decode cX12_line 421 = .ok (.aload_n 0, 1) := by decide +kernel
theorem dX12_line_422 : decode cX12_line 422 = .ok (.iconst 0, 1) := by decide +kernel
theorem dX12_line_423 : decode cX12_line 423 = .ok (.ldc 183, 2) := by decide +kernel
theorem dX12_line_425 : decode cX12_line 425 = .ok (.invokevirtual 232, 3) := by decide +kernel
theorem dX12_line_428 : decode cX12_line 428 = .ok (.invokevirtual 236, 3) := by decide +kernel
theorem dX12_line_431 : decode cX12_line 431 = .ok (.goto 7, 3) := by decide +kernel
theorem dX12_line_434 : decode cX12_line 434 = .ok (.aload_n 0, 1) := by decide +kernel
theorem dX12_line_435 : decode cX12_line 435 = .ok (.invokevirtual 243, 3) := by decide +kernel
theorem dX12_line_438 : decode cX12_line 438 = .ok (.aload_n 0, 1) := by decide +kernel
theorem dX12_line_439 : decode cX12_line 439 = .ok (.getfield 199, 3) := by decide +kernel
theorem dX12_line_442 : decode cX12_line 442 = .ok (.ifCond .eq 4, 3) := by decide +kernel
theorem dX12_line_445 : decode cX12_line 445 = .ok (.return_, 1) := by decide +kernel
theorem dX12_line_446 : decode cX12_line 446 = .ok (.aload_n 0, 1) := by decide +kernel
theorem dX12_line_447 : decode cX12_line 447 = .ok (.bipush 59, 2) := by decide +kernel
theorem dX12_line_449 : decode cX12_line 449 = .ok (.invokevirtual 246, 3) := by decide +kernel
theorem dX12_line_452 : decode cX12_line 452 = .ok (.ifCond .ne 11, 3) := by decide +kernel
theorem dX12_line_455 : decode cX12_line 455 = .ok (.aload_n 0, 1) := by decide +kernel
theorem dX12_line_456 : decode cX12_line 456 = .ok (.iconst 1, 1) := by decide +kernel
theorem dX12_line_457 : decode cX12_line 457 = .ok (.invokevirtual 208, 3) := by decide +kernel
theorem dX12_line_460 : decode cX12_line 460 = .ok (.goto 7, 3) := by decide +kernel
theorem dX12_line_463 : decode cX12_line 463 = .ok (.aload_n 0, 1) := by decide +kernel
theorem dX12_line_464 : decode cX12_line 464 = .ok (.invokevirtual 205, 3) := by decide +kernel
theorem dX12_line_467 : decode cX12_line 467 = .ok (.aload_n 0, 1) := by decide +kernel
theorem dX12_line_468 : decode cX12_line 468 = .ok (.dup, 1) := by decide +kernel
theorem dX12_line_469 : decode cX12_line 469 = .ok (.getfield 249, 3) := by decide +kernel
theorem dX12_line_472 : decode cX12_line 472 = .ok (.iconst 1, 1) := by decide +kernel
theorem dX12_line_473 : decode cX12_line 473 = .ok (.iadd, 1) := by decide +kernel
theorem dX12_line_474 : decode cX12_line 474 = .ok (.putfield 249, 3) := by decide +kernel
theorem dX12_line_477 : decode cX12_line 477 = .ok (.return_, 1) := by decide +kernel
theorem dX12_lawLine_0 : decode cX12_lawLine 0 = .ok (.aload_n 0, 1) := by decide +kernel
theorem dX12_lawLine_1 : decode cX12_lawLine 1 = .ok (.getfield 164, 3) := by decide +kernel
theorem dX12_lawLine_4 : decode cX12_lawLine 4 = .ok (.ifCond .ne 21, 3) := by decide +kernel
theorem dX12_lawLine_7 : decode cX12_lawLine 7 = .ok (.aload_n 0, 1) := by decide +kernel
theorem dX12_lawLine_8 : decode cX12_lawLine 8 = .ok (.getfield 174, 3) := by decide +kernel
theorem dX12_lawLine_11 : decode cX12_lawLine 11 = .ok (.bipush 7, 2) := by decide +kernel
theorem dX12_lawLine_13 : decode cX12_lawLine 13 = .ok (.if_icmp .lt 12, 3) := by decide +kernel
theorem dX12_lawLine_16 : decode cX12_lawLine 16 = .ok (.aload_n 0, 1) := by decide +kernel
theorem dX12_lawLine_17 : decode cX12_lawLine 17 = .ok (.getfield 174, 3) := by decide +kernel
theorem dX12_lawLine_20 : decode cX12_lawLine 20 = .ok (.bipush 9, 2) := by decide +kernel
theorem dX12_lawLine_22 : decode cX12_lawLine 22 = .ok (.if_icmp .le 8, 3) := by decide +kernel
theorem dX12_lawLine_25 : decode cX12_lawLine 25 = .ok (.aload_n 0, 1) := by decide +kernel
theorem dX12_lawLine_26 : decode cX12_lawLine 26 = .ok (.iconst 1, 1) := by decide +kernel
theorem dX12_lawLine_27 : decode cX12_lawLine 27 = .ok (.invokevirtual 208, 3) := by decide +kernel
theorem dX12_lawLine_30 : decode cX12_lawLine 30 = .ok (.aload_n 0, 1) := by decide +kernel
theorem dX12_lawLine_31 : decode cX12_lawLine 31 = .ok (.getfield 174, 3) := by decide +kernel
theorem dX12_lawLine_34 : decode cX12_lawLine 34 = .ok (.bipush 7, 2) := by decide +kernel
theorem dX12_lawLine_36 : decode cX12_lawLine 36 = .ok (.isub, 1) := by decide +kernel
theorem dX12_lawLine_37 : decode cX12_lawLine 37 = .ok (.istore_n 1, 1) := by decide +kernel
theorem dX12_lawLine_38 : decode cX12_lawLine 38 = .ok (.aload_n 0, 1) := by decide +kernel
theorem dX12_lawLine_39 : decode cX12_lawLine 39 = .ok (.getfield 199, 3) := by decide +kernel
theorem dX12_lawLine_42 : decode cX12_lawLine 42 = .ok (.ifCond .ne 23, 3) := by decide +kernel
theorem dX12_lawLine_45 : decode cX12_lawLine 45 = .ok (.aload_n 0, 1) := by decide +kernel
theorem dX12_lawLine_46 : decode cX12_lawLine 46 = .ok (.getfield 225, 3) := by decide +kernel
theorem dX12_lawLine_49 : decode cX12_lawLine 49 = .ok (.bipush 16, 2) := by decide +kernel
theorem dX12_lawLine_51 : decode cX12_lawLine 51 = .ok (.iload_n 1, 1) := by decide +kernel
theorem dX12_lawLine_52 : decode cX12_lawLine 52 = .ok (.iadd, 1) := by decide +kernel
theorem dX12_lawLine_53 : decode cX12_lawLine 53 = .ok (.ishr, 1) := by decide +kernel
theorem dX12_lawLine_54 : decode cX12_lawLine 54 = .ok (.iconst 1, 1) := by decide +kernel
theorem dX12_lawLine_55 : decode cX12_lawLine 55 = .ok (.iand, 1) := by decide +kernel
theorem dX12_lawLine_56 : decode cX12_lawLine 56 = .ok (.iconst 1, 1) := by decide +kernel
theorem dX12_lawLine_57 : decode cX12_lawLine 57 = .ok (.if_icmp .ne 8, 3) := by decide +kernel
theorem dX12_lawLine_60 : decode cX12_lawLine 60 = .ok (.aload_n 0, 1) := by decide +kernel
theorem dX12_lawLine_61 : decode cX12_lawLine 61 = .ok (.iconst 3, 1) := by decide +kernel
theorem dX12_lawLine_62 : decode cX12_lawLine 62 = .ok (.invokevirtual 208, 3) := by decide +kernel
theorem dX12_lawLine_65 : decode cX12_lawLine 65 = .ok (.aload_n 0, 1) := by decide +kernel
theorem dX12_lawLine_66 : decode cX12_lawLine 66 = .ok (.getfield 199, 3) := by decide +kernel
theorem dX12_lawLine_69 : decode cX12_lawLine 69 = .ok (.ifCond .eq 4, 3) := by decide +kernel
theorem dX12_lawLine_72 : decode cX12_lawLine 72 = .ok (.return_, 1) := by decide +kernel
theorem dX12_lawLine_73 : decode cX12_lawLine 73 = .ok (.aload_n 0, 1) := by decide +kernel
theorem dX12_lawLine_74 : decode cX12_lawLine 74 = .ok (.dup, 1) := by decide +kernel
theorem dX12_lawLine_75 : decode cX12_lawLine 75 = .ok (.getfield 225, 3) := by decide +kernel
theorem dX12_lawLine_78 : decode cX12_lawLine 78 = .ok (.iconst 1, 1) := by decide +kernel
theorem dX12_lawLine_79 : decode cX12_lawLine 79 = .ok (.bipush 16, 2) := by decide +kernel
theorem dX12_lawLine_81 : decode cX12_lawLine 81 = .ok (.iload_n 1, 1) := by decide +kernel
theorem dX12_lawLine_82 : decode cX12_lawLine 82 = .ok (.iadd, 1) := by decide +kernel
theorem dX12_lawLine_83 : decode cX12_lawLine 83 = .ok (.ishl, 1) := by decide +kernel
theorem dX12_lawLine_84 : decode cX12_lawLine 84 = .ok (.ior, 1) := by decide +kernel
theorem dX12_lawLine_85 : decode cX12_lawLine 85 = .ok (.putfield 225, 3) := by decide +kernel
theorem dX12_lawLine_88 : decode cX12_lawLine 88 = .ok (.aload_n 0, 1) := by decide +kernel
theorem dX12_lawLine_89 : decode cX12_lawLine 89 = .ok (.invokevirtual 205, 3) := by decide +kernel
theorem dX12_lawLine_92 : decode cX12_lawLine 92 = .ok (.aload_n 0, 1) := by decide +kernel
theorem dX12_lawLine_93 : decode cX12_lawLine 93 = .ok (.getfield 49, 3) := by decide +kernel
theorem dX12_lawLine_96 : decode cX12_lawLine 96 = .ok (.iconst 3, 1) := by decide +kernel
theorem dX12_lawLine_97 : decode cX12_lawLine 97 = .ok (.iload_n 1, 1) := by decide +kernel
theorem dX12_lawLine_98 : decode cX12_lawLine 98 = .ok (.iadd, 1) := by decide +kernel
theorem dX12_lawLine_99 : decode cX12_lawLine 99 = .ok (.aload_n 0, 1) := by decide +kernel
theorem dX12_lawLine_100 : decode cX12_lawLine 100 = .ok (.bipush 6, 2) := by decide +kernel
theorem dX12_lawLine_102 : decode cX12_lawLine 102 = .ok (.invokevirtual 218, 3) := by decide +kernel
theorem dX12_lawLine_105 : decode cX12_lawLine 105 = .ok (.iastore, 1) := by decide +kernel
theorem dX12_lawLine_106 : decode cX12_lawLine 106 = .ok (.aload_n 0, 1) := by decide +kernel
theorem dX12_lawLine_107 : decode cX12_lawLine 107 = .ok (.invokevirtual 252, 3) := by decide +kernel
theorem dX12_lawLine_110 : decode cX12_lawLine 110 = .ok (.aload_n 0, 1) := by decide +kernel
theorem dX12_lawLine_111 : decode cX12_lawLine 111 = .ok (.getfield 52, 3) := by decide +kernel
theorem dX12_lawLine_114 : decode cX12_lawLine 114 = .ok (.iconst 3, 1) := by decide +kernel
theorem dX12_lawLine_115 : decode cX12_lawLine 115 = .ok (.iload_n 1, 1) := by decide +kernel
theorem dX12_lawLine_116 : decode cX12_lawLine 116 = .ok (.iadd, 1) := by decide +kernel
theorem dX12_lawLine_117 : decode cX12_lawLine 117 = .ok (.aload_n 0, 1) := by decide +kernel
theorem dX12_lawLine_118 : decode cX12_lawLine 118 = .ok (.bipush 6, 2) := by decide +kernel
theorem dX12_lawLine_120 : decode cX12_lawLine 120 = .ok (.invokevirtual 218, 3) := by decide +kernel
theorem dX12_lawLine_123 : decode cX12_lawLine 123 = .ok (.iastore, 1) := by decide +kernel
theorem dX12_lawLine_124 : decode cX12_lawLine 124 = .ok (.return_, 1) := by decide +kernel
theorem dX12_half_0 : decode cX12_half 0 = .ok (.aload_n 0, 1) := by decide +kernel
theorem dX12_half_1 : decode cX12_half 1 = .ok (.arraylength, 1) := by decide +kernel
theorem dX12_half_2 : decode cX12_half 2 = .ok (.iconst 2, 1) := by decide +kernel
theorem dX12_half_3 : decode cX12_half 3 = .ok (.idiv, 1) := by decide +kernel
theorem dX12_half_4 : decode cX12_half 4 = .ok (.istore_n 1, 1) := by decide +kernel
theorem dX12_half_5 : decode cX12_half 5 = .ok (.iconst 0, 1) := by decide +kernel
theorem dX12_half_6 : decode cX12_half 6 = .ok (.istore_n 2, 1) := by decide +kernel
theorem dX12_half_7 : decode cX12_half 7 = .ok (.iload_n 2, 1) := by decide +kernel
theorem dX12_half_8 : decode cX12_half 8 = .ok (.iload_n 1, 1) := by decide +kernel
theorem dX12_half_9 : decode cX12_half 9 = .ok (.if_icmp .ge 17, 3) := by decide +kernel
theorem dX12_half_12 : decode cX12_half 12 = .ok (.aload_n 0, 1) := by decide +kernel
theorem dX12_half_13 : decode cX12_half 13 = .ok (.iload_n 2, 1) := by decide +kernel
theorem dX12_half_14 : decode cX12_half 14 = .ok (.aload_n 0, 1) := by decide +kernel
theorem dX12_half_15 : decode cX12_half 15 = .ok (.iload_n 1, 1) := by decide +kernel
theorem dX12_half_16 : decode cX12_half 16 = .ok (.iload_n 2, 1) := by decide +kernel
theorem dX12_half_17 : decode cX12_half 17 = .ok (.iadd, 1) := by decide +kernel
theorem dX12_half_18 : decode cX12_half 18 = .ok (.iaload, 1) := by decide +kernel
theorem dX12_half_19 : decode cX12_half 19 = .ok (.iastore, 1) := by decide +kernel
theorem dX12_half_20 : decode cX12_half 20 = .ok (.iinc 2 1, 3) := by decide +kernel
theorem dX12_half_23 : decode cX12_half 23 = .ok (.goto (-16), 3) := by decide +kernel
theorem dX12_half_26 : decode cX12_half 26 = .ok (.return_, 1) := by decide +kernel
theorem dX12_text_0 : decode cX12_text 0 = .ok (.aload_n 0, 1) := by decide +kernel
theorem dX12_text_1 : decode cX12_text 1 = .ok (.iconst 0, 1) := by decide +kernel
theorem dX12_text_2 : decode cX12_text 2 = .ok (.putfield 145, 3) := by decide +kernel
theorem dX12_text_5 : decode cX12_text 5 = .ok (.iload_n 1, 1) := by decide +kernel
theorem dX12_text_6 : decode cX12_text 6 = .ok (.ifCond .lt 11, 3) := by decide +kernel
theorem dX12_text_9 : decode cX12_text 9 = .ok (.iload_n 1, 1) := by decide +kernel
theorem dX12_text_10 : decode cX12_text 10 = .ok (.aload_n 0, 1) := by decide +kernel
theorem dX12_text_11 : decode cX12_text 11 = .ok (.getfield 148, 3) := by decide +kernel
theorem dX12_text_14 : decode cX12_text 14 = .ok (.if_icmp .le 6, 3) := by decide +kernel
theorem dX12_text_17 : decode cX12_text 17 = .ok (.bipush (-2), 2) := by decide +kernel
theorem dX12_text_19 : decode cX12_text 19 = .ok (.ireturn, 1) := by decide +kernel
theorem dX12_text_20 : decode cX12_text 20 = .ok (.aload_n 0, 1) := by decide +kernel
theorem dX12_text_21 : decode cX12_text 21 = .ok (.iload_n 1, 1) := by decide +kernel
theorem dX12_text_22 : decode cX12_text 22 = .ok (.putfield 154, 3) := by decide +kernel
theorem dX12_text_25 : decode cX12_text 25 = .ok (.aload_n 0, 1) := by decide +kernel
theorem dX12_text_26 : decode cX12_text 26 = .ok (.iconst 0, 1) := by decide +kernel
theorem dX12_text_27 : decode cX12_text 27 = .ok (.putfield 148, 3) := by decide +kernel
theorem dX12_text_30 : decode cX12_text 30 = .ok (.aload_n 0, 1) := by decide +kernel
theorem dX12_text_31 : decode cX12_text 31 = .ok (.iconst 0, 1) := by decide +kernel
theorem dX12_text_32 : decode cX12_text 32 = .ok (.putfield 151, 3) := by decide +kernel
theorem dX12_text_35 : decode cX12_text 35 = .ok (.aload_n 0, 1) := by decide +kernel
theorem dX12_text_36 : decode cX12_text 36 = .ok (.iconst 0, 1) := by decide +kernel
theorem dX12_text_37 : decode cX12_text 37 = .ok (.putfield 199, 3) := by decide +kernel
theorem dX12_text_40 : decode cX12_text 40 = .ok (.aload_n 0, 1) := by decide +kernel
theorem dX12_text_41 : decode cX12_text 41 = .ok (.iconst (-1), 1) := by decide +kernel
theorem dX12_text_42 : decode cX12_text 42 = .ok (.putfield 202, 3) := by decide +kernel
theorem dX12_text_45 : decode cX12_text 45 = .ok (.iconst 0, 1) := by decide +kernel
theorem dX12_text_46 : decode cX12_text 46 = .ok (.istore_n 2, 1) := by decide +kernel
theorem dX12_text_47 : decode cX12_text 47 = .ok (.iload_n 2, 1) := by decide +kernel
theorem dX12_text_48 : decode cX12_text 48 = .ok (.bipush 7, 2) := by decide +kernel
theorem dX12_text_50 : decode cX12_text 50 = .ok (.if_icmp .ge 25, 3) := by decide +kernel
theorem dX12_text_53 : decode cX12_text 53 = .ok (.aload_n 0, 1) := by decide +kernel
theorem dX12_text_54 : decode cX12_text 54 = .ok (.iload_n 2, 1) := by decide +kernel
theorem dX12_text_55 : decode cX12_text 55 = .ok (.iload_n 2, 1) := by decide +kernel
theorem dX12_text_56 : decode cX12_text 56 = .ok (.iconst 3, 1) := by decide +kernel
theorem dX12_text_57 : decode cX12_text 57 = .ok (.if_icmp .ne 8, 3) := by decide +kernel
theorem dX12_text_60 : decode cX12_text 60 = .ok (.bipush 50, 2) := by decide +kernel
theorem dX12_text_62 : decode cX12_text 62 = .ok (.goto 4, 3) := by decide +kernel
theorem dX12_text_65 : decode cX12_text 65 = .ok (.iconst 0, 1) := by decide +kernel
theorem dX12_text_66 : decode cX12_text 66 = .ok (.invokevirtual 236, 3) := by decide +kernel
theorem dX12_text_69 : decode cX12_text 69 = .ok (.iinc 2 1, 3) := by decide +kernel
theorem dX12_text_72 : decode cX12_text 72 = .ok (.goto (-25), 3) := by decide +kernel
theorem dX12_text_75 : decode cX12_text 75 = .ok (.iconst 3, 1) := by decide +kernel
theorem dX12_text_76 : decode cX12_text 76 = .ok (.istore_n 2, 1) := by decide +kernel
theorem dX12_text_77 : decode cX12_text 77 = .ok (.iload_n 2, 1) := by decide +kernel
theorem dX12_text_78 : decode cX12_text 78 = .ok (.bipush 6, 2) := by decide +kernel
theorem dX12_text_80 : decode cX12_text 80 = .ok (.if_icmp .ge 23, 3) := by decide +kernel
theorem dX12_text_83 : decode cX12_text 83 = .ok (.aload_n 0, 1) := by decide +kernel
theorem dX12_text_84 : decode cX12_text 84 = .ok (.getfield 49, 3) := by decide +kernel
theorem dX12_text_87 : decode cX12_text 87 = .ok (.iload_n 2, 1) := by decide +kernel
theorem dX12_text_88 : decode cX12_text 88 = .ok (.iconst 0, 1) := by decide +kernel
theorem dX12_text_89 : decode cX12_text 89 = .ok (.iastore, 1) := by decide +kernel
theorem dX12_text_90 : decode cX12_text 90 = .ok (.aload_n 0, 1) := by decide +kernel
theorem dX12_text_91 : decode cX12_text 91 = .ok (.getfield 52, 3) := by decide +kernel
theorem dX12_text_94 : decode cX12_text 94 = .ok (.iload_n 2, 1) := by decide +kernel
theorem dX12_text_95 : decode cX12_text 95 = .ok (.iconst 0, 1) := by decide +kernel
theorem dX12_text_96 : decode cX12_text 96 = .ok (.iastore, 1) := by decide +kernel
theorem dX12_text_97 : decode cX12_text 97 = .ok (.iinc 2 1, 3) := by decide +kernel
theorem dX12_text_100 : decode cX12_text 100 = .ok (.goto (-23), 3) := by decide +kernel
theorem dX12_text_103 : decode cX12_text 103 = .ok (.aload_n 0, 1) := by decide +kernel
theorem dX12_text_104 : decode cX12_text 104 = .ok (.iconst 0, 1) := by decide +kernel
theorem dX12_text_105 : decode cX12_text 105 = .ok (.putfield 225, 3) := by decide +kernel
theorem dX12_text_108 : decode cX12_text 108 = .ok (.aload_n 0, 1) := by decide +kernel
theorem dX12_text_109 : decode cX12_text 109 = .ok (.iconst 0, 1) := by decide +kernel
theorem dX12_text_110 : decode cX12_text 110 = .ok (.putfield 249, 3) := by decide +kernel
theorem dX12_text_113 : decode cX12_text 113 = .ok (.aload_n 0, 1) := by decide +kernel
theorem dX12_text_114 : decode cX12_text 114 = .ok (.iconst 0, 1) := by decide +kernel
theorem dX12_text_115 : decode cX12_text 115 = .ok (.putfield 282, 3) := by decide +kernel
theorem dX12_text_118 : decode cX12_text 118 = .ok (.aload_n 0, 1) := by decide +kernel
theorem dX12_text_119 : decode cX12_text 119 = .ok (.iconst 0, 1) := by decide +kernel
theorem dX12_text_120 : decode cX12_text 120 = .ok (.putfield 255, 3) := by decide +kernel
theorem dX12_text_123 : decode cX12_text 123 = .ok (.aload_n 0, 1) := by decide +kernel
theorem dX12_text_124 : decode cX12_text 124 = .ok (.invokevirtual 205, 3) := by decide +kernel
theorem dX12_text_127 : decode cX12_text 127 = .ok (.aload_n 0, 1) := by decide +kernel
theorem dX12_text_128 : decode cX12_text 128 = .ok (.getfield 199, 3) := by decide +kernel
theorem dX12_text_131 : decode cX12_text 131 = .ok (.ifCond .ne 18, 3) := by decide +kernel
theorem dX12_text_134 : decode cX12_text 134 = .ok (.aload_n 0, 1) := by decide +kernel
theorem dX12_text_135 : decode cX12_text 135 = .ok (.getfield 164, 3) := by decide +kernel
theorem dX12_text_138 : decode cX12_text 138 = .ok (.iconst 4, 1) := by decide +kernel
theorem dX12_text_139 : decode cX12_text 139 = .ok (.if_icmp .eq 10, 3) := by decide +kernel
theorem dX12_text_142 : decode cX12_text 142 = .ok (.aload_n 0, 1) := by decide +kernel
theorem dX12_text_143 : decode cX12_text 143 = .ok (.invokevirtual 285, 3) := by decide +kernel
theorem dX12_text_146 : decode cX12_text 146 = .ok (.goto (-19), 3) := by decide +kernel
theorem dX12_text_149 : decode cX12_text 149 = .ok (.aload_n 0, 1) := by decide +kernel
theorem dX12_text_150 : decode cX12_text 150 = .ok (.aload_n 0, 1) := by decide +kernel
theorem dX12_text_151 : decode cX12_text 151 = .ok (.getfield 199, 3) := by decide +kernel
theorem dX12_text_154 : decode cX12_text 154 = .ok (.putfield 288, 3) := by decide +kernel
theorem dX12_text_157 : decode cX12_text 157 = .ok (.aload_n 0, 1) := by decide +kernel
theorem dX12_text_158 : decode cX12_text 158 = .ok (.aload_n 0, 1) := by decide +kernel
theorem dX12_text_159 : decode cX12_text 159 = .ok (.getfield 202, 3) := by decide +kernel
theorem dX12_text_162 : decode cX12_text 162 = .ok (.putfield 61, 3) := by decide +kernel
theorem dX12_text_165 : decode cX12_text 165 = .ok (.aload_n 0, 1) := by decide +kernel
theorem dX12_text_166 : decode cX12_text 166 = .ok (.getfield 199, 3) := by decide +kernel
theorem dX12_text_169 : decode cX12_text 169 = .ok (.ifCond .eq 5, 3) := by decide +kernel
theorem dX12_text_172 : decode cX12_text 172 = .ok (.iconst (-1), 1) := by decide +kernel
theorem dX12_text_173 : decode cX12_text 173 = .ok (.ireturn, 1) := by decide +kernel
theorem dX12_text_174 : decode cX12_text 174 = .ok (.aload_n 0, 1) := by decide +kernel
theorem dX12_text_175 : decode cX12_text 175 = .ok (.getfield 13, 3) := by decide +kernel
theorem dX12_text_178 : decode cX12_text 178 = .ok (.invokestatic 291, 3) := by decide +kernel
theorem dX12_text_181 : decode cX12_text 181 = .ok (.aload_n 0, 1) := by decide +kernel
theorem dX12_text_182 : decode cX12_text 182 = .ok (.getfield 16, 3) := by decide +kernel
theorem dX12_text_185 : decode cX12_text 185 = .ok (.invokestatic 291, 3) := by decide +kernel
theorem dX12_text_188 : decode cX12_text 188 = .ok (.aload_n 0, 1) := by decide +kernel
theorem dX12_text_189 : decode cX12_text 189 = .ok (.getfield 19, 3) := by decide +kernel
theorem dX12_text_192 : decode cX12_text 192 = .ok (.invokestatic 291, 3) := by decide +kernel
theorem dX12_text_195 : decode cX12_text 195 = .ok (.aload_n 0, 1) := by decide +kernel
theorem dX12_text_196 : decode cX12_text 196 = .ok (.getfield 22, 3) := by decide +kernel
theorem dX12_text_199 : decode cX12_text 199 = .ok (.invokestatic 291, 3) := by decide +kernel
theorem dX12_text_202 : decode cX12_text 202 = .ok (.aload_n 0, 1) := by decide +kernel
theorem dX12_text_203 : decode cX12_text 203 = .ok (.getfield 25, 3) := by decide +kernel
theorem dX12_text_206 : decode cX12_text 206 = .ok (.invokestatic 291, 3) := by decide +kernel
theorem dX12_text_209 : decode cX12_text 209 = .ok (.aload_n 0, 1) := by decide +kernel
theorem dX12_text_210 : decode cX12_text 210 = .ok (.getfield 28, 3) := by decide +kernel
theorem dX12_text_213 : decode cX12_text 213 = .ok (.invokestatic 291, 3) := by decide +kernel
theorem dX12_text_216 : decode cX12_text 216 = .ok (.aload_n 0, 1) := by decide +kernel
theorem dX12_text_217 : decode cX12_text 217 = .ok (.getfield 31, 3) := by decide +kernel
theorem dX12_text_220 : decode cX12_text 220 = .ok (.invokestatic 291, 3) := by decide +kernel
theorem dX12_text_223 : decode cX12_text 223 = .ok (.aload_n 0, 1) := by decide +kernel
theorem dX12_text_224 : decode cX12_text 224 = .ok (.getfield 34, 3) := by decide +kernel
theorem dX12_text_227 : decode cX12_text 227 = .ok (.invokestatic 291, 3) := by decide +kernel
theorem dX12_text_230 : decode cX12_text 230 = .ok (.aload_n 0, 1) := by decide +kernel
theorem dX12_text_231 : decode cX12_text 231 = .ok (.getfield 37, 3) := by decide +kernel
theorem dX12_text_234 : decode cX12_text 234 = .ok (.invokestatic 291, 3) := by decide +kernel
theorem dX12_text_237 : decode cX12_text 237 = .ok (.aload_n 0, 1) := by decide +kernel
theorem dX12_text_238 : decode cX12_text 238 = .ok (.getfield 40, 3) := by decide +kernel
theorem dX12_text_241 : decode cX12_text 241 = .ok (.invokestatic 291, 3) := by decide +kernel
theorem dX12_text_244 : decode cX12_text 244 = .ok (.aload_n 0, 1) := by decide +kernel
theorem dX12_text_245 : decode cX12_text 245 = .ok (.getfield 43, 3) := by decide +kernel
theorem dX12_text_248 : decode cX12_text 248 = .ok (.invokestatic 291, 3) := by decide +kernel
theorem dX12_text_251 : decode cX12_text 251 = .ok (.aload_n 0, 1) := by decide +kernel
theorem dX12_text_252 : decode cX12_text 252 = .ok (.getfield 46, 3) := by decide +kernel
theorem dX12_text_255 : decode cX12_text 255 = .ok (.invokestatic 291, 3) := by decide +kernel
theorem dX12_text_258 : decode cX12_text 258 = .ok (.aload_n 0, 1) := by decide +kernel
theorem dX12_text_259 : decode cX12_text 259 = .ok (.getfield 49, 3) := by decide +kernel
theorem dX12_text_262 : decode cX12_text 262 = .ok (.invokestatic 291, 3) := by decide +kernel
theorem dX12_text_265 : decode cX12_text 265 = .ok (.aload_n 0, 1) := by decide +kernel
theorem dX12_text_266 : decode cX12_text 266 = .ok (.getfield 52, 3) := by decide +kernel
theorem dX12_text_269 : decode cX12_text 269 = .ok (.invokestatic 291, 3) := by decide +kernel
theorem dX12_text_272 : decode cX12_text 272 = .ok (.aload_n 0, 1) := by decide +kernel
theorem dX12_text_273 : decode cX12_text 273 = .ok (.getfield 55, 3) := by decide +kernel
theorem dX12_text_276 : decode cX12_text 276 = .ok (.invokestatic 291, 3) := by decide +kernel
theorem dX12_text_279 : decode cX12_text 279 = .ok (.aload_n 0, 1) := by decide +kernel
theorem dX12_text_280 : decode cX12_text 280 = .ok (.getfield 58, 3) := by decide +kernel
theorem dX12_text_283 : decode cX12_text 283 = .ok (.invokestatic 291, 3) := by decide +kernel
theorem dX12_text_286 : decode cX12_text 286 = .ok (.aload_n 0, 1) := by decide +kernel
theorem dX12_text_287 : decode cX12_text 287 = .ok (.iconst 0, 1) := by decide +kernel
theorem dX12_text_288 : decode cX12_text 288 = .ok (.putfield 295, 3) := by decide +kernel
theorem dX12_text_291 : decode cX12_text 291 = .ok (.aload_n 0, 1) := by decide +kernel
theorem dX12_text_292 : decode cX12_text 292 = .ok (.iconst (-1), 1) := by decide +kernel
theorem dX12_text_293 : decode cX12_text 293 = .ok (.putfield 123, 3) := by decide +kernel
theorem dX12_text_296 : decode cX12_text 296 = .ok (.aload_n 0, 1) := by decide +kernel
theorem dX12_text_297 : decode cX12_text 297 = .ok (.iconst 0, 1) := by decide +kernel
theorem dX12_text_298 : decode cX12_text 298 = .ok (.putfield 298, 3) := by decide +kernel
theorem dX12_text_301 : decode cX12_text 301 = .ok (.aload_n 0, 1) := by decide +kernel
theorem dX12_text_302 : decode cX12_text 302 = .ok (.iconst 0, 1) := by decide +kernel
theorem dX12_text_303 : decode cX12_text 303 = .ok (.putfield 302, 3) := by decide +kernel
theorem dX12_text_306 : decode cX12_text 306 = .ok (.aload_n 0, 1) := by decide +kernel
theorem dX12_text_307 : decode cX12_text 307 = .ok (.invokevirtual 142, 3) := by decide +kernel
theorem dX12_text_310 : decode cX12_text 310 = .ok (.aload_n 0, 1) := by decide +kernel
theorem dX12_text_311 : decode cX12_text 311 = .ok (.getfield 249, 3) := by decide +kernel
theorem dX12_text_314 : decode cX12_text 314 = .ok (.ireturn, 1) := by decide +kernel
theorem dX12_fault_0 : decode cX12_fault 0 = .ok (.aload_n 0, 1) := by decide +kernel
theorem dX12_fault_1 : decode cX12_fault 1 = .ok (.iconst 0, 1) := by decide +kernel
theorem dX12_fault_2 : decode cX12_fault 2 = .ok (.putfield 145, 3) := by decide +kernel
theorem dX12_fault_5 : decode cX12_fault 5 = .ok (.iload_n 1, 1) := by decide +kernel
theorem dX12_fault_6 : decode cX12_fault 6 = .ok (.ifCond .ne 10, 3) := by decide +kernel
theorem dX12_fault_9 : decode cX12_fault 9 = .ok (.aload_n 0, 1) := by decide +kernel
theorem dX12_fault_10 : decode cX12_fault 10 = .ok (.getfield 288, 3) := by decide +kernel
theorem dX12_fault_13 : decode cX12_fault 13 = .ok (.goto 16, 3) := by decide +kernel
theorem dX12_fault_16 : decode cX12_fault 16 = .ok (.iload_n 1, 1) := by decide +kernel
theorem dX12_fault_17 : decode cX12_fault 17 = .ok (.iconst 1, 1) := by decide +kernel
theorem dX12_fault_18 : decode cX12_fault 18 = .ok (.if_icmp .ne 10, 3) := by decide +kernel
theorem dX12_fault_21 : decode cX12_fault 21 = .ok (.aload_n 0, 1) := by decide +kernel
theorem dX12_fault_22 : decode cX12_fault 22 = .ok (.getfield 61, 3) := by decide +kernel
theorem dX12_fault_25 : decode cX12_fault 25 = .ok (.goto 4, 3) := by decide +kernel
theorem dX12_fault_28 : decode cX12_fault 28 = .ok (.iconst (-1), 1) := by decide +kernel
theorem dX12_fault_29 : decode cX12_fault 29 = .ok (.ireturn, 1) := by decide +kernel
theorem dX12_named_0 : decode cX12_named 0 = .ok (.aload_n 0, 1) := by decide +kernel
theorem dX12_named_1 : decode cX12_named 1 = .ok (.iconst 0, 1) := by decide +kernel
theorem dX12_named_2 : decode cX12_named 2 = .ok (.putfield 145, 3) := by decide +kernel
theorem dX12_named_5 : decode cX12_named 5 = .ok (.iload_n 1, 1) := by decide +kernel
theorem dX12_named_6 : decode cX12_named 6 = .ok (.tableswitch 74 0 2 #[26, 42, 58], 26) := by decide +kernel
theorem dX12_named_32 : decode cX12_named 32 = .ok (.aload_n 0, 1) := by decide +kernel
theorem dX12_named_33 : decode cX12_named 33 = .ok (.getfield 16, 3) := by decide +kernel
theorem dX12_named_36 : decode cX12_named 36 = .ok (.iconst 0, 1) := by decide +kernel
theorem dX12_named_37 : decode cX12_named 37 = .ok (.aload_n 0, 1) := by decide +kernel
theorem dX12_named_38 : decode cX12_named 38 = .ok (.getfield 13, 3) := by decide +kernel
theorem dX12_named_41 : decode cX12_named 41 = .ok (.iconst 0, 1) := by decide +kernel
theorem dX12_named_42 : decode cX12_named 42 = .ok (.iaload, 1) := by decide +kernel
theorem dX12_named_43 : decode cX12_named 43 = .ok (.iload_n 2, 1) := by decide +kernel
theorem dX12_named_44 : decode cX12_named 44 = .ok (.invokestatic 211, 3) := by decide +kernel
theorem dX12_named_47 : decode cX12_named 47 = .ok (.ireturn, 1) := by decide +kernel
theorem dX12_named_48 : decode cX12_named 48 = .ok (.aload_n 0, 1) := by decide +kernel
theorem dX12_named_49 : decode cX12_named 49 = .ok (.getfield 25, 3) := by decide +kernel
theorem dX12_named_52 : decode cX12_named 52 = .ok (.iconst 0, 1) := by decide +kernel
theorem dX12_named_53 : decode cX12_named 53 = .ok (.aload_n 0, 1) := by decide +kernel
theorem dX12_named_54 : decode cX12_named 54 = .ok (.getfield 13, 3) := by decide +kernel
theorem dX12_named_57 : decode cX12_named 57 = .ok (.iconst 1, 1) := by decide +kernel
theorem dX12_named_58 : decode cX12_named 58 = .ok (.iaload, 1) := by decide +kernel
theorem dX12_named_59 : decode cX12_named 59 = .ok (.iload_n 2, 1) := by decide +kernel
theorem dX12_named_60 : decode cX12_named 60 = .ok (.invokestatic 211, 3) := by decide +kernel
theorem dX12_named_63 : decode cX12_named 63 = .ok (.ireturn, 1) := by decide +kernel
theorem dX12_named_64 : decode cX12_named 64 = .ok (.aload_n 0, 1) := by decide +kernel
theorem dX12_named_65 : decode cX12_named 65 = .ok (.getfield 37, 3) := by decide +kernel
theorem dX12_named_68 : decode cX12_named 68 = .ok (.iconst 0, 1) := by decide +kernel
theorem dX12_named_69 : decode cX12_named 69 = .ok (.aload_n 0, 1) := by decide +kernel
theorem dX12_named_70 : decode cX12_named 70 = .ok (.getfield 13, 3) := by decide +kernel
theorem dX12_named_73 : decode cX12_named 73 = .ok (.iconst 2, 1) := by decide +kernel
theorem dX12_named_74 : decode cX12_named 74 = .ok (.iaload, 1) := by decide +kernel
theorem dX12_named_75 : decode cX12_named 75 = .ok (.iload_n 2, 1) := by decide +kernel
theorem dX12_named_76 : decode cX12_named 76 = .ok (.invokestatic 211, 3) := by decide +kernel
theorem dX12_named_79 : decode cX12_named 79 = .ok (.ireturn, 1) := by decide +kernel
theorem dX12_named_80 : decode cX12_named 80 = .ok (.iconst (-1), 1) := by decide +kernel
theorem dX12_named_81 : decode cX12_named 81 = .ok (.ireturn, 1) := by decide +kernel
theorem dX12_leverAs_0 : decode cX12_leverAs 0 = .ok (.aload_n 0, 1) := by decide +kernel
theorem dX12_leverAs_1 : decode cX12_leverAs 1 = .ok (.getfield 102, 3) := by decide +kernel
theorem dX12_leverAs_4 : decode cX12_leverAs 4 = .ok (.iconst (-1), 1) := by decide +kernel
theorem dX12_leverAs_5 : decode cX12_leverAs 5 = .ok (.if_icmp .ne 12, 3) := by decide +kernel
theorem dX12_leverAs_8 : decode cX12_leverAs 8 = .ok (.aload_n 0, 1) := by decide +kernel
theorem dX12_leverAs_9 : decode cX12_leverAs 9 = .ok (.getfield 13, 3) := by decide +kernel
theorem dX12_leverAs_12 : decode cX12_leverAs 12 = .ok (.iconst 3, 1) := by decide +kernel
theorem dX12_leverAs_13 : decode cX12_leverAs 13 = .ok (.iaload, 1) := by decide +kernel
theorem dX12_leverAs_14 : decode cX12_leverAs 14 = .ok (.goto 7, 3) := by decide +kernel
theorem dX12_leverAs_17 : decode cX12_leverAs 17 = .ok (.aload_n 0, 1) := by decide +kernel
theorem dX12_leverAs_18 : decode cX12_leverAs 18 = .ok (.getfield 102, 3) := by decide +kernel
theorem dX12_leverAs_21 : decode cX12_leverAs 21 = .ok (.ireturn, 1) := by decide +kernel
theorem dX12_starts_0 : decode cX12_starts 0 = .ok (.aload_n 0, 1) := by decide +kernel
theorem dX12_starts_1 : decode cX12_starts 1 = .ok (.getfield 72, 3) := by decide +kernel
theorem dX12_starts_4 : decode cX12_starts 4 = .ok (.iload_n 1, 1) := by decide +kernel
theorem dX12_starts_5 : decode cX12_starts 5 = .ok (.iconst 0, 1) := by decide +kernel
theorem dX12_starts_6 : decode cX12_starts 6 = .ok (.iastore, 1) := by decide +kernel
theorem dX12_starts_7 : decode cX12_starts 7 = .ok (.aload_n 0, 1) := by decide +kernel
theorem dX12_starts_8 : decode cX12_starts 8 = .ok (.getfield 75, 3) := by decide +kernel
theorem dX12_starts_11 : decode cX12_starts 11 = .ok (.iload_n 1, 1) := by decide +kernel
theorem dX12_starts_12 : decode cX12_starts 12 = .ok (.aload_n 0, 1) := by decide +kernel
theorem dX12_starts_13 : decode cX12_starts 13 = .ok (.invokevirtual 325, 3) := by decide +kernel
theorem dX12_starts_16 : decode cX12_starts 16 = .ok (.iastore, 1) := by decide +kernel
theorem dX12_starts_17 : decode cX12_starts 17 = .ok (.aload_n 0, 1) := by decide +kernel
theorem dX12_starts_18 : decode cX12_starts 18 = .ok (.getfield 78, 3) := by decide +kernel
theorem dX12_starts_21 : decode cX12_starts 21 = .ok (.iload_n 1, 1) := by decide +kernel
theorem dX12_starts_22 : decode cX12_starts 22 = .ok (.iconst 0, 1) := by decide +kernel
theorem dX12_starts_23 : decode cX12_starts 23 = .ok (.iastore, 1) := by decide +kernel
theorem dX12_starts_24 : decode cX12_starts 24 = .ok (.aload_n 0, 1) := by decide +kernel
theorem dX12_starts_25 : decode cX12_starts 25 = .ok (.getfield 81, 3) := by decide +kernel
theorem dX12_starts_28 : decode cX12_starts 28 = .ok (.iload_n 1, 1) := by decide +kernel
theorem dX12_starts_29 : decode cX12_starts 29 = .ok (.iconst 0, 1) := by decide +kernel
theorem dX12_starts_30 : decode cX12_starts 30 = .ok (.iastore, 1) := by decide +kernel
theorem dX12_starts_31 : decode cX12_starts 31 = .ok (.iconst 0, 1) := by decide +kernel
theorem dX12_starts_32 : decode cX12_starts 32 = .ok (.istore_n 2, 1) := by decide +kernel
theorem dX12_starts_33 : decode cX12_starts 33 = .ok (.iload_n 2, 1) := by decide +kernel
theorem dX12_starts_34 : decode cX12_starts 34 = .ok (.iconst 4, 1) := by decide +kernel
theorem dX12_starts_35 : decode cX12_starts 35 = .ok (.if_icmp .ge 50, 3) := by decide +kernel
theorem dX12_starts_38 : decode cX12_starts 38 = .ok (.aload_n 0, 1) := by decide +kernel
theorem dX12_starts_39 : decode cX12_starts 39 = .ok (.getfield 84, 3) := by decide +kernel
theorem dX12_starts_42 : decode cX12_starts 42 = .ok (.iconst 4, 1) := by decide +kernel
theorem dX12_starts_43 : decode cX12_starts 43 = .ok (.iload_n 1, 1) := by decide +kernel
theorem dX12_starts_44 : decode cX12_starts 44 = .ok (.imul, 1) := by decide +kernel
theorem dX12_starts_45 : decode cX12_starts 45 = .ok (.iload_n 2, 1) := by decide +kernel
theorem dX12_starts_46 : decode cX12_starts 46 = .ok (.iadd, 1) := by decide +kernel
theorem dX12_starts_47 : decode cX12_starts 47 = .ok (.iload_n 2, 1) := by decide +kernel
theorem dX12_starts_48 : decode cX12_starts 48 = .ok (.aload_n 0, 1) := by decide +kernel
theorem dX12_starts_49 : decode cX12_starts 49 = .ok (.getfield 13, 3) := by decide +kernel
theorem dX12_starts_52 : decode cX12_starts 52 = .ok (.iconst 0, 1) := by decide +kernel
theorem dX12_starts_53 : decode cX12_starts 53 = .ok (.iaload, 1) := by decide +kernel
theorem dX12_starts_54 : decode cX12_starts 54 = .ok (.if_icmp .ge 12, 3) := by decide +kernel
theorem dX12_starts_57 : decode cX12_starts 57 = .ok (.aload_n 0, 1) := by decide +kernel
theorem dX12_starts_58 : decode cX12_starts 58 = .ok (.getfield 22, 3) := by decide +kernel
theorem dX12_starts_61 : decode cX12_starts 61 = .ok (.iload_n 2, 1) := by decide +kernel
theorem dX12_starts_62 : decode cX12_starts 62 = .ok (.iaload, 1) := by decide +kernel
theorem dX12_starts_63 : decode cX12_starts 63 = .ok (.goto 4, 3) := by decide +kernel
theorem dX12_starts_66 : decode cX12_starts 66 = .ok (.iconst 0, 1) := by decide +kernel
theorem dX12_starts_67 : decode cX12_starts 67 = .ok (.iastore, 1) := by decide +kernel
theorem dX12_starts_68 : decode cX12_starts 68 = .ok (.aload_n 0, 1) := by decide +kernel
theorem dX12_starts_69 : decode cX12_starts 69 = .ok (.getfield 87, 3) := by decide +kernel
theorem dX12_starts_72 : decode cX12_starts 72 = .ok (.iconst 4, 1) := by decide +kernel
theorem dX12_starts_73 : decode cX12_starts 73 = .ok (.iload_n 1, 1) := by decide +kernel
theorem dX12_starts_74 : decode cX12_starts 74 = .ok (.imul, 1) := by decide +kernel
theorem dX12_starts_75 : decode cX12_starts 75 = .ok (.iload_n 2, 1) := by decide +kernel
theorem dX12_starts_76 : decode cX12_starts 76 = .ok (.iadd, 1) := by decide +kernel
theorem dX12_starts_77 : decode cX12_starts 77 = .ok (.iconst 0, 1) := by decide +kernel
theorem dX12_starts_78 : decode cX12_starts 78 = .ok (.iastore, 1) := by decide +kernel
theorem dX12_starts_79 : decode cX12_starts 79 = .ok (.iinc 2 1, 3) := by decide +kernel
theorem dX12_starts_82 : decode cX12_starts 82 = .ok (.goto (-49), 3) := by decide +kernel
theorem dX12_starts_85 : decode cX12_starts 85 = .ok (.iconst 0, 1) := by decide +kernel
theorem dX12_starts_86 : decode cX12_starts 86 = .ok (.istore_n 2, 1) := by decide +kernel
theorem dX12_starts_87 : decode cX12_starts 87 = .ok (.iload_n 2, 1) := by decide +kernel
theorem dX12_starts_88 : decode cX12_starts 88 = .ok (.bipush 10, 2) := by decide +kernel
theorem dX12_starts_90 : decode cX12_starts 90 = .ok (.if_icmp .ge 87, 3) := by decide +kernel
theorem dX12_starts_93 : decode cX12_starts 93 = .ok (.iload_n 2, 1) := by decide +kernel
theorem dX12_starts_94 : decode cX12_starts 94 = .ok (.aload_n 0, 1) := by decide +kernel
theorem dX12_starts_95 : decode cX12_starts 95 = .ok (.getfield 13, 3) := by decide +kernel
theorem dX12_starts_98 : decode cX12_starts 98 = .ok (.iconst 2, 1) := by decide +kernel
theorem dX12_starts_99 : decode cX12_starts 99 = .ok (.iaload, 1) := by decide +kernel
theorem dX12_starts_100 : decode cX12_starts 100 = .ok (.if_icmp .ge 7, 3) := by decide +kernel
theorem dX12_starts_103 : decode cX12_starts 103 = .ok (.iconst 1, 1) := by decide +kernel
theorem dX12_starts_104 : decode cX12_starts 104 = .ok (.goto 4, 3) := by decide +kernel
theorem dX12_starts_107 : decode cX12_starts 107 = .ok (.iconst 0, 1) := by decide +kernel
theorem dX12_starts_108 : decode cX12_starts 108 = .ok (.istore_n 3, 1) := by decide +kernel
theorem dX12_starts_109 : decode cX12_starts 109 = .ok (.aload_n 0, 1) := by decide +kernel
theorem dX12_starts_110 : decode cX12_starts 110 = .ok (.getfield 90, 3) := by decide +kernel
theorem dX12_starts_113 : decode cX12_starts 113 = .ok (.bipush 10, 2) := by decide +kernel
theorem dX12_starts_115 : decode cX12_starts 115 = .ok (.iload_n 1, 1) := by decide +kernel
theorem dX12_starts_116 : decode cX12_starts 116 = .ok (.imul, 1) := by decide +kernel
theorem dX12_starts_117 : decode cX12_starts 117 = .ok (.iload_n 2, 1) := by decide +kernel
theorem dX12_starts_118 : decode cX12_starts 118 = .ok (.iadd, 1) := by decide +kernel
theorem dX12_starts_119 : decode cX12_starts 119 = .ok (.iload_n 3, 1) := by decide +kernel
theorem dX12_starts_120 : decode cX12_starts 120 = .ok (.ifCond .eq 12, 3) := by decide +kernel
theorem dX12_starts_123 : decode cX12_starts 123 = .ok (.aload_n 0, 1) := by decide +kernel
theorem dX12_starts_124 : decode cX12_starts 124 = .ok (.getfield 40, 3) := by decide +kernel
theorem dX12_starts_127 : decode cX12_starts 127 = .ok (.iload_n 2, 1) := by decide +kernel
theorem dX12_starts_128 : decode cX12_starts 128 = .ok (.iaload, 1) := by decide +kernel
theorem dX12_starts_129 : decode cX12_starts 129 = .ok (.goto 4, 3) := by decide +kernel
theorem dX12_starts_132 : decode cX12_starts 132 = .ok (.iconst 0, 1) := by decide +kernel
theorem dX12_starts_133 : decode cX12_starts 133 = .ok (.iastore, 1) := by decide +kernel
theorem dX12_starts_134 : decode cX12_starts 134 = .ok (.aload_n 0, 1) := by decide +kernel
theorem dX12_starts_135 : decode cX12_starts 135 = .ok (.getfield 93, 3) := by decide +kernel
theorem dX12_starts_138 : decode cX12_starts 138 = .ok (.bipush 10, 2) := by decide +kernel
theorem dX12_starts_140 : decode cX12_starts 140 = .ok (.iload_n 1, 1) := by decide +kernel
theorem dX12_starts_141 : decode cX12_starts 141 = .ok (.imul, 1) := by decide +kernel
theorem dX12_starts_142 : decode cX12_starts 142 = .ok (.iload_n 2, 1) := by decide +kernel
theorem dX12_starts_143 : decode cX12_starts 143 = .ok (.iadd, 1) := by decide +kernel
theorem dX12_starts_144 : decode cX12_starts 144 = .ok (.iload_n 3, 1) := by decide +kernel
theorem dX12_starts_145 : decode cX12_starts 145 = .ok (.ifCond .eq 12, 3) := by decide +kernel
theorem dX12_starts_148 : decode cX12_starts 148 = .ok (.aload_n 0, 1) := by decide +kernel
theorem dX12_starts_149 : decode cX12_starts 149 = .ok (.getfield 46, 3) := by decide +kernel
theorem dX12_starts_152 : decode cX12_starts 152 = .ok (.iload_n 2, 1) := by decide +kernel
theorem dX12_starts_153 : decode cX12_starts 153 = .ok (.iaload, 1) := by decide +kernel
theorem dX12_starts_154 : decode cX12_starts 154 = .ok (.goto 4, 3) := by decide +kernel
theorem dX12_starts_157 : decode cX12_starts 157 = .ok (.iconst 0, 1) := by decide +kernel
theorem dX12_starts_158 : decode cX12_starts 158 = .ok (.iastore, 1) := by decide +kernel
theorem dX12_starts_159 : decode cX12_starts 159 = .ok (.aload_n 0, 1) := by decide +kernel
theorem dX12_starts_160 : decode cX12_starts 160 = .ok (.getfield 96, 3) := by decide +kernel
theorem dX12_starts_163 : decode cX12_starts 163 = .ok (.bipush 10, 2) := by decide +kernel
theorem dX12_starts_165 : decode cX12_starts 165 = .ok (.iload_n 1, 1) := by decide +kernel
theorem dX12_starts_166 : decode cX12_starts 166 = .ok (.imul, 1) := by decide +kernel
theorem dX12_starts_167 : decode cX12_starts 167 = .ok (.iload_n 2, 1) := by decide +kernel
theorem dX12_starts_168 : decode cX12_starts 168 = .ok (.iadd, 1) := by decide +kernel
theorem dX12_starts_169 : decode cX12_starts 169 = .ok (.iconst (-1), 1) := by decide +kernel
theorem dX12_starts_170 : decode cX12_starts 170 = .ok (.iastore, 1) := by decide +kernel
theorem dX12_starts_171 : decode cX12_starts 171 = .ok (.iinc 2 1, 3) := by decide +kernel
theorem dX12_starts_174 : decode cX12_starts 174 = .ok (.goto (-87), 3) := by decide +kernel
theorem dX12_starts_177 : decode cX12_starts 177 = .ok (.return_, 1) := by decide +kernel
theorem dX12_begins_0 : decode cX12_begins 0 = .ok (.aload_n 0, 1) := by decide +kernel
theorem dX12_begins_1 : decode cX12_begins 1 = .ok (.iconst 0, 1) := by decide +kernel
theorem dX12_begins_2 : decode cX12_begins 2 = .ok (.invokevirtual 328, 3) := by decide +kernel
theorem dX12_begins_5 : decode cX12_begins 5 = .ok (.return_, 1) := by decide +kernel
def wp_X12_lawLine_65 (Q : ck_H → Prop) (x1 : Int32) (h : ck_H) : Prop := (((h.1 0 26) = 0 → (∀ h6, h6 = ck_sI h 0 19 ((h.1 0 19) ||| ((1 : Int32) <<< (((16 : Int32) + x1) &&& 31))) → (wp_X12_token h6 (fun h7 => (wp_X12_fresher (6 : Int32) h7 (fun r9 h8 => (vp_in ((3 : Int32) + x1) 6 ∧ (∀ h11, h11 = ck_sI h8 14 ((3 : Int32) + x1).toNatClampNeg r9 → (wp_X12_expression 11 h11 (fun h12 => (wp_X12_fresher (6 : Int32) h12 (fun r14 h13 => (vp_in ((3 : Int32) + x1) 6 ∧ (∀ h16, h16 = ck_sI h13 15 ((3 : Int32) + x1).toNatClampNeg r14 → Q h16)))))))))))))) ∧ (¬ (h.1 0 26) = 0 → Q h))
def wp_X12_lawLine_30 (Q : ck_H → Prop) (h : ck_H) : Prop := (∀ v3, v3 = ((h.1 0 25) - (7 : Int32)) → ((¬ (h.1 0 26) = 0 → wp_X12_lawLine_65 Q v3 h) ∧ ((h.1 0 26) = 0 → ((¬ (((h.1 0 19) >>> (((16 : Int32) + v3) &&& 31)) &&& (1 : Int32)) = (1 : Int32) → wp_X12_lawLine_65 Q v3 h) ∧ ((((h.1 0 19) >>> (((16 : Int32) + v3) &&& 31)) &&& (1 : Int32)) = (1 : Int32) → (wp_X12_wrong (3 : Int32) h (fun h18 => wp_X12_lawLine_65 Q v3 h18)))))))
def wp_X12_lawLine_25 (Q : ck_H → Prop) (h : ck_H) : Prop := (wp_X12_wrong (1 : Int32) h (fun h2 => wp_X12_lawLine_30 Q h2))
def wp_X12_lawLine (h : ck_H) (Q : ck_H → Prop) : Prop := ((¬ (h.1 0 24) = 0 → wp_X12_lawLine_25 Q h) ∧ ((h.1 0 24) = 0 → (((h.1 0 25) < (7 : Int32) → wp_X12_lawLine_25 Q h) ∧ (¬ (h.1 0 25) < (7 : Int32) → (((h.1 0 25) ≤ (9 : Int32) → wp_X12_lawLine_30 Q h) ∧ (¬ (h.1 0 25) ≤ (9 : Int32) → wp_X12_lawLine_25 Q h))))))
set_option maxHeartbeats 4000000 in
set_option maxRecDepth 100000 in
theorem cp_X12_lawLine_65 {gr : Bool} {Q : ck_H → Prop} : ∀ (x1 : Int32) (h : ck_H), wp_X12_lawLine_65 Q x1 h → ck_W cX12_lawLine 2 RX12 none 925 0 0 false gr (ck_Qv ck_shM Q) ck_shM h 0 0 65 [(0, .ref 0), (1, .int x1)] [] := by
  intro x1 h hq
  refine ck_aload_n 0 dX12_lawLine_65 rfl rfl ?_
  refine ck_getI clX12 26 rfl rfl (by decide) fl_X12_199 dX12_lawLine_66 ?_
  refine ck_if_eq (tgt := 73) dX12_lawLine_69 (by decide) (fun c5 => ?_) (fun c5 => ?_)
  · have hq := hq.1 c5
    refine ck_aload_n 0 dX12_lawLine_73 rfl rfl ?_
    refine ck_dup dX12_lawLine_74 rfl ?_
    refine ck_getI clX12 19 rfl rfl (by decide) fl_X12_225 dX12_lawLine_75 ?_
    refine ck_iconst (v := 1) dX12_lawLine_78 (by decide) ?_
    refine ck_bipush (v := 16) dX12_lawLine_79 (by decide) ?_
    refine ck_iload_n 1 dX12_lawLine_81 rfl rfl ?_
    refine ck_iadd dX12_lawLine_82 ?_
    refine ck_ishl dX12_lawLine_83 ?_
    refine ck_ior dX12_lawLine_84 ?_
    refine ck_putI clX12 19 rfl rfl (by decide) fl_X12_225 rfl rfl rfl dX12_lawLine_85 ?_
    refine ck_nmH (fun h6 eh6 => ?_)
    have hq := hq h6 eh6
    refine ck_aload_n 0 dX12_lawLine_88 rfl rfl ?_
    refine ck_callV (c_X12_token hq) rfl cal_X12_token rfl ml_X12_205 vir_X12_token rfl rfl (by decide) (Nat.le_of_ble_eq_true rfl) (Nat.le_of_ble_eq_true rfl) (by decide) (by decide) dX12_lawLine_89 ?_
    rintro _ _ h7 ⟨rfl, rfl, hq⟩
    refine ck_aload_n 0 dX12_lawLine_92 rfl rfl ?_
    refine ck_getR clX12 15 rfl rfl (by decide) fl_X12_49 dX12_lawLine_93 ?_
    refine ck_iconst (v := 3) dX12_lawLine_96 (by decide) ?_
    refine ck_iload_n 1 dX12_lawLine_97 rfl rfl ?_
    refine ck_iadd dX12_lawLine_98 ?_
    refine ck_aload_n 0 dX12_lawLine_99 rfl rfl ?_
    refine ck_bipush (v := 6) dX12_lawLine_100 (by decide) ?_
    refine ck_callV (c_X12_fresher hq) rfl cal_X12_fresher rfl ml_X12_218 vir_X12_fresher rfl rfl (by decide) (Nat.le_of_ble_eq_true rfl) (Nat.le_of_ble_eq_true rfl) (by decide) (by decide) dX12_lawLine_102 ?_
    rintro _ _ h8 ⟨r9, rfl, rfl, hq⟩
    obtain ⟨b10, hq⟩ := hq
    refine ck_iast rfl rfl b10 dX12_lawLine_105 ?_
    refine ck_nmH (fun h11 eh11 => ?_)
    have hq := hq h11 eh11
    refine ck_aload_n 0 dX12_lawLine_106 rfl rfl ?_
    refine ck_callV (c_X12_expression 11 hq) rfl cal_X12_expression rfl ml_X12_252 vir_X12_expression rfl rfl (by decide) (Nat.le_of_ble_eq_true rfl) (Nat.le_of_ble_eq_true rfl) (by decide) (by decide) dX12_lawLine_107 ?_
    rintro _ _ h12 ⟨rfl, rfl, hq⟩
    refine ck_aload_n 0 dX12_lawLine_110 rfl rfl ?_
    refine ck_getR clX12 16 rfl rfl (by decide) fl_X12_52 dX12_lawLine_111 ?_
    refine ck_iconst (v := 3) dX12_lawLine_114 (by decide) ?_
    refine ck_iload_n 1 dX12_lawLine_115 rfl rfl ?_
    refine ck_iadd dX12_lawLine_116 ?_
    refine ck_aload_n 0 dX12_lawLine_117 rfl rfl ?_
    refine ck_bipush (v := 6) dX12_lawLine_118 (by decide) ?_
    refine ck_callV (c_X12_fresher hq) rfl cal_X12_fresher rfl ml_X12_218 vir_X12_fresher rfl rfl (by decide) (Nat.le_of_ble_eq_true rfl) (Nat.le_of_ble_eq_true rfl) (by decide) (by decide) dX12_lawLine_120 ?_
    rintro _ _ h13 ⟨r14, rfl, rfl, hq⟩
    obtain ⟨b15, hq⟩ := hq
    refine ck_iast rfl rfl b15 dX12_lawLine_123 ?_
    refine ck_nmH (fun h16 eh16 => ?_)
    have hq := hq h16 eh16
    exact ck_vret rfl rfl rfl dX12_lawLine_124 ⟨rfl, rfl, hq⟩
  · have hq := hq.2 c5
    exact ck_vret rfl rfl rfl dX12_lawLine_72 ⟨rfl, rfl, hq⟩
set_option maxHeartbeats 4000000 in
set_option maxRecDepth 100000 in
theorem cp_X12_lawLine_30 {gr : Bool} {Q : ck_H → Prop} : ∀ (h : ck_H), wp_X12_lawLine_30 Q h → ck_W cX12_lawLine 2 RX12 none 925 0 0 false gr (ck_Qv ck_shM Q) ck_shM h 0 0 30 [(0, .ref 0)] [] := by
  intro h hq
  refine ck_aload_n 0 dX12_lawLine_30 rfl rfl ?_
  refine ck_getI clX12 25 rfl rfl (by decide) fl_X12_174 dX12_lawLine_31 ?_
  refine ck_bipush (v := 7) dX12_lawLine_34 (by decide) ?_
  refine ck_isub dX12_lawLine_36 ?_
  refine ck_nmI (fun v3 ev3 => ?_)
  have hq := hq v3 ev3
  refine ck_istore_n (lv' := [(1, .int v3), (0, .ref 0)]) dX12_lawLine_37 rfl (by decide) rfl ?_
  refine ck_aload_n 1 dX12_lawLine_38 rfl rfl ?_
  refine ck_getI clX12 26 rfl rfl (by decide) fl_X12_199 dX12_lawLine_39 ?_
  refine ck_if_ne (tgt := 65) dX12_lawLine_42 (by decide) (fun c4 => ?_) (fun c4 => ?_)
  · have hq := hq.1 c4
    refine ck_loc [1, 0] rfl ?_
    exact cp_X12_lawLine_65 _ _ hq
  · have hq := hq.2 c4
    refine ck_aload_n 1 dX12_lawLine_45 rfl rfl ?_
    refine ck_getI clX12 19 rfl rfl (by decide) fl_X12_225 dX12_lawLine_46 ?_
    refine ck_bipush (v := 16) dX12_lawLine_49 (by decide) ?_
    refine ck_iload_n 0 dX12_lawLine_51 rfl rfl ?_
    refine ck_iadd dX12_lawLine_52 ?_
    refine ck_ishr dX12_lawLine_53 ?_
    refine ck_iconst (v := 1) dX12_lawLine_54 (by decide) ?_
    refine ck_iand dX12_lawLine_55 ?_
    refine ck_iconst (v := 1) dX12_lawLine_56 (by decide) ?_
    refine ck_icmp_ne (tgt := 65) dX12_lawLine_57 (by decide) (fun c17 => ?_) (fun c17 => ?_)
    · have hq := hq.1 c17
      refine ck_loc [1, 0] rfl ?_
      exact cp_X12_lawLine_65 _ _ hq
    · have hq := hq.2 c17
      refine ck_aload_n 1 dX12_lawLine_60 rfl rfl ?_
      refine ck_iconst (v := 3) dX12_lawLine_61 (by decide) ?_
      refine ck_callV (c_X12_wrong hq) rfl cal_X12_wrong rfl ml_X12_208 vir_X12_wrong rfl rfl (by decide) (Nat.le_of_ble_eq_true rfl) (Nat.le_of_ble_eq_true rfl) (by decide) (by decide) dX12_lawLine_62 ?_
      rintro _ _ h18 ⟨rfl, rfl, hq⟩
      refine ck_loc [1, 0] rfl ?_
      exact cp_X12_lawLine_65 _ _ hq
set_option maxHeartbeats 4000000 in
set_option maxRecDepth 100000 in
theorem cp_X12_lawLine_25 {gr : Bool} {Q : ck_H → Prop} : ∀ (h : ck_H), wp_X12_lawLine_25 Q h → ck_W cX12_lawLine 2 RX12 none 925 0 0 false gr (ck_Qv ck_shM Q) ck_shM h 0 0 25 [(0, .ref 0)] [] := by
  intro h hq
  refine ck_aload_n 0 dX12_lawLine_25 rfl rfl ?_
  refine ck_iconst (v := 1) dX12_lawLine_26 (by decide) ?_
  refine ck_callV (c_X12_wrong hq) rfl cal_X12_wrong rfl ml_X12_208 vir_X12_wrong rfl rfl (by decide) (Nat.le_of_ble_eq_true rfl) (Nat.le_of_ble_eq_true rfl) (by decide) (by decide) dX12_lawLine_27 ?_
  rintro _ _ h2 ⟨rfl, rfl, hq⟩
  exact cp_X12_lawLine_30  _ hq
set_option maxHeartbeats 4000000 in
set_option maxRecDepth 100000 in
theorem c_X12_lawLine {gr : Bool} {h : ck_H} {Q : ck_H → Prop} (hq : wp_X12_lawLine h Q) : ck_M yX12_lawLine cX12_lawLine 2 none 925 0 0 gr ck_shM h [.ref 0] (ck_Qv ck_shM Q) := by
  refine ck_entry (lv := [(0, .ref 0)]) false (own := RX12) rfl (fun q => by cases q) (by decide) (Nat.le_of_ble_eq_true rfl) rfl ?_
  refine ck_aload_n 0 dX12_lawLine_0 rfl rfl ?_
  refine ck_getI clX12 24 rfl rfl (by decide) fl_X12_164 dX12_lawLine_1 ?_
  refine ck_if_ne (tgt := 25) dX12_lawLine_4 (by decide) (fun c1 => ?_) (fun c1 => ?_)
  · have hq := hq.1 c1
    exact cp_X12_lawLine_25  _ hq
  · have hq := hq.2 c1
    refine ck_aload_n 0 dX12_lawLine_7 rfl rfl ?_
    refine ck_getI clX12 25 rfl rfl (by decide) fl_X12_174 dX12_lawLine_8 ?_
    refine ck_bipush (v := 7) dX12_lawLine_11 (by decide) ?_
    refine ck_icmp_lt (tgt := 25) dX12_lawLine_13 (by decide) (fun c19 => ?_) (fun c19 => ?_)
    · have hq := hq.1 c19
      exact cp_X12_lawLine_25  _ hq
    · have hq := hq.2 c19
      refine ck_aload_n 0 dX12_lawLine_16 rfl rfl ?_
      refine ck_getI clX12 25 rfl rfl (by decide) fl_X12_174 dX12_lawLine_17 ?_
      refine ck_bipush (v := 9) dX12_lawLine_20 (by decide) ?_
      refine ck_icmp_le (tgt := 30) dX12_lawLine_22 (by decide) (fun c20 => ?_) (fun c20 => ?_)
      · have hq := hq.1 c20
        exact cp_X12_lawLine_30  _ hq
      · have hq := hq.2 c20
        exact cp_X12_lawLine_25  _ hq
def wp_X12_line_16 (Q : ck_H → Prop) (h : ck_H) : Prop := (wp_X12_wrong (1 : Int32) h (fun h2 => Q h2))
def wp_X12_line_467 (Q : ck_H → Prop) (h : ck_H) : Prop := (∀ h38, h38 = ck_sI h 0 20 ((h.1 0 20) + (1 : Int32)) → Q h38)
def wp_X12_line_438 (Q : ck_H → Prop) (h : ck_H) : Prop := (((h.1 0 26) = 0 → (wp_X12_isSign (59 : Int32) h (fun r35 h34 => ((¬ r35 = 0 → (wp_X12_token h34 (fun h37 => wp_X12_line_467 Q h37))) ∧ (r35 = 0 → (wp_X12_wrong (1 : Int32) h34 (fun h39 => wp_X12_line_467 Q h39))))))) ∧ (¬ (h.1 0 26) = 0 → Q h))
def wp_X12_line_70 (Q : ck_H → Prop) (x1 : Int32) (h : ck_H) : Prop := (((h.1 0 26) = 0 → (∀ h10, h10 = ck_sI h 0 19 ((h.1 0 19) ||| ((1 : Int32) <<< (x1 &&& 31))) → (wp_X12_token h10 (fun h11 => ((x1 = 0 → (wp_X12_fresher (0 : Int32) h11 (fun r14 h13 => (∀ v15, v15 = ((4 : Int32) + r14) → (wp_X12_fresher (0 : Int32) h13 (fun r17 h16 => (wp_X12_fresh 3 (4 : Int32) r17 h16 (fun r19 h18 => (vp_in v15 8 ∧ (∀ h21, h21 = ck_sI h18 3 v15.toNatClampNeg r19 → (wp_X12_numeral (1 : Int32) (99 : Int32) h21 (fun r23 h22 => (vp_in v15 8 ∧ (∀ h25, h25 = ck_sI h22 4 v15.toNatClampNeg r23 → (wp_X12_numeral (0 : Int32) (9 : Int32) h25 (fun r27 h26 => (vp_in v15 8 ∧ (∀ h29, h29 = ck_sI h26 5 v15.toNatClampNeg r27 → (wp_X12_fresher (0 : Int32) h29 (fun r31 h30 => (wp_X12_reads (0 : Int32) (r31 + (1 : Int32)) h30 (fun h32 => wp_X12_line_438 Q h32)))))))))))))))))))))) ∧ (¬ x1 = 0 → ((x1 = 1 → (wp_X12_fresher (1 : Int32) h11 (fun r42 h41 => (∀ v43, v43 = ((6 : Int32) + r42) → (wp_X12_fresher (1 : Int32) h41 (fun r45 h44 => (wp_X12_fresh 6 (6 : Int32) r45 h44 (fun r47 h46 => (vp_in v43 12 ∧ (∀ h49, h49 = ck_sI h46 6 v43.toNatClampNeg r47 → (wp_X12_numeral (0 : Int32) (99 : Int32) h49 (fun r51 h50 => (vp_in v43 12 ∧ (∀ h53, h53 = ck_sI h50 7 v43.toNatClampNeg r51 → (wp_X12_numeral (0 : Int32) (99 : Int32) h53 (fun r55 h54 => (vp_in v43 12 ∧ (∀ h57, h57 = ck_sI h54 8 v43.toNatClampNeg r55 → (wp_X12_numeral (0 : Int32) (9 : Int32) h57 (fun r59 h58 => (vp_in v43 12 ∧ (∀ h61, h61 = ck_sI h58 9 v43.toNatClampNeg r59 → (wp_X12_fresher (1 : Int32) h61 (fun r63 h62 => (wp_X12_reads (1 : Int32) (r63 + (1 : Int32)) h62 (fun h64 => wp_X12_line_438 Q h64)))))))))))))))))))))))))) ∧ (¬ x1 = 1 → ((x1 = 2 → (wp_X12_fresher (2 : Int32) h11 (fun r67 h66 => (∀ v68, v68 = ((10 : Int32) + r67) → (wp_X12_fresher (2 : Int32) h66 (fun r70 h69 => (wp_X12_fresh 10 (10 : Int32) r70 h69 (fun r72 h71 => (vp_in v68 20 ∧ (∀ h74, h74 = ck_sI h71 10 v68.toNatClampNeg r72 → (wp_X12_fresher (0 : Int32) h74 (fun r76 h75 => (wp_X12_toldAhead 3 (4 : Int32) r76 h75 (fun r78 h77 => (vp_in v68 20 ∧ (∀ h80, h80 = ck_sI h77 11 v68.toNatClampNeg r78 → (wp_X12_fresher (1 : Int32) h80 (fun r82 h81 => (wp_X12_toldAhead 6 (6 : Int32) r82 h81 (fun r84 h83 => (vp_in v68 20 ∧ (∀ h86, h86 = ck_sI h83 12 v68.toNatClampNeg r84 → (wp_X12_numeral (0 : Int32) (99 : Int32) h86 (fun r88 h87 => (vp_in v68 20 ∧ (∀ h90, h90 = ck_sI h87 13 v68.toNatClampNeg r88 → (wp_X12_fresher (2 : Int32) h90 (fun r92 h91 => (wp_X12_reads (2 : Int32) (r92 + (1 : Int32)) h91 (fun h93 => wp_X12_line_438 Q h93)))))))))))))))))))))))))))))) ∧ (¬ x1 = 2 → ((x1 = 3 → (wp_X12_numeral (1 : Int32) (99 : Int32) h11 (fun r96 h95 => (wp_X12_reads (3 : Int32) r96 h95 (fun h97 => wp_X12_line_438 Q h97))))) ∧ (¬ x1 = 3 → ((x1 = 4 → (wp_X12_numeral (0 : Int32) (30 : Int32) h11 (fun r100 h99 => (wp_X12_reads (4 : Int32) r100 h99 (fun h101 => wp_X12_line_438 Q h101))))) ∧ (¬ x1 = 4 → ((x1 = 5 → (wp_X12_numeral (0 : Int32) (99999 : Int32) h11 (fun r104 h103 => (wp_X12_reads (5 : Int32) r104 h103 (fun h105 => wp_X12_line_438 Q h105))))) ∧ (¬ x1 = 5 → (wp_X12_lawLine h11 (fun h106 => wp_X12_line_438 Q h106)))))))))))))))))) ∧ (¬ (h.1 0 26) = 0 → Q h))
def wp_X12_line (h : ck_H) (Q : ck_H → Prop) : Prop := ((¬ (h.1 0 24) = 0 → wp_X12_line_16 Q h) ∧ ((h.1 0 24) = 0 → (((h.1 0 25) ≤ (6 : Int32) → (∀ v4, v4 = (h.1 0 25) → (wp_X12_isFull v4 h (fun r6 h5 => ((r6 = 0 → ((v4 < (3 : Int32) → wp_X12_line_70 Q v4 h5) ∧ (¬ v4 < (3 : Int32) → (((5 : Int32) < v4 → wp_X12_line_70 Q v4 h5) ∧ (¬ (5 : Int32) < v4 → ((¬ (((h5.1 0 19) >>> (v4 &&& 31)) &&& (1 : Int32)) = (1 : Int32) → wp_X12_line_70 Q v4 h5) ∧ ((((h5.1 0 19) >>> (v4 &&& 31)) &&& (1 : Int32)) = (1 : Int32) → (wp_X12_wrong (3 : Int32) h5 (fun h109 => wp_X12_line_70 Q v4 h109))))))))) ∧ (¬ r6 = 0 → (wp_X12_wrong (2 : Int32) h5 (fun h110 => wp_X12_line_70 Q v4 h110)))))))) ∧ (¬ (h.1 0 25) ≤ (6 : Int32) → wp_X12_line_16 Q h))))
set_option maxHeartbeats 4000000 in
set_option maxRecDepth 100000 in
theorem cp_X12_line_16 {gr : Bool} {Q : ck_H → Prop} : ∀ (h : ck_H), wp_X12_line_16 Q h → ck_W cX12_line 5 RX12 none 926 0 0 false gr (ck_Qv ck_shM Q) ck_shM h 0 0 16 [(0, .ref 0)] [] := by
  intro h hq
  refine ck_aload_n 0 dX12_line_16 rfl rfl ?_
  refine ck_iconst (v := 1) dX12_line_17 (by decide) ?_
  refine ck_callV (c_X12_wrong hq) rfl cal_X12_wrong rfl ml_X12_208 vir_X12_wrong rfl rfl (by decide) (Nat.le_of_ble_eq_true rfl) (Nat.le_of_ble_eq_true rfl) (by decide) (by decide) dX12_line_18 ?_
  rintro _ _ h2 ⟨rfl, rfl, hq⟩
  exact ck_vret rfl rfl rfl dX12_line_21 ⟨rfl, rfl, hq⟩
set_option maxHeartbeats 4000000 in
set_option maxRecDepth 100000 in
theorem cp_X12_line_467 {gr : Bool} {Q : ck_H → Prop} : ∀ (h : ck_H), wp_X12_line_467 Q h → ck_W cX12_line 5 RX12 none 926 0 0 false gr (ck_Qv ck_shM Q) ck_shM h 0 0 467 [(0, .ref 0)] [] := by
  intro h hq
  refine ck_aload_n 0 dX12_line_467 rfl rfl ?_
  refine ck_dup dX12_line_468 rfl ?_
  refine ck_getI clX12 20 rfl rfl (by decide) fl_X12_249 dX12_line_469 ?_
  refine ck_iconst (v := 1) dX12_line_472 (by decide) ?_
  refine ck_iadd dX12_line_473 ?_
  refine ck_putI clX12 20 rfl rfl (by decide) fl_X12_249 rfl rfl rfl dX12_line_474 ?_
  refine ck_nmH (fun h38 eh38 => ?_)
  have hq := hq h38 eh38
  exact ck_vret rfl rfl rfl dX12_line_477 ⟨rfl, rfl, hq⟩
set_option maxHeartbeats 4000000 in
set_option maxRecDepth 100000 in
theorem cp_X12_line_438 {gr : Bool} {Q : ck_H → Prop} : ∀ (h : ck_H), wp_X12_line_438 Q h → ck_W cX12_line 5 RX12 none 926 0 0 false gr (ck_Qv ck_shM Q) ck_shM h 0 0 438 [(0, .ref 0)] [] := by
  intro h hq
  refine ck_aload_n 0 dX12_line_438 rfl rfl ?_
  refine ck_getI clX12 26 rfl rfl (by decide) fl_X12_199 dX12_line_439 ?_
  refine ck_if_eq (tgt := 446) dX12_line_442 (by decide) (fun c33 => ?_) (fun c33 => ?_)
  · have hq := hq.1 c33
    refine ck_aload_n 0 dX12_line_446 rfl rfl ?_
    refine ck_bipush (v := 59) dX12_line_447 (by decide) ?_
    refine ck_callV (c_X12_isSign hq) rfl cal_X12_isSign rfl ml_X12_246 vir_X12_isSign rfl rfl (by decide) (Nat.le_of_ble_eq_true rfl) (Nat.le_of_ble_eq_true rfl) (by decide) (by decide) dX12_line_449 ?_
    rintro _ _ h34 ⟨r35, rfl, rfl, hq⟩
    refine ck_if_ne (tgt := 463) dX12_line_452 (by decide) (fun c36 => ?_) (fun c36 => ?_)
    · have hq := hq.1 c36
      refine ck_aload_n 0 dX12_line_463 rfl rfl ?_
      refine ck_callV (c_X12_token hq) rfl cal_X12_token rfl ml_X12_205 vir_X12_token rfl rfl (by decide) (Nat.le_of_ble_eq_true rfl) (Nat.le_of_ble_eq_true rfl) (by decide) (by decide) dX12_line_464 ?_
      rintro _ _ h37 ⟨rfl, rfl, hq⟩
      exact cp_X12_line_467  _ hq
    · have hq := hq.2 c36
      refine ck_aload_n 0 dX12_line_455 rfl rfl ?_
      refine ck_iconst (v := 1) dX12_line_456 (by decide) ?_
      refine ck_callV (c_X12_wrong hq) rfl cal_X12_wrong rfl ml_X12_208 vir_X12_wrong rfl rfl (by decide) (Nat.le_of_ble_eq_true rfl) (Nat.le_of_ble_eq_true rfl) (by decide) (by decide) dX12_line_457 ?_
      rintro _ _ h39 ⟨rfl, rfl, hq⟩
      refine ck_goto (tgt := 467) dX12_line_460 (by decide) ?_
      exact cp_X12_line_467  _ hq
  · have hq := hq.2 c33
    exact ck_vret rfl rfl rfl dX12_line_445 ⟨rfl, rfl, hq⟩
set_option maxHeartbeats 4000000 in
set_option maxRecDepth 100000 in
theorem cp_X12_line_70 {gr : Bool} {Q : ck_H → Prop} : ∀ (x1 : Int32) (h : ck_H), wp_X12_line_70 Q x1 h → ck_W cX12_line 5 RX12 none 926 0 0 false gr (ck_Qv ck_shM Q) ck_shM h 0 0 70 [(0, .ref 0), (1, .int x1)] [] := by
  intro x1 h hq
  refine ck_aload_n 0 dX12_line_70 rfl rfl ?_
  refine ck_getI clX12 26 rfl rfl (by decide) fl_X12_199 dX12_line_71 ?_
  refine ck_if_eq (tgt := 78) dX12_line_74 (by decide) (fun c9 => ?_) (fun c9 => ?_)
  · have hq := hq.1 c9
    refine ck_aload_n 0 dX12_line_78 rfl rfl ?_
    refine ck_dup dX12_line_79 rfl ?_
    refine ck_getI clX12 19 rfl rfl (by decide) fl_X12_225 dX12_line_80 ?_
    refine ck_iconst (v := 1) dX12_line_83 (by decide) ?_
    refine ck_iload_n 1 dX12_line_84 rfl rfl ?_
    refine ck_ishl dX12_line_85 ?_
    refine ck_ior dX12_line_86 ?_
    refine ck_putI clX12 19 rfl rfl (by decide) fl_X12_225 rfl rfl rfl dX12_line_87 ?_
    refine ck_nmH (fun h10 eh10 => ?_)
    have hq := hq h10 eh10
    refine ck_aload_n 0 dX12_line_90 rfl rfl ?_
    refine ck_callV (c_X12_token hq) rfl cal_X12_token rfl ml_X12_205 vir_X12_token rfl rfl (by decide) (Nat.le_of_ble_eq_true rfl) (Nat.le_of_ble_eq_true rfl) (by decide) (by decide) dX12_line_91 ?_
    rintro _ _ h11 ⟨rfl, rfl, hq⟩
    refine ck_iload_n 1 dX12_line_94 rfl rfl ?_
    by_cases c12 : x1 = 0
    · have hq := hq.1 c12
      refine ck_tabIn (tgt := 132) dX12_line_95 (by rw [c12]; decide) (by rw [c12]; decide) (by rw [c12]; rfl) (by decide) ?_
      refine ck_iconst (v := 4) dX12_line_132 (by decide) ?_
      refine ck_aload_n 0 dX12_line_133 rfl rfl ?_
      refine ck_iconst (v := 0) dX12_line_134 (by decide) ?_
      refine ck_callV (c_X12_fresher hq) rfl cal_X12_fresher rfl ml_X12_218 vir_X12_fresher rfl rfl (by decide) (Nat.le_of_ble_eq_true rfl) (Nat.le_of_ble_eq_true rfl) (by decide) (by decide) dX12_line_135 ?_
      rintro _ _ h13 ⟨r14, rfl, rfl, hq⟩
      refine ck_iadd dX12_line_138 ?_
      refine ck_nmI (fun v15 ev15 => ?_)
      have hq := hq v15 ev15
      refine ck_istore_n (lv' := [(2, .int v15), (0, .ref 0), (1, .int x1)]) dX12_line_139 rfl (by decide) rfl ?_
      refine ck_aload_n 1 dX12_line_140 rfl rfl ?_
      refine ck_getR clX12 4 rfl rfl (by decide) fl_X12_16 dX12_line_141 ?_
      refine ck_iload_n 0 dX12_line_144 rfl rfl ?_
      refine ck_aload_n 1 dX12_line_145 rfl rfl ?_
      refine ck_aload_n 1 dX12_line_146 rfl rfl ?_
      refine ck_getR clX12 4 rfl rfl (by decide) fl_X12_16 dX12_line_147 ?_
      refine ck_iconst (v := 4) dX12_line_150 (by decide) ?_
      refine ck_aload_n 1 dX12_line_151 rfl rfl ?_
      refine ck_iconst (v := 0) dX12_line_152 (by decide) ?_
      refine ck_callV (c_X12_fresher hq) rfl cal_X12_fresher rfl ml_X12_218 vir_X12_fresher rfl rfl (by decide) (Nat.le_of_ble_eq_true rfl) (Nat.le_of_ble_eq_true rfl) (by decide) (by decide) dX12_line_153 ?_
      rintro _ _ h16 ⟨r17, rfl, rfl, hq⟩
      refine ck_callV (c_X12_fresh (by simp) hq) rfl cal_X12_fresh rfl ml_X12_228 vir_X12_fresh rfl rfl (by decide) (Nat.le_of_ble_eq_true rfl) (Nat.le_of_ble_eq_true rfl) (by decide) (by decide) dX12_line_156 ?_
      rintro _ _ h18 ⟨r19, rfl, rfl, hq⟩
      obtain ⟨b20, hq⟩ := hq
      refine ck_iast rfl rfl b20 dX12_line_159 ?_
      refine ck_nmH (fun h21 eh21 => ?_)
      have hq := hq h21 eh21
      refine ck_aload_n 1 dX12_line_160 rfl rfl ?_
      refine ck_getR clX12 5 rfl rfl (by decide) fl_X12_19 dX12_line_161 ?_
      refine ck_iload_n 0 dX12_line_164 rfl rfl ?_
      refine ck_aload_n 1 dX12_line_165 rfl rfl ?_
      refine ck_iconst (v := 1) dX12_line_166 (by decide) ?_
      refine ck_bipush (v := 99) dX12_line_167 (by decide) ?_
      refine ck_callV (c_X12_numeral hq) rfl cal_X12_numeral rfl ml_X12_232 vir_X12_numeral rfl rfl (by decide) (Nat.le_of_ble_eq_true rfl) (Nat.le_of_ble_eq_true rfl) (by decide) (by decide) dX12_line_169 ?_
      rintro _ _ h22 ⟨r23, rfl, rfl, hq⟩
      obtain ⟨b24, hq⟩ := hq
      refine ck_iast rfl rfl b24 dX12_line_172 ?_
      refine ck_nmH (fun h25 eh25 => ?_)
      have hq := hq h25 eh25
      refine ck_aload_n 1 dX12_line_173 rfl rfl ?_
      refine ck_getR clX12 6 rfl rfl (by decide) fl_X12_22 dX12_line_174 ?_
      refine ck_iload_n 0 dX12_line_177 rfl rfl ?_
      refine ck_aload_n 1 dX12_line_178 rfl rfl ?_
      refine ck_iconst (v := 0) dX12_line_179 (by decide) ?_
      refine ck_bipush (v := 9) dX12_line_180 (by decide) ?_
      refine ck_callV (c_X12_numeral hq) rfl cal_X12_numeral rfl ml_X12_232 vir_X12_numeral rfl rfl (by decide) (Nat.le_of_ble_eq_true rfl) (Nat.le_of_ble_eq_true rfl) (by decide) (by decide) dX12_line_182 ?_
      rintro _ _ h26 ⟨r27, rfl, rfl, hq⟩
      obtain ⟨b28, hq⟩ := hq
      refine ck_iast rfl rfl b28 dX12_line_185 ?_
      refine ck_nmH (fun h29 eh29 => ?_)
      have hq := hq h29 eh29
      refine ck_aload_n 1 dX12_line_186 rfl rfl ?_
      refine ck_iconst (v := 0) dX12_line_187 (by decide) ?_
      refine ck_aload_n 1 dX12_line_188 rfl rfl ?_
      refine ck_iconst (v := 0) dX12_line_189 (by decide) ?_
      refine ck_callV (c_X12_fresher hq) rfl cal_X12_fresher rfl ml_X12_218 vir_X12_fresher rfl rfl (by decide) (Nat.le_of_ble_eq_true rfl) (Nat.le_of_ble_eq_true rfl) (by decide) (by decide) dX12_line_190 ?_
      rintro _ _ h30 ⟨r31, rfl, rfl, hq⟩
      refine ck_iconst (v := 1) dX12_line_193 (by decide) ?_
      refine ck_iadd dX12_line_194 ?_
      refine ck_callV (c_X12_reads hq) rfl cal_X12_reads rfl ml_X12_236 vir_X12_reads rfl rfl (by decide) (Nat.le_of_ble_eq_true rfl) (Nat.le_of_ble_eq_true rfl) (by decide) (by decide) dX12_line_195 ?_
      rintro _ _ h32 ⟨rfl, rfl, hq⟩
      refine ck_goto (tgt := 438) dX12_line_198 (by decide) ?_
      refine ck_loc [1] rfl ?_
      exact cp_X12_line_438  _ hq
    have hq := hq.2 c12
    by_cases c40 : x1 = 1
    · have hq := hq.1 c40
      refine ck_tabIn (tgt := 201) dX12_line_95 (by rw [c40]; decide) (by rw [c40]; decide) (by rw [c40]; rfl) (by decide) ?_
      refine ck_bipush (v := 6) dX12_line_201 (by decide) ?_
      refine ck_aload_n 0 dX12_line_203 rfl rfl ?_
      refine ck_iconst (v := 1) dX12_line_204 (by decide) ?_
      refine ck_callV (c_X12_fresher hq) rfl cal_X12_fresher rfl ml_X12_218 vir_X12_fresher rfl rfl (by decide) (Nat.le_of_ble_eq_true rfl) (Nat.le_of_ble_eq_true rfl) (by decide) (by decide) dX12_line_205 ?_
      rintro _ _ h41 ⟨r42, rfl, rfl, hq⟩
      refine ck_iadd dX12_line_208 ?_
      refine ck_nmI (fun v43 ev43 => ?_)
      have hq := hq v43 ev43
      refine ck_istore_n (lv' := [(3, .int v43), (0, .ref 0), (1, .int x1)]) dX12_line_209 rfl (by decide) rfl ?_
      refine ck_aload_n 1 dX12_line_210 rfl rfl ?_
      refine ck_getR clX12 7 rfl rfl (by decide) fl_X12_25 dX12_line_211 ?_
      refine ck_iload_n 0 dX12_line_214 rfl rfl ?_
      refine ck_aload_n 1 dX12_line_215 rfl rfl ?_
      refine ck_aload_n 1 dX12_line_216 rfl rfl ?_
      refine ck_getR clX12 7 rfl rfl (by decide) fl_X12_25 dX12_line_217 ?_
      refine ck_bipush (v := 6) dX12_line_220 (by decide) ?_
      refine ck_aload_n 1 dX12_line_222 rfl rfl ?_
      refine ck_iconst (v := 1) dX12_line_223 (by decide) ?_
      refine ck_callV (c_X12_fresher hq) rfl cal_X12_fresher rfl ml_X12_218 vir_X12_fresher rfl rfl (by decide) (Nat.le_of_ble_eq_true rfl) (Nat.le_of_ble_eq_true rfl) (by decide) (by decide) dX12_line_224 ?_
      rintro _ _ h44 ⟨r45, rfl, rfl, hq⟩
      refine ck_callV (c_X12_fresh (by simp) hq) rfl cal_X12_fresh rfl ml_X12_228 vir_X12_fresh rfl rfl (by decide) (Nat.le_of_ble_eq_true rfl) (Nat.le_of_ble_eq_true rfl) (by decide) (by decide) dX12_line_227 ?_
      rintro _ _ h46 ⟨r47, rfl, rfl, hq⟩
      obtain ⟨b48, hq⟩ := hq
      refine ck_iast rfl rfl b48 dX12_line_230 ?_
      refine ck_nmH (fun h49 eh49 => ?_)
      have hq := hq h49 eh49
      refine ck_aload_n 1 dX12_line_231 rfl rfl ?_
      refine ck_getR clX12 8 rfl rfl (by decide) fl_X12_28 dX12_line_232 ?_
      refine ck_iload_n 0 dX12_line_235 rfl rfl ?_
      refine ck_aload_n 1 dX12_line_236 rfl rfl ?_
      refine ck_iconst (v := 0) dX12_line_237 (by decide) ?_
      refine ck_bipush (v := 99) dX12_line_238 (by decide) ?_
      refine ck_callV (c_X12_numeral hq) rfl cal_X12_numeral rfl ml_X12_232 vir_X12_numeral rfl rfl (by decide) (Nat.le_of_ble_eq_true rfl) (Nat.le_of_ble_eq_true rfl) (by decide) (by decide) dX12_line_240 ?_
      rintro _ _ h50 ⟨r51, rfl, rfl, hq⟩
      obtain ⟨b52, hq⟩ := hq
      refine ck_iast rfl rfl b52 dX12_line_243 ?_
      refine ck_nmH (fun h53 eh53 => ?_)
      have hq := hq h53 eh53
      refine ck_aload_n 1 dX12_line_244 rfl rfl ?_
      refine ck_getR clX12 9 rfl rfl (by decide) fl_X12_31 dX12_line_245 ?_
      refine ck_iload_n 0 dX12_line_248 rfl rfl ?_
      refine ck_aload_n 1 dX12_line_249 rfl rfl ?_
      refine ck_iconst (v := 0) dX12_line_250 (by decide) ?_
      refine ck_bipush (v := 99) dX12_line_251 (by decide) ?_
      refine ck_callV (c_X12_numeral hq) rfl cal_X12_numeral rfl ml_X12_232 vir_X12_numeral rfl rfl (by decide) (Nat.le_of_ble_eq_true rfl) (Nat.le_of_ble_eq_true rfl) (by decide) (by decide) dX12_line_253 ?_
      rintro _ _ h54 ⟨r55, rfl, rfl, hq⟩
      obtain ⟨b56, hq⟩ := hq
      refine ck_iast rfl rfl b56 dX12_line_256 ?_
      refine ck_nmH (fun h57 eh57 => ?_)
      have hq := hq h57 eh57
      refine ck_aload_n 1 dX12_line_257 rfl rfl ?_
      refine ck_getR clX12 10 rfl rfl (by decide) fl_X12_34 dX12_line_258 ?_
      refine ck_iload_n 0 dX12_line_261 rfl rfl ?_
      refine ck_aload_n 1 dX12_line_262 rfl rfl ?_
      refine ck_iconst (v := 0) dX12_line_263 (by decide) ?_
      refine ck_bipush (v := 9) dX12_line_264 (by decide) ?_
      refine ck_callV (c_X12_numeral hq) rfl cal_X12_numeral rfl ml_X12_232 vir_X12_numeral rfl rfl (by decide) (Nat.le_of_ble_eq_true rfl) (Nat.le_of_ble_eq_true rfl) (by decide) (by decide) dX12_line_266 ?_
      rintro _ _ h58 ⟨r59, rfl, rfl, hq⟩
      obtain ⟨b60, hq⟩ := hq
      refine ck_iast rfl rfl b60 dX12_line_269 ?_
      refine ck_nmH (fun h61 eh61 => ?_)
      have hq := hq h61 eh61
      refine ck_aload_n 1 dX12_line_270 rfl rfl ?_
      refine ck_iconst (v := 1) dX12_line_271 (by decide) ?_
      refine ck_aload_n 1 dX12_line_272 rfl rfl ?_
      refine ck_iconst (v := 1) dX12_line_273 (by decide) ?_
      refine ck_callV (c_X12_fresher hq) rfl cal_X12_fresher rfl ml_X12_218 vir_X12_fresher rfl rfl (by decide) (Nat.le_of_ble_eq_true rfl) (Nat.le_of_ble_eq_true rfl) (by decide) (by decide) dX12_line_274 ?_
      rintro _ _ h62 ⟨r63, rfl, rfl, hq⟩
      refine ck_iconst (v := 1) dX12_line_277 (by decide) ?_
      refine ck_iadd dX12_line_278 ?_
      refine ck_callV (c_X12_reads hq) rfl cal_X12_reads rfl ml_X12_236 vir_X12_reads rfl rfl (by decide) (Nat.le_of_ble_eq_true rfl) (Nat.le_of_ble_eq_true rfl) (by decide) (by decide) dX12_line_279 ?_
      rintro _ _ h64 ⟨rfl, rfl, hq⟩
      refine ck_goto (tgt := 438) dX12_line_282 (by decide) ?_
      refine ck_loc [1] rfl ?_
      exact cp_X12_line_438  _ hq
    have hq := hq.2 c40
    by_cases c65 : x1 = 2
    · have hq := hq.1 c65
      refine ck_tabIn (tgt := 285) dX12_line_95 (by rw [c65]; decide) (by rw [c65]; decide) (by rw [c65]; rfl) (by decide) ?_
      refine ck_bipush (v := 10) dX12_line_285 (by decide) ?_
      refine ck_aload_n 0 dX12_line_287 rfl rfl ?_
      refine ck_iconst (v := 2) dX12_line_288 (by decide) ?_
      refine ck_callV (c_X12_fresher hq) rfl cal_X12_fresher rfl ml_X12_218 vir_X12_fresher rfl rfl (by decide) (Nat.le_of_ble_eq_true rfl) (Nat.le_of_ble_eq_true rfl) (by decide) (by decide) dX12_line_289 ?_
      rintro _ _ h66 ⟨r67, rfl, rfl, hq⟩
      refine ck_iadd dX12_line_292 ?_
      refine ck_nmI (fun v68 ev68 => ?_)
      have hq := hq v68 ev68
      refine ck_istore (lv' := [(4, .int v68), (0, .ref 0), (1, .int x1)]) dX12_line_293 (by decide) rfl ?_
      refine ck_aload_n 1 dX12_line_295 rfl rfl ?_
      refine ck_getR clX12 11 rfl rfl (by decide) fl_X12_37 dX12_line_296 ?_
      refine ck_iload 0 dX12_line_299 rfl ?_
      refine ck_aload_n 1 dX12_line_301 rfl rfl ?_
      refine ck_aload_n 1 dX12_line_302 rfl rfl ?_
      refine ck_getR clX12 11 rfl rfl (by decide) fl_X12_37 dX12_line_303 ?_
      refine ck_bipush (v := 10) dX12_line_306 (by decide) ?_
      refine ck_aload_n 1 dX12_line_308 rfl rfl ?_
      refine ck_iconst (v := 2) dX12_line_309 (by decide) ?_
      refine ck_callV (c_X12_fresher hq) rfl cal_X12_fresher rfl ml_X12_218 vir_X12_fresher rfl rfl (by decide) (Nat.le_of_ble_eq_true rfl) (Nat.le_of_ble_eq_true rfl) (by decide) (by decide) dX12_line_310 ?_
      rintro _ _ h69 ⟨r70, rfl, rfl, hq⟩
      refine ck_callV (c_X12_fresh (by simp) hq) rfl cal_X12_fresh rfl ml_X12_228 vir_X12_fresh rfl rfl (by decide) (Nat.le_of_ble_eq_true rfl) (Nat.le_of_ble_eq_true rfl) (by decide) (by decide) dX12_line_313 ?_
      rintro _ _ h71 ⟨r72, rfl, rfl, hq⟩
      obtain ⟨b73, hq⟩ := hq
      refine ck_iast rfl rfl b73 dX12_line_316 ?_
      refine ck_nmH (fun h74 eh74 => ?_)
      have hq := hq h74 eh74
      refine ck_aload_n 1 dX12_line_317 rfl rfl ?_
      refine ck_getR clX12 12 rfl rfl (by decide) fl_X12_40 dX12_line_318 ?_
      refine ck_iload 0 dX12_line_321 rfl ?_
      refine ck_aload_n 1 dX12_line_323 rfl rfl ?_
      refine ck_aload_n 1 dX12_line_324 rfl rfl ?_
      refine ck_getR clX12 4 rfl rfl (by decide) fl_X12_16 dX12_line_325 ?_
      refine ck_iconst (v := 4) dX12_line_328 (by decide) ?_
      refine ck_aload_n 1 dX12_line_329 rfl rfl ?_
      refine ck_iconst (v := 0) dX12_line_330 (by decide) ?_
      refine ck_callV (c_X12_fresher hq) rfl cal_X12_fresher rfl ml_X12_218 vir_X12_fresher rfl rfl (by decide) (Nat.le_of_ble_eq_true rfl) (Nat.le_of_ble_eq_true rfl) (by decide) (by decide) dX12_line_331 ?_
      rintro _ _ h75 ⟨r76, rfl, rfl, hq⟩
      refine ck_callV (c_X12_toldAhead (by simp) hq) rfl cal_X12_toldAhead rfl ml_X12_240 vir_X12_toldAhead rfl rfl (by decide) (Nat.le_of_ble_eq_true rfl) (Nat.le_of_ble_eq_true rfl) (by decide) (by decide) dX12_line_334 ?_
      rintro _ _ h77 ⟨r78, rfl, rfl, hq⟩
      obtain ⟨b79, hq⟩ := hq
      refine ck_iast rfl rfl b79 dX12_line_337 ?_
      refine ck_nmH (fun h80 eh80 => ?_)
      have hq := hq h80 eh80
      refine ck_aload_n 1 dX12_line_338 rfl rfl ?_
      refine ck_getR clX12 13 rfl rfl (by decide) fl_X12_43 dX12_line_339 ?_
      refine ck_iload 0 dX12_line_342 rfl ?_
      refine ck_aload_n 1 dX12_line_344 rfl rfl ?_
      refine ck_aload_n 1 dX12_line_345 rfl rfl ?_
      refine ck_getR clX12 7 rfl rfl (by decide) fl_X12_25 dX12_line_346 ?_
      refine ck_bipush (v := 6) dX12_line_349 (by decide) ?_
      refine ck_aload_n 1 dX12_line_351 rfl rfl ?_
      refine ck_iconst (v := 1) dX12_line_352 (by decide) ?_
      refine ck_callV (c_X12_fresher hq) rfl cal_X12_fresher rfl ml_X12_218 vir_X12_fresher rfl rfl (by decide) (Nat.le_of_ble_eq_true rfl) (Nat.le_of_ble_eq_true rfl) (by decide) (by decide) dX12_line_353 ?_
      rintro _ _ h81 ⟨r82, rfl, rfl, hq⟩
      refine ck_callV (c_X12_toldAhead (by simp) hq) rfl cal_X12_toldAhead rfl ml_X12_240 vir_X12_toldAhead rfl rfl (by decide) (Nat.le_of_ble_eq_true rfl) (Nat.le_of_ble_eq_true rfl) (by decide) (by decide) dX12_line_356 ?_
      rintro _ _ h83 ⟨r84, rfl, rfl, hq⟩
      obtain ⟨b85, hq⟩ := hq
      refine ck_iast rfl rfl b85 dX12_line_359 ?_
      refine ck_nmH (fun h86 eh86 => ?_)
      have hq := hq h86 eh86
      refine ck_aload_n 1 dX12_line_360 rfl rfl ?_
      refine ck_getR clX12 14 rfl rfl (by decide) fl_X12_46 dX12_line_361 ?_
      refine ck_iload 0 dX12_line_364 rfl ?_
      refine ck_aload_n 1 dX12_line_366 rfl rfl ?_
      refine ck_iconst (v := 0) dX12_line_367 (by decide) ?_
      refine ck_bipush (v := 99) dX12_line_368 (by decide) ?_
      refine ck_callV (c_X12_numeral hq) rfl cal_X12_numeral rfl ml_X12_232 vir_X12_numeral rfl rfl (by decide) (Nat.le_of_ble_eq_true rfl) (Nat.le_of_ble_eq_true rfl) (by decide) (by decide) dX12_line_370 ?_
      rintro _ _ h87 ⟨r88, rfl, rfl, hq⟩
      obtain ⟨b89, hq⟩ := hq
      refine ck_iast rfl rfl b89 dX12_line_373 ?_
      refine ck_nmH (fun h90 eh90 => ?_)
      have hq := hq h90 eh90
      refine ck_aload_n 1 dX12_line_374 rfl rfl ?_
      refine ck_iconst (v := 2) dX12_line_375 (by decide) ?_
      refine ck_aload_n 1 dX12_line_376 rfl rfl ?_
      refine ck_iconst (v := 2) dX12_line_377 (by decide) ?_
      refine ck_callV (c_X12_fresher hq) rfl cal_X12_fresher rfl ml_X12_218 vir_X12_fresher rfl rfl (by decide) (Nat.le_of_ble_eq_true rfl) (Nat.le_of_ble_eq_true rfl) (by decide) (by decide) dX12_line_378 ?_
      rintro _ _ h91 ⟨r92, rfl, rfl, hq⟩
      refine ck_iconst (v := 1) dX12_line_381 (by decide) ?_
      refine ck_iadd dX12_line_382 ?_
      refine ck_callV (c_X12_reads hq) rfl cal_X12_reads rfl ml_X12_236 vir_X12_reads rfl rfl (by decide) (Nat.le_of_ble_eq_true rfl) (Nat.le_of_ble_eq_true rfl) (by decide) (by decide) dX12_line_383 ?_
      rintro _ _ h93 ⟨rfl, rfl, hq⟩
      refine ck_goto (tgt := 438) dX12_line_386 (by decide) ?_
      refine ck_loc [1] rfl ?_
      exact cp_X12_line_438  _ hq
    have hq := hq.2 c65
    by_cases c94 : x1 = 3
    · have hq := hq.1 c94
      refine ck_tabIn (tgt := 389) dX12_line_95 (by rw [c94]; decide) (by rw [c94]; decide) (by rw [c94]; rfl) (by decide) ?_
      refine ck_aload_n 0 dX12_line_389 rfl rfl ?_
      refine ck_iconst (v := 3) dX12_line_390 (by decide) ?_
      refine ck_aload_n 0 dX12_line_391 rfl rfl ?_
      refine ck_iconst (v := 1) dX12_line_392 (by decide) ?_
      refine ck_bipush (v := 99) dX12_line_393 (by decide) ?_
      refine ck_callV (c_X12_numeral hq) rfl cal_X12_numeral rfl ml_X12_232 vir_X12_numeral rfl rfl (by decide) (Nat.le_of_ble_eq_true rfl) (Nat.le_of_ble_eq_true rfl) (by decide) (by decide) dX12_line_395 ?_
      rintro _ _ h95 ⟨r96, rfl, rfl, hq⟩
      refine ck_callV (c_X12_reads hq) rfl cal_X12_reads rfl ml_X12_236 vir_X12_reads rfl rfl (by decide) (Nat.le_of_ble_eq_true rfl) (Nat.le_of_ble_eq_true rfl) (by decide) (by decide) dX12_line_398 ?_
      rintro _ _ h97 ⟨rfl, rfl, hq⟩
      refine ck_goto (tgt := 438) dX12_line_401 (by decide) ?_
      refine ck_loc [0] rfl ?_
      exact cp_X12_line_438  _ hq
    have hq := hq.2 c94
    by_cases c98 : x1 = 4
    · have hq := hq.1 c98
      refine ck_tabIn (tgt := 404) dX12_line_95 (by rw [c98]; decide) (by rw [c98]; decide) (by rw [c98]; rfl) (by decide) ?_
      refine ck_aload_n 0 dX12_line_404 rfl rfl ?_
      refine ck_iconst (v := 4) dX12_line_405 (by decide) ?_
      refine ck_aload_n 0 dX12_line_406 rfl rfl ?_
      refine ck_iconst (v := 0) dX12_line_407 (by decide) ?_
      refine ck_bipush (v := 30) dX12_line_408 (by decide) ?_
      refine ck_callV (c_X12_numeral hq) rfl cal_X12_numeral rfl ml_X12_232 vir_X12_numeral rfl rfl (by decide) (Nat.le_of_ble_eq_true rfl) (Nat.le_of_ble_eq_true rfl) (by decide) (by decide) dX12_line_410 ?_
      rintro _ _ h99 ⟨r100, rfl, rfl, hq⟩
      refine ck_callV (c_X12_reads hq) rfl cal_X12_reads rfl ml_X12_236 vir_X12_reads rfl rfl (by decide) (Nat.le_of_ble_eq_true rfl) (Nat.le_of_ble_eq_true rfl) (by decide) (by decide) dX12_line_413 ?_
      rintro _ _ h101 ⟨rfl, rfl, hq⟩
      refine ck_goto (tgt := 438) dX12_line_416 (by decide) ?_
      refine ck_loc [0] rfl ?_
      exact cp_X12_line_438  _ hq
    have hq := hq.2 c98
    by_cases c102 : x1 = 5
    · have hq := hq.1 c102
      refine ck_tabIn (tgt := 419) dX12_line_95 (by rw [c102]; decide) (by rw [c102]; decide) (by rw [c102]; rfl) (by decide) ?_
      refine ck_aload_n 0 dX12_line_419 rfl rfl ?_
      refine ck_iconst (v := 5) dX12_line_420 (by decide) ?_
      refine ck_aload_n 0 dX12_line_421 rfl rfl ?_
      refine ck_iconst (v := 0) dX12_line_422 (by decide) ?_
      refine ck_ldc con_X12_183 dX12_line_423 ?_
      refine ck_callV (c_X12_numeral hq) rfl cal_X12_numeral rfl ml_X12_232 vir_X12_numeral rfl rfl (by decide) (Nat.le_of_ble_eq_true rfl) (Nat.le_of_ble_eq_true rfl) (by decide) (by decide) dX12_line_425 ?_
      rintro _ _ h103 ⟨r104, rfl, rfl, hq⟩
      refine ck_callV (c_X12_reads hq) rfl cal_X12_reads rfl ml_X12_236 vir_X12_reads rfl rfl (by decide) (Nat.le_of_ble_eq_true rfl) (Nat.le_of_ble_eq_true rfl) (by decide) (by decide) dX12_line_428 ?_
      rintro _ _ h105 ⟨rfl, rfl, hq⟩
      refine ck_goto (tgt := 438) dX12_line_431 (by decide) ?_
      refine ck_loc [0] rfl ?_
      exact cp_X12_line_438  _ hq
    have hq := hq.2 c102
    refine ck_tabOut (tgt := 434) dX12_line_95 (by have z0 := lv_neT c12 (a := 0) (by decide); have z1 := lv_neT c40 (a := 1) (by decide); have z2 := lv_neT c65 (a := 2) (by decide); have z3 := lv_neT c94 (a := 3) (by decide); have z4 := lv_neT c98 (a := 4) (by decide); have z5 := lv_neT c102 (a := 5) (by decide); omega) (by decide) ?_
    refine ck_aload_n 0 dX12_line_434 rfl rfl ?_
    refine ck_callV (c_X12_lawLine hq) rfl cal_X12_lawLine rfl ml_X12_243 vir_X12_lawLine rfl rfl (by decide) (Nat.le_of_ble_eq_true rfl) (Nat.le_of_ble_eq_true rfl) (by decide) (by decide) dX12_line_435 ?_
    rintro _ _ h106 ⟨rfl, rfl, hq⟩
    refine ck_loc [0] rfl ?_
    exact cp_X12_line_438  _ hq
  · have hq := hq.2 c9
    exact ck_vret rfl rfl rfl dX12_line_77 ⟨rfl, rfl, hq⟩
set_option maxHeartbeats 4000000 in
set_option maxRecDepth 100000 in
theorem c_X12_line {gr : Bool} {h : ck_H} {Q : ck_H → Prop} (hq : wp_X12_line h Q) : ck_M yX12_line cX12_line 5 none 926 0 0 gr ck_shM h [.ref 0] (ck_Qv ck_shM Q) := by
  refine ck_entry (lv := [(0, .ref 0)]) false (own := RX12) rfl (fun q => by cases q) (by decide) (Nat.le_of_ble_eq_true rfl) rfl ?_
  refine ck_aload_n 0 dX12_line_0 rfl rfl ?_
  refine ck_getI clX12 24 rfl rfl (by decide) fl_X12_164 dX12_line_1 ?_
  refine ck_if_ne (tgt := 16) dX12_line_4 (by decide) (fun c1 => ?_) (fun c1 => ?_)
  · have hq := hq.1 c1
    exact cp_X12_line_16  _ hq
  · have hq := hq.2 c1
    refine ck_aload_n 0 dX12_line_7 rfl rfl ?_
    refine ck_getI clX12 25 rfl rfl (by decide) fl_X12_174 dX12_line_8 ?_
    refine ck_bipush (v := 6) dX12_line_11 (by decide) ?_
    refine ck_icmp_le (tgt := 22) dX12_line_13 (by decide) (fun c3 => ?_) (fun c3 => ?_)
    · have hq := hq.1 c3
      refine ck_aload_n 0 dX12_line_22 rfl rfl ?_
      refine ck_getI clX12 25 rfl rfl (by decide) fl_X12_174 dX12_line_23 ?_
      refine ck_nmI (fun v4 ev4 => ?_)
      have hq := hq v4 ev4
      refine ck_istore_n (lv' := [(1, .int v4), (0, .ref 0)]) dX12_line_26 rfl (by decide) rfl ?_
      refine ck_aload_n 1 dX12_line_27 rfl rfl ?_
      refine ck_iload_n 0 dX12_line_28 rfl rfl ?_
      refine ck_callV (c_X12_isFull hq) rfl cal_X12_isFull rfl ml_X12_222 vir_X12_isFull rfl rfl (by decide) (Nat.le_of_ble_eq_true rfl) (Nat.le_of_ble_eq_true rfl) (by decide) (by decide) dX12_line_29 ?_
      rintro _ _ h5 ⟨r6, rfl, rfl, hq⟩
      refine ck_if_eq (tgt := 43) dX12_line_32 (by decide) (fun c7 => ?_) (fun c7 => ?_)
      · have hq := hq.1 c7
        refine ck_iload_n 0 dX12_line_43 rfl rfl ?_
        refine ck_iconst (v := 3) dX12_line_44 (by decide) ?_
        refine ck_icmp_lt (tgt := 70) dX12_line_45 (by decide) (fun c8 => ?_) (fun c8 => ?_)
        · have hq := hq.1 c8
          refine ck_loc [1, 0] rfl ?_
          exact cp_X12_line_70 _ _ hq
        · have hq := hq.2 c8
          refine ck_iload_n 0 dX12_line_48 rfl rfl ?_
          refine ck_iconst (v := 5) dX12_line_49 (by decide) ?_
          refine ck_icmp_gt (tgt := 70) dX12_line_50 (by decide) (fun c107 => ?_) (fun c107 => ?_)
          · have hq := hq.1 c107
            refine ck_loc [1, 0] rfl ?_
            exact cp_X12_line_70 _ _ hq
          · have hq := hq.2 c107
            refine ck_aload_n 1 dX12_line_53 rfl rfl ?_
            refine ck_getI clX12 19 rfl rfl (by decide) fl_X12_225 dX12_line_54 ?_
            refine ck_iload_n 0 dX12_line_57 rfl rfl ?_
            refine ck_ishr dX12_line_58 ?_
            refine ck_iconst (v := 1) dX12_line_59 (by decide) ?_
            refine ck_iand dX12_line_60 ?_
            refine ck_iconst (v := 1) dX12_line_61 (by decide) ?_
            refine ck_icmp_ne (tgt := 70) dX12_line_62 (by decide) (fun c108 => ?_) (fun c108 => ?_)
            · have hq := hq.1 c108
              refine ck_loc [1, 0] rfl ?_
              exact cp_X12_line_70 _ _ hq
            · have hq := hq.2 c108
              refine ck_aload_n 1 dX12_line_65 rfl rfl ?_
              refine ck_iconst (v := 3) dX12_line_66 (by decide) ?_
              refine ck_callV (c_X12_wrong hq) rfl cal_X12_wrong rfl ml_X12_208 vir_X12_wrong rfl rfl (by decide) (Nat.le_of_ble_eq_true rfl) (Nat.le_of_ble_eq_true rfl) (by decide) (by decide) dX12_line_67 ?_
              rintro _ _ h109 ⟨rfl, rfl, hq⟩
              refine ck_loc [1, 0] rfl ?_
              exact cp_X12_line_70 _ _ hq
      · have hq := hq.2 c7
        refine ck_aload_n 1 dX12_line_35 rfl rfl ?_
        refine ck_iconst (v := 2) dX12_line_36 (by decide) ?_
        refine ck_callV (c_X12_wrong hq) rfl cal_X12_wrong rfl ml_X12_208 vir_X12_wrong rfl rfl (by decide) (Nat.le_of_ble_eq_true rfl) (Nat.le_of_ble_eq_true rfl) (by decide) (by decide) dX12_line_37 ?_
        rintro _ _ h110 ⟨rfl, rfl, hq⟩
        refine ck_goto (tgt := 70) dX12_line_40 (by decide) ?_
        refine ck_loc [1, 0] rfl ?_
        exact cp_X12_line_70 _ _ hq
    · have hq := hq.2 c3
      exact cp_X12_line_16  _ hq
def wp_X12_half_7 (Q : ck_H → Prop) (o0 : Nat) : Nat → Int32 → Int32 → ck_H → Prop
  | 0 => fun _ _ _ => False
  | n + 1 => fun x1 x2 h => ((x1 ≤ x2 → Q h) ∧ (¬ x1 ≤ x2 → (vp_in (x1 + x2) (ck_ln ck_shM o0) ∧ (vp_in x2 (ck_ln ck_shM o0) ∧ (∀ h5, h5 = ck_sI h o0 x2.toNatClampNeg (h.1 o0 (x1 + x2).toNatClampNeg) → (∀ v6, v6 = x2 + 1 → (wp_X12_half_7 Q o0 n) x1 v6 h5))))))
def wp_X12_half (o0 : Nat) (h : ck_H) (Q : ck_H → Prop) : Prop := (∀ v1, v1 = ((nI (ck_ln ck_shM o0)) / (2 : Int32)) → wp_X12_half_7 Q o0 lpN v1 (0 : Int32) h)
set_option maxHeartbeats 4000000 in
set_option maxRecDepth 100000 in
theorem cp_X12_half_7 {gr : Bool} {Q : ck_H → Prop} {o0 : Nat} (hc : (o0 = 2) ∨ (o0 = 3) ∨ (o0 = 4) ∨ (o0 = 5) ∨ (o0 = 6) ∨ (o0 = 7) ∨ (o0 = 8) ∨ (o0 = 9) ∨ (o0 = 10) ∨ (o0 = 11) ∨ (o0 = 12) ∨ (o0 = 13) ∨ (o0 = 14) ∨ (o0 = 15) ∨ (o0 = 16) ∨ (o0 = 17)) : ∀ (n : Nat) (x1 : Int32) (x2 : Int32) (h : ck_H), wp_X12_half_7 Q o0 n x1 x2 h → ck_W cX12_half 3 RX12 none 2 0 0 false gr (ck_Qv ck_shM Q) ck_shM h 0 0 7 [(0, .ref o0), (1, .int x1), (2, .int x2)] [] := by
  rcases hc with rfl | rfl | rfl | rfl | rfl | rfl | rfl | rfl | rfl | rfl | rfl | rfl | rfl | rfl | rfl | rfl
  · intro n
    induction n with
    | zero => intro x1 x2 h hq; exact hq.elim
    | succ n hKc =>
      intro x1 x2 h hq
      refine ck_iload_n 2 dX12_half_7 rfl rfl ?_
      refine ck_iload_n 1 dX12_half_8 rfl rfl ?_
      refine ck_icmp_ge (tgt := 26) dX12_half_9 (by decide) (fun c7 => ?_) (fun c7 => ?_)
      · have hq := hq.1 c7
        exact ck_vret rfl rfl rfl dX12_half_26 ⟨rfl, rfl, hq⟩
      · have hq := hq.2 c7
        refine ck_aload_n 0 dX12_half_12 rfl rfl ?_
        refine ck_iload_n 2 dX12_half_13 rfl rfl ?_
        refine ck_aload_n 0 dX12_half_14 rfl rfl ?_
        refine ck_iload_n 1 dX12_half_15 rfl rfl ?_
        refine ck_iload_n 2 dX12_half_16 rfl rfl ?_
        refine ck_iadd dX12_half_17 ?_
        obtain ⟨b8, hq⟩ := hq
        refine ck_iald rfl rfl b8 dX12_half_18 ?_
        obtain ⟨b9, hq⟩ := hq
        refine ck_iast rfl rfl b9 dX12_half_19 ?_
        refine ck_nmH (fun h10 eh10 => ?_)
        have hq := hq h10 eh10
        obtain ⟨v11, ev11⟩ : ∃ z : Int32, z = x2 + 1 := ⟨_, rfl⟩
        have hq := hq v11 ev11
        refine ck_iinc (v := v11) (lv' := [(2, .int v11), (0, .ref 2), (1, .int x1)]) 2 dX12_half_20 rfl (by rw [ev11]; rfl) (by decide) rfl ?_
        refine ck_goto (tgt := 7) dX12_half_23 (by decide) ?_
        refine ck_loc [1, 2, 0] rfl ?_
        exact hKc _ _ _ hq
  · intro n
    induction n with
    | zero => intro x1 x2 h hq; exact hq.elim
    | succ n hKc =>
      intro x1 x2 h hq
      refine ck_iload_n 2 dX12_half_7 rfl rfl ?_
      refine ck_iload_n 1 dX12_half_8 rfl rfl ?_
      refine ck_icmp_ge (tgt := 26) dX12_half_9 (by decide) (fun c12 => ?_) (fun c12 => ?_)
      · have hq := hq.1 c12
        exact ck_vret rfl rfl rfl dX12_half_26 ⟨rfl, rfl, hq⟩
      · have hq := hq.2 c12
        refine ck_aload_n 0 dX12_half_12 rfl rfl ?_
        refine ck_iload_n 2 dX12_half_13 rfl rfl ?_
        refine ck_aload_n 0 dX12_half_14 rfl rfl ?_
        refine ck_iload_n 1 dX12_half_15 rfl rfl ?_
        refine ck_iload_n 2 dX12_half_16 rfl rfl ?_
        refine ck_iadd dX12_half_17 ?_
        obtain ⟨b13, hq⟩ := hq
        refine ck_iald rfl rfl b13 dX12_half_18 ?_
        obtain ⟨b14, hq⟩ := hq
        refine ck_iast rfl rfl b14 dX12_half_19 ?_
        refine ck_nmH (fun h15 eh15 => ?_)
        have hq := hq h15 eh15
        obtain ⟨v16, ev16⟩ : ∃ z : Int32, z = x2 + 1 := ⟨_, rfl⟩
        have hq := hq v16 ev16
        refine ck_iinc (v := v16) (lv' := [(2, .int v16), (0, .ref 3), (1, .int x1)]) 2 dX12_half_20 rfl (by rw [ev16]; rfl) (by decide) rfl ?_
        refine ck_goto (tgt := 7) dX12_half_23 (by decide) ?_
        refine ck_loc [1, 2, 0] rfl ?_
        exact hKc _ _ _ hq
  · intro n
    induction n with
    | zero => intro x1 x2 h hq; exact hq.elim
    | succ n hKc =>
      intro x1 x2 h hq
      refine ck_iload_n 2 dX12_half_7 rfl rfl ?_
      refine ck_iload_n 1 dX12_half_8 rfl rfl ?_
      refine ck_icmp_ge (tgt := 26) dX12_half_9 (by decide) (fun c17 => ?_) (fun c17 => ?_)
      · have hq := hq.1 c17
        exact ck_vret rfl rfl rfl dX12_half_26 ⟨rfl, rfl, hq⟩
      · have hq := hq.2 c17
        refine ck_aload_n 0 dX12_half_12 rfl rfl ?_
        refine ck_iload_n 2 dX12_half_13 rfl rfl ?_
        refine ck_aload_n 0 dX12_half_14 rfl rfl ?_
        refine ck_iload_n 1 dX12_half_15 rfl rfl ?_
        refine ck_iload_n 2 dX12_half_16 rfl rfl ?_
        refine ck_iadd dX12_half_17 ?_
        obtain ⟨b18, hq⟩ := hq
        refine ck_iald rfl rfl b18 dX12_half_18 ?_
        obtain ⟨b19, hq⟩ := hq
        refine ck_iast rfl rfl b19 dX12_half_19 ?_
        refine ck_nmH (fun h20 eh20 => ?_)
        have hq := hq h20 eh20
        obtain ⟨v21, ev21⟩ : ∃ z : Int32, z = x2 + 1 := ⟨_, rfl⟩
        have hq := hq v21 ev21
        refine ck_iinc (v := v21) (lv' := [(2, .int v21), (0, .ref 4), (1, .int x1)]) 2 dX12_half_20 rfl (by rw [ev21]; rfl) (by decide) rfl ?_
        refine ck_goto (tgt := 7) dX12_half_23 (by decide) ?_
        refine ck_loc [1, 2, 0] rfl ?_
        exact hKc _ _ _ hq
  · intro n
    induction n with
    | zero => intro x1 x2 h hq; exact hq.elim
    | succ n hKc =>
      intro x1 x2 h hq
      refine ck_iload_n 2 dX12_half_7 rfl rfl ?_
      refine ck_iload_n 1 dX12_half_8 rfl rfl ?_
      refine ck_icmp_ge (tgt := 26) dX12_half_9 (by decide) (fun c22 => ?_) (fun c22 => ?_)
      · have hq := hq.1 c22
        exact ck_vret rfl rfl rfl dX12_half_26 ⟨rfl, rfl, hq⟩
      · have hq := hq.2 c22
        refine ck_aload_n 0 dX12_half_12 rfl rfl ?_
        refine ck_iload_n 2 dX12_half_13 rfl rfl ?_
        refine ck_aload_n 0 dX12_half_14 rfl rfl ?_
        refine ck_iload_n 1 dX12_half_15 rfl rfl ?_
        refine ck_iload_n 2 dX12_half_16 rfl rfl ?_
        refine ck_iadd dX12_half_17 ?_
        obtain ⟨b23, hq⟩ := hq
        refine ck_iald rfl rfl b23 dX12_half_18 ?_
        obtain ⟨b24, hq⟩ := hq
        refine ck_iast rfl rfl b24 dX12_half_19 ?_
        refine ck_nmH (fun h25 eh25 => ?_)
        have hq := hq h25 eh25
        obtain ⟨v26, ev26⟩ : ∃ z : Int32, z = x2 + 1 := ⟨_, rfl⟩
        have hq := hq v26 ev26
        refine ck_iinc (v := v26) (lv' := [(2, .int v26), (0, .ref 5), (1, .int x1)]) 2 dX12_half_20 rfl (by rw [ev26]; rfl) (by decide) rfl ?_
        refine ck_goto (tgt := 7) dX12_half_23 (by decide) ?_
        refine ck_loc [1, 2, 0] rfl ?_
        exact hKc _ _ _ hq
  · intro n
    induction n with
    | zero => intro x1 x2 h hq; exact hq.elim
    | succ n hKc =>
      intro x1 x2 h hq
      refine ck_iload_n 2 dX12_half_7 rfl rfl ?_
      refine ck_iload_n 1 dX12_half_8 rfl rfl ?_
      refine ck_icmp_ge (tgt := 26) dX12_half_9 (by decide) (fun c27 => ?_) (fun c27 => ?_)
      · have hq := hq.1 c27
        exact ck_vret rfl rfl rfl dX12_half_26 ⟨rfl, rfl, hq⟩
      · have hq := hq.2 c27
        refine ck_aload_n 0 dX12_half_12 rfl rfl ?_
        refine ck_iload_n 2 dX12_half_13 rfl rfl ?_
        refine ck_aload_n 0 dX12_half_14 rfl rfl ?_
        refine ck_iload_n 1 dX12_half_15 rfl rfl ?_
        refine ck_iload_n 2 dX12_half_16 rfl rfl ?_
        refine ck_iadd dX12_half_17 ?_
        obtain ⟨b28, hq⟩ := hq
        refine ck_iald rfl rfl b28 dX12_half_18 ?_
        obtain ⟨b29, hq⟩ := hq
        refine ck_iast rfl rfl b29 dX12_half_19 ?_
        refine ck_nmH (fun h30 eh30 => ?_)
        have hq := hq h30 eh30
        obtain ⟨v31, ev31⟩ : ∃ z : Int32, z = x2 + 1 := ⟨_, rfl⟩
        have hq := hq v31 ev31
        refine ck_iinc (v := v31) (lv' := [(2, .int v31), (0, .ref 6), (1, .int x1)]) 2 dX12_half_20 rfl (by rw [ev31]; rfl) (by decide) rfl ?_
        refine ck_goto (tgt := 7) dX12_half_23 (by decide) ?_
        refine ck_loc [1, 2, 0] rfl ?_
        exact hKc _ _ _ hq
  · intro n
    induction n with
    | zero => intro x1 x2 h hq; exact hq.elim
    | succ n hKc =>
      intro x1 x2 h hq
      refine ck_iload_n 2 dX12_half_7 rfl rfl ?_
      refine ck_iload_n 1 dX12_half_8 rfl rfl ?_
      refine ck_icmp_ge (tgt := 26) dX12_half_9 (by decide) (fun c32 => ?_) (fun c32 => ?_)
      · have hq := hq.1 c32
        exact ck_vret rfl rfl rfl dX12_half_26 ⟨rfl, rfl, hq⟩
      · have hq := hq.2 c32
        refine ck_aload_n 0 dX12_half_12 rfl rfl ?_
        refine ck_iload_n 2 dX12_half_13 rfl rfl ?_
        refine ck_aload_n 0 dX12_half_14 rfl rfl ?_
        refine ck_iload_n 1 dX12_half_15 rfl rfl ?_
        refine ck_iload_n 2 dX12_half_16 rfl rfl ?_
        refine ck_iadd dX12_half_17 ?_
        obtain ⟨b33, hq⟩ := hq
        refine ck_iald rfl rfl b33 dX12_half_18 ?_
        obtain ⟨b34, hq⟩ := hq
        refine ck_iast rfl rfl b34 dX12_half_19 ?_
        refine ck_nmH (fun h35 eh35 => ?_)
        have hq := hq h35 eh35
        obtain ⟨v36, ev36⟩ : ∃ z : Int32, z = x2 + 1 := ⟨_, rfl⟩
        have hq := hq v36 ev36
        refine ck_iinc (v := v36) (lv' := [(2, .int v36), (0, .ref 7), (1, .int x1)]) 2 dX12_half_20 rfl (by rw [ev36]; rfl) (by decide) rfl ?_
        refine ck_goto (tgt := 7) dX12_half_23 (by decide) ?_
        refine ck_loc [1, 2, 0] rfl ?_
        exact hKc _ _ _ hq
  · intro n
    induction n with
    | zero => intro x1 x2 h hq; exact hq.elim
    | succ n hKc =>
      intro x1 x2 h hq
      refine ck_iload_n 2 dX12_half_7 rfl rfl ?_
      refine ck_iload_n 1 dX12_half_8 rfl rfl ?_
      refine ck_icmp_ge (tgt := 26) dX12_half_9 (by decide) (fun c37 => ?_) (fun c37 => ?_)
      · have hq := hq.1 c37
        exact ck_vret rfl rfl rfl dX12_half_26 ⟨rfl, rfl, hq⟩
      · have hq := hq.2 c37
        refine ck_aload_n 0 dX12_half_12 rfl rfl ?_
        refine ck_iload_n 2 dX12_half_13 rfl rfl ?_
        refine ck_aload_n 0 dX12_half_14 rfl rfl ?_
        refine ck_iload_n 1 dX12_half_15 rfl rfl ?_
        refine ck_iload_n 2 dX12_half_16 rfl rfl ?_
        refine ck_iadd dX12_half_17 ?_
        obtain ⟨b38, hq⟩ := hq
        refine ck_iald rfl rfl b38 dX12_half_18 ?_
        obtain ⟨b39, hq⟩ := hq
        refine ck_iast rfl rfl b39 dX12_half_19 ?_
        refine ck_nmH (fun h40 eh40 => ?_)
        have hq := hq h40 eh40
        obtain ⟨v41, ev41⟩ : ∃ z : Int32, z = x2 + 1 := ⟨_, rfl⟩
        have hq := hq v41 ev41
        refine ck_iinc (v := v41) (lv' := [(2, .int v41), (0, .ref 8), (1, .int x1)]) 2 dX12_half_20 rfl (by rw [ev41]; rfl) (by decide) rfl ?_
        refine ck_goto (tgt := 7) dX12_half_23 (by decide) ?_
        refine ck_loc [1, 2, 0] rfl ?_
        exact hKc _ _ _ hq
  · intro n
    induction n with
    | zero => intro x1 x2 h hq; exact hq.elim
    | succ n hKc =>
      intro x1 x2 h hq
      refine ck_iload_n 2 dX12_half_7 rfl rfl ?_
      refine ck_iload_n 1 dX12_half_8 rfl rfl ?_
      refine ck_icmp_ge (tgt := 26) dX12_half_9 (by decide) (fun c42 => ?_) (fun c42 => ?_)
      · have hq := hq.1 c42
        exact ck_vret rfl rfl rfl dX12_half_26 ⟨rfl, rfl, hq⟩
      · have hq := hq.2 c42
        refine ck_aload_n 0 dX12_half_12 rfl rfl ?_
        refine ck_iload_n 2 dX12_half_13 rfl rfl ?_
        refine ck_aload_n 0 dX12_half_14 rfl rfl ?_
        refine ck_iload_n 1 dX12_half_15 rfl rfl ?_
        refine ck_iload_n 2 dX12_half_16 rfl rfl ?_
        refine ck_iadd dX12_half_17 ?_
        obtain ⟨b43, hq⟩ := hq
        refine ck_iald rfl rfl b43 dX12_half_18 ?_
        obtain ⟨b44, hq⟩ := hq
        refine ck_iast rfl rfl b44 dX12_half_19 ?_
        refine ck_nmH (fun h45 eh45 => ?_)
        have hq := hq h45 eh45
        obtain ⟨v46, ev46⟩ : ∃ z : Int32, z = x2 + 1 := ⟨_, rfl⟩
        have hq := hq v46 ev46
        refine ck_iinc (v := v46) (lv' := [(2, .int v46), (0, .ref 9), (1, .int x1)]) 2 dX12_half_20 rfl (by rw [ev46]; rfl) (by decide) rfl ?_
        refine ck_goto (tgt := 7) dX12_half_23 (by decide) ?_
        refine ck_loc [1, 2, 0] rfl ?_
        exact hKc _ _ _ hq
  · intro n
    induction n with
    | zero => intro x1 x2 h hq; exact hq.elim
    | succ n hKc =>
      intro x1 x2 h hq
      refine ck_iload_n 2 dX12_half_7 rfl rfl ?_
      refine ck_iload_n 1 dX12_half_8 rfl rfl ?_
      refine ck_icmp_ge (tgt := 26) dX12_half_9 (by decide) (fun c47 => ?_) (fun c47 => ?_)
      · have hq := hq.1 c47
        exact ck_vret rfl rfl rfl dX12_half_26 ⟨rfl, rfl, hq⟩
      · have hq := hq.2 c47
        refine ck_aload_n 0 dX12_half_12 rfl rfl ?_
        refine ck_iload_n 2 dX12_half_13 rfl rfl ?_
        refine ck_aload_n 0 dX12_half_14 rfl rfl ?_
        refine ck_iload_n 1 dX12_half_15 rfl rfl ?_
        refine ck_iload_n 2 dX12_half_16 rfl rfl ?_
        refine ck_iadd dX12_half_17 ?_
        obtain ⟨b48, hq⟩ := hq
        refine ck_iald rfl rfl b48 dX12_half_18 ?_
        obtain ⟨b49, hq⟩ := hq
        refine ck_iast rfl rfl b49 dX12_half_19 ?_
        refine ck_nmH (fun h50 eh50 => ?_)
        have hq := hq h50 eh50
        obtain ⟨v51, ev51⟩ : ∃ z : Int32, z = x2 + 1 := ⟨_, rfl⟩
        have hq := hq v51 ev51
        refine ck_iinc (v := v51) (lv' := [(2, .int v51), (0, .ref 10), (1, .int x1)]) 2 dX12_half_20 rfl (by rw [ev51]; rfl) (by decide) rfl ?_
        refine ck_goto (tgt := 7) dX12_half_23 (by decide) ?_
        refine ck_loc [1, 2, 0] rfl ?_
        exact hKc _ _ _ hq
  · intro n
    induction n with
    | zero => intro x1 x2 h hq; exact hq.elim
    | succ n hKc =>
      intro x1 x2 h hq
      refine ck_iload_n 2 dX12_half_7 rfl rfl ?_
      refine ck_iload_n 1 dX12_half_8 rfl rfl ?_
      refine ck_icmp_ge (tgt := 26) dX12_half_9 (by decide) (fun c52 => ?_) (fun c52 => ?_)
      · have hq := hq.1 c52
        exact ck_vret rfl rfl rfl dX12_half_26 ⟨rfl, rfl, hq⟩
      · have hq := hq.2 c52
        refine ck_aload_n 0 dX12_half_12 rfl rfl ?_
        refine ck_iload_n 2 dX12_half_13 rfl rfl ?_
        refine ck_aload_n 0 dX12_half_14 rfl rfl ?_
        refine ck_iload_n 1 dX12_half_15 rfl rfl ?_
        refine ck_iload_n 2 dX12_half_16 rfl rfl ?_
        refine ck_iadd dX12_half_17 ?_
        obtain ⟨b53, hq⟩ := hq
        refine ck_iald rfl rfl b53 dX12_half_18 ?_
        obtain ⟨b54, hq⟩ := hq
        refine ck_iast rfl rfl b54 dX12_half_19 ?_
        refine ck_nmH (fun h55 eh55 => ?_)
        have hq := hq h55 eh55
        obtain ⟨v56, ev56⟩ : ∃ z : Int32, z = x2 + 1 := ⟨_, rfl⟩
        have hq := hq v56 ev56
        refine ck_iinc (v := v56) (lv' := [(2, .int v56), (0, .ref 11), (1, .int x1)]) 2 dX12_half_20 rfl (by rw [ev56]; rfl) (by decide) rfl ?_
        refine ck_goto (tgt := 7) dX12_half_23 (by decide) ?_
        refine ck_loc [1, 2, 0] rfl ?_
        exact hKc _ _ _ hq
  · intro n
    induction n with
    | zero => intro x1 x2 h hq; exact hq.elim
    | succ n hKc =>
      intro x1 x2 h hq
      refine ck_iload_n 2 dX12_half_7 rfl rfl ?_
      refine ck_iload_n 1 dX12_half_8 rfl rfl ?_
      refine ck_icmp_ge (tgt := 26) dX12_half_9 (by decide) (fun c57 => ?_) (fun c57 => ?_)
      · have hq := hq.1 c57
        exact ck_vret rfl rfl rfl dX12_half_26 ⟨rfl, rfl, hq⟩
      · have hq := hq.2 c57
        refine ck_aload_n 0 dX12_half_12 rfl rfl ?_
        refine ck_iload_n 2 dX12_half_13 rfl rfl ?_
        refine ck_aload_n 0 dX12_half_14 rfl rfl ?_
        refine ck_iload_n 1 dX12_half_15 rfl rfl ?_
        refine ck_iload_n 2 dX12_half_16 rfl rfl ?_
        refine ck_iadd dX12_half_17 ?_
        obtain ⟨b58, hq⟩ := hq
        refine ck_iald rfl rfl b58 dX12_half_18 ?_
        obtain ⟨b59, hq⟩ := hq
        refine ck_iast rfl rfl b59 dX12_half_19 ?_
        refine ck_nmH (fun h60 eh60 => ?_)
        have hq := hq h60 eh60
        obtain ⟨v61, ev61⟩ : ∃ z : Int32, z = x2 + 1 := ⟨_, rfl⟩
        have hq := hq v61 ev61
        refine ck_iinc (v := v61) (lv' := [(2, .int v61), (0, .ref 12), (1, .int x1)]) 2 dX12_half_20 rfl (by rw [ev61]; rfl) (by decide) rfl ?_
        refine ck_goto (tgt := 7) dX12_half_23 (by decide) ?_
        refine ck_loc [1, 2, 0] rfl ?_
        exact hKc _ _ _ hq
  · intro n
    induction n with
    | zero => intro x1 x2 h hq; exact hq.elim
    | succ n hKc =>
      intro x1 x2 h hq
      refine ck_iload_n 2 dX12_half_7 rfl rfl ?_
      refine ck_iload_n 1 dX12_half_8 rfl rfl ?_
      refine ck_icmp_ge (tgt := 26) dX12_half_9 (by decide) (fun c62 => ?_) (fun c62 => ?_)
      · have hq := hq.1 c62
        exact ck_vret rfl rfl rfl dX12_half_26 ⟨rfl, rfl, hq⟩
      · have hq := hq.2 c62
        refine ck_aload_n 0 dX12_half_12 rfl rfl ?_
        refine ck_iload_n 2 dX12_half_13 rfl rfl ?_
        refine ck_aload_n 0 dX12_half_14 rfl rfl ?_
        refine ck_iload_n 1 dX12_half_15 rfl rfl ?_
        refine ck_iload_n 2 dX12_half_16 rfl rfl ?_
        refine ck_iadd dX12_half_17 ?_
        obtain ⟨b63, hq⟩ := hq
        refine ck_iald rfl rfl b63 dX12_half_18 ?_
        obtain ⟨b64, hq⟩ := hq
        refine ck_iast rfl rfl b64 dX12_half_19 ?_
        refine ck_nmH (fun h65 eh65 => ?_)
        have hq := hq h65 eh65
        obtain ⟨v66, ev66⟩ : ∃ z : Int32, z = x2 + 1 := ⟨_, rfl⟩
        have hq := hq v66 ev66
        refine ck_iinc (v := v66) (lv' := [(2, .int v66), (0, .ref 13), (1, .int x1)]) 2 dX12_half_20 rfl (by rw [ev66]; rfl) (by decide) rfl ?_
        refine ck_goto (tgt := 7) dX12_half_23 (by decide) ?_
        refine ck_loc [1, 2, 0] rfl ?_
        exact hKc _ _ _ hq
  · intro n
    induction n with
    | zero => intro x1 x2 h hq; exact hq.elim
    | succ n hKc =>
      intro x1 x2 h hq
      refine ck_iload_n 2 dX12_half_7 rfl rfl ?_
      refine ck_iload_n 1 dX12_half_8 rfl rfl ?_
      refine ck_icmp_ge (tgt := 26) dX12_half_9 (by decide) (fun c67 => ?_) (fun c67 => ?_)
      · have hq := hq.1 c67
        exact ck_vret rfl rfl rfl dX12_half_26 ⟨rfl, rfl, hq⟩
      · have hq := hq.2 c67
        refine ck_aload_n 0 dX12_half_12 rfl rfl ?_
        refine ck_iload_n 2 dX12_half_13 rfl rfl ?_
        refine ck_aload_n 0 dX12_half_14 rfl rfl ?_
        refine ck_iload_n 1 dX12_half_15 rfl rfl ?_
        refine ck_iload_n 2 dX12_half_16 rfl rfl ?_
        refine ck_iadd dX12_half_17 ?_
        obtain ⟨b68, hq⟩ := hq
        refine ck_iald rfl rfl b68 dX12_half_18 ?_
        obtain ⟨b69, hq⟩ := hq
        refine ck_iast rfl rfl b69 dX12_half_19 ?_
        refine ck_nmH (fun h70 eh70 => ?_)
        have hq := hq h70 eh70
        obtain ⟨v71, ev71⟩ : ∃ z : Int32, z = x2 + 1 := ⟨_, rfl⟩
        have hq := hq v71 ev71
        refine ck_iinc (v := v71) (lv' := [(2, .int v71), (0, .ref 14), (1, .int x1)]) 2 dX12_half_20 rfl (by rw [ev71]; rfl) (by decide) rfl ?_
        refine ck_goto (tgt := 7) dX12_half_23 (by decide) ?_
        refine ck_loc [1, 2, 0] rfl ?_
        exact hKc _ _ _ hq
  · intro n
    induction n with
    | zero => intro x1 x2 h hq; exact hq.elim
    | succ n hKc =>
      intro x1 x2 h hq
      refine ck_iload_n 2 dX12_half_7 rfl rfl ?_
      refine ck_iload_n 1 dX12_half_8 rfl rfl ?_
      refine ck_icmp_ge (tgt := 26) dX12_half_9 (by decide) (fun c72 => ?_) (fun c72 => ?_)
      · have hq := hq.1 c72
        exact ck_vret rfl rfl rfl dX12_half_26 ⟨rfl, rfl, hq⟩
      · have hq := hq.2 c72
        refine ck_aload_n 0 dX12_half_12 rfl rfl ?_
        refine ck_iload_n 2 dX12_half_13 rfl rfl ?_
        refine ck_aload_n 0 dX12_half_14 rfl rfl ?_
        refine ck_iload_n 1 dX12_half_15 rfl rfl ?_
        refine ck_iload_n 2 dX12_half_16 rfl rfl ?_
        refine ck_iadd dX12_half_17 ?_
        obtain ⟨b73, hq⟩ := hq
        refine ck_iald rfl rfl b73 dX12_half_18 ?_
        obtain ⟨b74, hq⟩ := hq
        refine ck_iast rfl rfl b74 dX12_half_19 ?_
        refine ck_nmH (fun h75 eh75 => ?_)
        have hq := hq h75 eh75
        obtain ⟨v76, ev76⟩ : ∃ z : Int32, z = x2 + 1 := ⟨_, rfl⟩
        have hq := hq v76 ev76
        refine ck_iinc (v := v76) (lv' := [(2, .int v76), (0, .ref 15), (1, .int x1)]) 2 dX12_half_20 rfl (by rw [ev76]; rfl) (by decide) rfl ?_
        refine ck_goto (tgt := 7) dX12_half_23 (by decide) ?_
        refine ck_loc [1, 2, 0] rfl ?_
        exact hKc _ _ _ hq
  · intro n
    induction n with
    | zero => intro x1 x2 h hq; exact hq.elim
    | succ n hKc =>
      intro x1 x2 h hq
      refine ck_iload_n 2 dX12_half_7 rfl rfl ?_
      refine ck_iload_n 1 dX12_half_8 rfl rfl ?_
      refine ck_icmp_ge (tgt := 26) dX12_half_9 (by decide) (fun c77 => ?_) (fun c77 => ?_)
      · have hq := hq.1 c77
        exact ck_vret rfl rfl rfl dX12_half_26 ⟨rfl, rfl, hq⟩
      · have hq := hq.2 c77
        refine ck_aload_n 0 dX12_half_12 rfl rfl ?_
        refine ck_iload_n 2 dX12_half_13 rfl rfl ?_
        refine ck_aload_n 0 dX12_half_14 rfl rfl ?_
        refine ck_iload_n 1 dX12_half_15 rfl rfl ?_
        refine ck_iload_n 2 dX12_half_16 rfl rfl ?_
        refine ck_iadd dX12_half_17 ?_
        obtain ⟨b78, hq⟩ := hq
        refine ck_iald rfl rfl b78 dX12_half_18 ?_
        obtain ⟨b79, hq⟩ := hq
        refine ck_iast rfl rfl b79 dX12_half_19 ?_
        refine ck_nmH (fun h80 eh80 => ?_)
        have hq := hq h80 eh80
        obtain ⟨v81, ev81⟩ : ∃ z : Int32, z = x2 + 1 := ⟨_, rfl⟩
        have hq := hq v81 ev81
        refine ck_iinc (v := v81) (lv' := [(2, .int v81), (0, .ref 16), (1, .int x1)]) 2 dX12_half_20 rfl (by rw [ev81]; rfl) (by decide) rfl ?_
        refine ck_goto (tgt := 7) dX12_half_23 (by decide) ?_
        refine ck_loc [1, 2, 0] rfl ?_
        exact hKc _ _ _ hq
  · intro n
    induction n with
    | zero => intro x1 x2 h hq; exact hq.elim
    | succ n hKc =>
      intro x1 x2 h hq
      refine ck_iload_n 2 dX12_half_7 rfl rfl ?_
      refine ck_iload_n 1 dX12_half_8 rfl rfl ?_
      refine ck_icmp_ge (tgt := 26) dX12_half_9 (by decide) (fun c82 => ?_) (fun c82 => ?_)
      · have hq := hq.1 c82
        exact ck_vret rfl rfl rfl dX12_half_26 ⟨rfl, rfl, hq⟩
      · have hq := hq.2 c82
        refine ck_aload_n 0 dX12_half_12 rfl rfl ?_
        refine ck_iload_n 2 dX12_half_13 rfl rfl ?_
        refine ck_aload_n 0 dX12_half_14 rfl rfl ?_
        refine ck_iload_n 1 dX12_half_15 rfl rfl ?_
        refine ck_iload_n 2 dX12_half_16 rfl rfl ?_
        refine ck_iadd dX12_half_17 ?_
        obtain ⟨b83, hq⟩ := hq
        refine ck_iald rfl rfl b83 dX12_half_18 ?_
        obtain ⟨b84, hq⟩ := hq
        refine ck_iast rfl rfl b84 dX12_half_19 ?_
        refine ck_nmH (fun h85 eh85 => ?_)
        have hq := hq h85 eh85
        obtain ⟨v86, ev86⟩ : ∃ z : Int32, z = x2 + 1 := ⟨_, rfl⟩
        have hq := hq v86 ev86
        refine ck_iinc (v := v86) (lv' := [(2, .int v86), (0, .ref 17), (1, .int x1)]) 2 dX12_half_20 rfl (by rw [ev86]; rfl) (by decide) rfl ?_
        refine ck_goto (tgt := 7) dX12_half_23 (by decide) ?_
        refine ck_loc [1, 2, 0] rfl ?_
        exact hKc _ _ _ hq
set_option maxHeartbeats 4000000 in
set_option maxRecDepth 100000 in
theorem c_X12_half {gr : Bool} {h : ck_H} {Q : ck_H → Prop} {o0 : Nat} (hc : (o0 = 2) ∨ (o0 = 3) ∨ (o0 = 4) ∨ (o0 = 5) ∨ (o0 = 6) ∨ (o0 = 7) ∨ (o0 = 8) ∨ (o0 = 9) ∨ (o0 = 10) ∨ (o0 = 11) ∨ (o0 = 12) ∨ (o0 = 13) ∨ (o0 = 14) ∨ (o0 = 15) ∨ (o0 = 16) ∨ (o0 = 17)) (hq : wp_X12_half o0 h Q) : ck_M yX12_half cX12_half 3 none 2 0 0 gr ck_shM h [.ref o0] (ck_Qv ck_shM Q) := by
  rcases hc with rfl | rfl | rfl | rfl | rfl | rfl | rfl | rfl | rfl | rfl | rfl | rfl | rfl | rfl | rfl | rfl
  · refine ck_entry (lv := [(0, .ref 2)]) false (own := RX12) rfl (fun q => by cases q) (by decide) (Nat.le_of_ble_eq_true rfl) rfl ?_
    refine ck_aload_n 0 dX12_half_0 rfl rfl ?_
    refine ck_alen0 (v := 14) rfl (by decide) dX12_half_1 ?_
    refine ck_iconst (v := 2) dX12_half_2 (by decide) ?_
    refine ck_idiv dX12_half_3 (by decide) ?_
    refine ck_nmI (fun v87 ev87 => ?_)
    have hq := hq v87 ev87
    refine ck_istore_n (lv' := [(1, .int v87), (0, .ref 2)]) dX12_half_4 rfl (by decide) rfl ?_
    refine ck_iconst (v := 0) dX12_half_5 (by decide) ?_
    refine ck_istore_n (lv' := [(2, .int (0 : Int32)), (1, .int v87), (0, .ref 2)]) dX12_half_6 rfl (by decide) rfl ?_
    refine ck_loc [2, 1, 0] rfl ?_
    refine cp_X12_half_7 (by simp) lpN _ _ _ hq
  · refine ck_entry (lv := [(0, .ref 3)]) false (own := RX12) rfl (fun q => by cases q) (by decide) (Nat.le_of_ble_eq_true rfl) rfl ?_
    refine ck_aload_n 0 dX12_half_0 rfl rfl ?_
    refine ck_alen0 (v := 8) rfl (by decide) dX12_half_1 ?_
    refine ck_iconst (v := 2) dX12_half_2 (by decide) ?_
    refine ck_idiv dX12_half_3 (by decide) ?_
    refine ck_nmI (fun v88 ev88 => ?_)
    have hq := hq v88 ev88
    refine ck_istore_n (lv' := [(1, .int v88), (0, .ref 3)]) dX12_half_4 rfl (by decide) rfl ?_
    refine ck_iconst (v := 0) dX12_half_5 (by decide) ?_
    refine ck_istore_n (lv' := [(2, .int (0 : Int32)), (1, .int v88), (0, .ref 3)]) dX12_half_6 rfl (by decide) rfl ?_
    refine ck_loc [2, 1, 0] rfl ?_
    refine cp_X12_half_7 (by simp) lpN _ _ _ hq
  · refine ck_entry (lv := [(0, .ref 4)]) false (own := RX12) rfl (fun q => by cases q) (by decide) (Nat.le_of_ble_eq_true rfl) rfl ?_
    refine ck_aload_n 0 dX12_half_0 rfl rfl ?_
    refine ck_alen0 (v := 8) rfl (by decide) dX12_half_1 ?_
    refine ck_iconst (v := 2) dX12_half_2 (by decide) ?_
    refine ck_idiv dX12_half_3 (by decide) ?_
    refine ck_nmI (fun v89 ev89 => ?_)
    have hq := hq v89 ev89
    refine ck_istore_n (lv' := [(1, .int v89), (0, .ref 4)]) dX12_half_4 rfl (by decide) rfl ?_
    refine ck_iconst (v := 0) dX12_half_5 (by decide) ?_
    refine ck_istore_n (lv' := [(2, .int (0 : Int32)), (1, .int v89), (0, .ref 4)]) dX12_half_6 rfl (by decide) rfl ?_
    refine ck_loc [2, 1, 0] rfl ?_
    refine cp_X12_half_7 (by simp) lpN _ _ _ hq
  · refine ck_entry (lv := [(0, .ref 5)]) false (own := RX12) rfl (fun q => by cases q) (by decide) (Nat.le_of_ble_eq_true rfl) rfl ?_
    refine ck_aload_n 0 dX12_half_0 rfl rfl ?_
    refine ck_alen0 (v := 8) rfl (by decide) dX12_half_1 ?_
    refine ck_iconst (v := 2) dX12_half_2 (by decide) ?_
    refine ck_idiv dX12_half_3 (by decide) ?_
    refine ck_nmI (fun v90 ev90 => ?_)
    have hq := hq v90 ev90
    refine ck_istore_n (lv' := [(1, .int v90), (0, .ref 5)]) dX12_half_4 rfl (by decide) rfl ?_
    refine ck_iconst (v := 0) dX12_half_5 (by decide) ?_
    refine ck_istore_n (lv' := [(2, .int (0 : Int32)), (1, .int v90), (0, .ref 5)]) dX12_half_6 rfl (by decide) rfl ?_
    refine ck_loc [2, 1, 0] rfl ?_
    refine cp_X12_half_7 (by simp) lpN _ _ _ hq
  · refine ck_entry (lv := [(0, .ref 6)]) false (own := RX12) rfl (fun q => by cases q) (by decide) (Nat.le_of_ble_eq_true rfl) rfl ?_
    refine ck_aload_n 0 dX12_half_0 rfl rfl ?_
    refine ck_alen0 (v := 12) rfl (by decide) dX12_half_1 ?_
    refine ck_iconst (v := 2) dX12_half_2 (by decide) ?_
    refine ck_idiv dX12_half_3 (by decide) ?_
    refine ck_nmI (fun v91 ev91 => ?_)
    have hq := hq v91 ev91
    refine ck_istore_n (lv' := [(1, .int v91), (0, .ref 6)]) dX12_half_4 rfl (by decide) rfl ?_
    refine ck_iconst (v := 0) dX12_half_5 (by decide) ?_
    refine ck_istore_n (lv' := [(2, .int (0 : Int32)), (1, .int v91), (0, .ref 6)]) dX12_half_6 rfl (by decide) rfl ?_
    refine ck_loc [2, 1, 0] rfl ?_
    refine cp_X12_half_7 (by simp) lpN _ _ _ hq
  · refine ck_entry (lv := [(0, .ref 7)]) false (own := RX12) rfl (fun q => by cases q) (by decide) (Nat.le_of_ble_eq_true rfl) rfl ?_
    refine ck_aload_n 0 dX12_half_0 rfl rfl ?_
    refine ck_alen0 (v := 12) rfl (by decide) dX12_half_1 ?_
    refine ck_iconst (v := 2) dX12_half_2 (by decide) ?_
    refine ck_idiv dX12_half_3 (by decide) ?_
    refine ck_nmI (fun v92 ev92 => ?_)
    have hq := hq v92 ev92
    refine ck_istore_n (lv' := [(1, .int v92), (0, .ref 7)]) dX12_half_4 rfl (by decide) rfl ?_
    refine ck_iconst (v := 0) dX12_half_5 (by decide) ?_
    refine ck_istore_n (lv' := [(2, .int (0 : Int32)), (1, .int v92), (0, .ref 7)]) dX12_half_6 rfl (by decide) rfl ?_
    refine ck_loc [2, 1, 0] rfl ?_
    refine cp_X12_half_7 (by simp) lpN _ _ _ hq
  · refine ck_entry (lv := [(0, .ref 8)]) false (own := RX12) rfl (fun q => by cases q) (by decide) (Nat.le_of_ble_eq_true rfl) rfl ?_
    refine ck_aload_n 0 dX12_half_0 rfl rfl ?_
    refine ck_alen0 (v := 12) rfl (by decide) dX12_half_1 ?_
    refine ck_iconst (v := 2) dX12_half_2 (by decide) ?_
    refine ck_idiv dX12_half_3 (by decide) ?_
    refine ck_nmI (fun v93 ev93 => ?_)
    have hq := hq v93 ev93
    refine ck_istore_n (lv' := [(1, .int v93), (0, .ref 8)]) dX12_half_4 rfl (by decide) rfl ?_
    refine ck_iconst (v := 0) dX12_half_5 (by decide) ?_
    refine ck_istore_n (lv' := [(2, .int (0 : Int32)), (1, .int v93), (0, .ref 8)]) dX12_half_6 rfl (by decide) rfl ?_
    refine ck_loc [2, 1, 0] rfl ?_
    refine cp_X12_half_7 (by simp) lpN _ _ _ hq
  · refine ck_entry (lv := [(0, .ref 9)]) false (own := RX12) rfl (fun q => by cases q) (by decide) (Nat.le_of_ble_eq_true rfl) rfl ?_
    refine ck_aload_n 0 dX12_half_0 rfl rfl ?_
    refine ck_alen0 (v := 12) rfl (by decide) dX12_half_1 ?_
    refine ck_iconst (v := 2) dX12_half_2 (by decide) ?_
    refine ck_idiv dX12_half_3 (by decide) ?_
    refine ck_nmI (fun v94 ev94 => ?_)
    have hq := hq v94 ev94
    refine ck_istore_n (lv' := [(1, .int v94), (0, .ref 9)]) dX12_half_4 rfl (by decide) rfl ?_
    refine ck_iconst (v := 0) dX12_half_5 (by decide) ?_
    refine ck_istore_n (lv' := [(2, .int (0 : Int32)), (1, .int v94), (0, .ref 9)]) dX12_half_6 rfl (by decide) rfl ?_
    refine ck_loc [2, 1, 0] rfl ?_
    refine cp_X12_half_7 (by simp) lpN _ _ _ hq
  · refine ck_entry (lv := [(0, .ref 10)]) false (own := RX12) rfl (fun q => by cases q) (by decide) (Nat.le_of_ble_eq_true rfl) rfl ?_
    refine ck_aload_n 0 dX12_half_0 rfl rfl ?_
    refine ck_alen0 (v := 20) rfl (by decide) dX12_half_1 ?_
    refine ck_iconst (v := 2) dX12_half_2 (by decide) ?_
    refine ck_idiv dX12_half_3 (by decide) ?_
    refine ck_nmI (fun v95 ev95 => ?_)
    have hq := hq v95 ev95
    refine ck_istore_n (lv' := [(1, .int v95), (0, .ref 10)]) dX12_half_4 rfl (by decide) rfl ?_
    refine ck_iconst (v := 0) dX12_half_5 (by decide) ?_
    refine ck_istore_n (lv' := [(2, .int (0 : Int32)), (1, .int v95), (0, .ref 10)]) dX12_half_6 rfl (by decide) rfl ?_
    refine ck_loc [2, 1, 0] rfl ?_
    refine cp_X12_half_7 (by simp) lpN _ _ _ hq
  · refine ck_entry (lv := [(0, .ref 11)]) false (own := RX12) rfl (fun q => by cases q) (by decide) (Nat.le_of_ble_eq_true rfl) rfl ?_
    refine ck_aload_n 0 dX12_half_0 rfl rfl ?_
    refine ck_alen0 (v := 20) rfl (by decide) dX12_half_1 ?_
    refine ck_iconst (v := 2) dX12_half_2 (by decide) ?_
    refine ck_idiv dX12_half_3 (by decide) ?_
    refine ck_nmI (fun v96 ev96 => ?_)
    have hq := hq v96 ev96
    refine ck_istore_n (lv' := [(1, .int v96), (0, .ref 11)]) dX12_half_4 rfl (by decide) rfl ?_
    refine ck_iconst (v := 0) dX12_half_5 (by decide) ?_
    refine ck_istore_n (lv' := [(2, .int (0 : Int32)), (1, .int v96), (0, .ref 11)]) dX12_half_6 rfl (by decide) rfl ?_
    refine ck_loc [2, 1, 0] rfl ?_
    refine cp_X12_half_7 (by simp) lpN _ _ _ hq
  · refine ck_entry (lv := [(0, .ref 12)]) false (own := RX12) rfl (fun q => by cases q) (by decide) (Nat.le_of_ble_eq_true rfl) rfl ?_
    refine ck_aload_n 0 dX12_half_0 rfl rfl ?_
    refine ck_alen0 (v := 20) rfl (by decide) dX12_half_1 ?_
    refine ck_iconst (v := 2) dX12_half_2 (by decide) ?_
    refine ck_idiv dX12_half_3 (by decide) ?_
    refine ck_nmI (fun v97 ev97 => ?_)
    have hq := hq v97 ev97
    refine ck_istore_n (lv' := [(1, .int v97), (0, .ref 12)]) dX12_half_4 rfl (by decide) rfl ?_
    refine ck_iconst (v := 0) dX12_half_5 (by decide) ?_
    refine ck_istore_n (lv' := [(2, .int (0 : Int32)), (1, .int v97), (0, .ref 12)]) dX12_half_6 rfl (by decide) rfl ?_
    refine ck_loc [2, 1, 0] rfl ?_
    refine cp_X12_half_7 (by simp) lpN _ _ _ hq
  · refine ck_entry (lv := [(0, .ref 13)]) false (own := RX12) rfl (fun q => by cases q) (by decide) (Nat.le_of_ble_eq_true rfl) rfl ?_
    refine ck_aload_n 0 dX12_half_0 rfl rfl ?_
    refine ck_alen0 (v := 20) rfl (by decide) dX12_half_1 ?_
    refine ck_iconst (v := 2) dX12_half_2 (by decide) ?_
    refine ck_idiv dX12_half_3 (by decide) ?_
    refine ck_nmI (fun v98 ev98 => ?_)
    have hq := hq v98 ev98
    refine ck_istore_n (lv' := [(1, .int v98), (0, .ref 13)]) dX12_half_4 rfl (by decide) rfl ?_
    refine ck_iconst (v := 0) dX12_half_5 (by decide) ?_
    refine ck_istore_n (lv' := [(2, .int (0 : Int32)), (1, .int v98), (0, .ref 13)]) dX12_half_6 rfl (by decide) rfl ?_
    refine ck_loc [2, 1, 0] rfl ?_
    refine cp_X12_half_7 (by simp) lpN _ _ _ hq
  · refine ck_entry (lv := [(0, .ref 14)]) false (own := RX12) rfl (fun q => by cases q) (by decide) (Nat.le_of_ble_eq_true rfl) rfl ?_
    refine ck_aload_n 0 dX12_half_0 rfl rfl ?_
    refine ck_alen0 (v := 6) rfl (by decide) dX12_half_1 ?_
    refine ck_iconst (v := 2) dX12_half_2 (by decide) ?_
    refine ck_idiv dX12_half_3 (by decide) ?_
    refine ck_nmI (fun v99 ev99 => ?_)
    have hq := hq v99 ev99
    refine ck_istore_n (lv' := [(1, .int v99), (0, .ref 14)]) dX12_half_4 rfl (by decide) rfl ?_
    refine ck_iconst (v := 0) dX12_half_5 (by decide) ?_
    refine ck_istore_n (lv' := [(2, .int (0 : Int32)), (1, .int v99), (0, .ref 14)]) dX12_half_6 rfl (by decide) rfl ?_
    refine ck_loc [2, 1, 0] rfl ?_
    refine cp_X12_half_7 (by simp) lpN _ _ _ hq
  · refine ck_entry (lv := [(0, .ref 15)]) false (own := RX12) rfl (fun q => by cases q) (by decide) (Nat.le_of_ble_eq_true rfl) rfl ?_
    refine ck_aload_n 0 dX12_half_0 rfl rfl ?_
    refine ck_alen0 (v := 6) rfl (by decide) dX12_half_1 ?_
    refine ck_iconst (v := 2) dX12_half_2 (by decide) ?_
    refine ck_idiv dX12_half_3 (by decide) ?_
    refine ck_nmI (fun v100 ev100 => ?_)
    have hq := hq v100 ev100
    refine ck_istore_n (lv' := [(1, .int v100), (0, .ref 15)]) dX12_half_4 rfl (by decide) rfl ?_
    refine ck_iconst (v := 0) dX12_half_5 (by decide) ?_
    refine ck_istore_n (lv' := [(2, .int (0 : Int32)), (1, .int v100), (0, .ref 15)]) dX12_half_6 rfl (by decide) rfl ?_
    refine ck_loc [2, 1, 0] rfl ?_
    refine cp_X12_half_7 (by simp) lpN _ _ _ hq
  · refine ck_entry (lv := [(0, .ref 16)]) false (own := RX12) rfl (fun q => by cases q) (by decide) (Nat.le_of_ble_eq_true rfl) rfl ?_
    refine ck_aload_n 0 dX12_half_0 rfl rfl ?_
    refine ck_alen0 (v := 128) rfl (by decide) dX12_half_1 ?_
    refine ck_iconst (v := 2) dX12_half_2 (by decide) ?_
    refine ck_idiv dX12_half_3 (by decide) ?_
    refine ck_nmI (fun v101 ev101 => ?_)
    have hq := hq v101 ev101
    refine ck_istore_n (lv' := [(1, .int v101), (0, .ref 16)]) dX12_half_4 rfl (by decide) rfl ?_
    refine ck_iconst (v := 0) dX12_half_5 (by decide) ?_
    refine ck_istore_n (lv' := [(2, .int (0 : Int32)), (1, .int v101), (0, .ref 16)]) dX12_half_6 rfl (by decide) rfl ?_
    refine ck_loc [2, 1, 0] rfl ?_
    refine cp_X12_half_7 (by simp) lpN _ _ _ hq
  · refine ck_entry (lv := [(0, .ref 17)]) false (own := RX12) rfl (fun q => by cases q) (by decide) (Nat.le_of_ble_eq_true rfl) rfl ?_
    refine ck_aload_n 0 dX12_half_0 rfl rfl ?_
    refine ck_alen0 (v := 128) rfl (by decide) dX12_half_1 ?_
    refine ck_iconst (v := 2) dX12_half_2 (by decide) ?_
    refine ck_idiv dX12_half_3 (by decide) ?_
    refine ck_nmI (fun v102 ev102 => ?_)
    have hq := hq v102 ev102
    refine ck_istore_n (lv' := [(1, .int v102), (0, .ref 17)]) dX12_half_4 rfl (by decide) rfl ?_
    refine ck_iconst (v := 0) dX12_half_5 (by decide) ?_
    refine ck_istore_n (lv' := [(2, .int (0 : Int32)), (1, .int v102), (0, .ref 17)]) dX12_half_6 rfl (by decide) rfl ?_
    refine ck_loc [2, 1, 0] rfl ?_
    refine cp_X12_half_7 (by simp) lpN _ _ _ hq
def wp_X12_leverAs (h : ck_H) (Q : Int32 → ck_H → Prop) : Prop := ((¬ (h.1 0 48) = (-1 : Int32) → Q (h.1 0 48) h) ∧ ((h.1 0 48) = (-1 : Int32) → Q (h.1 2 3) h))
set_option maxHeartbeats 4000000 in
set_option maxRecDepth 100000 in
theorem c_X12_leverAs {gr : Bool} {h : ck_H} {Q : Int32 → ck_H → Prop} (hq : wp_X12_leverAs h Q) : ck_M yX12_leverAs cX12_leverAs 1 (some .int) 2 0 0 gr ck_shM h [.ref 0] (ck_Qi ck_shM Q) := by
  refine ck_entry (lv := [(0, .ref 0)]) false (own := RX12) rfl (fun q => by cases q) (by decide) (Nat.le_of_ble_eq_true rfl) rfl ?_
  refine ck_aload_n 0 dX12_leverAs_0 rfl rfl ?_
  refine ck_getI clX12 48 rfl rfl (by decide) fl_X12_102 dX12_leverAs_1 ?_
  refine ck_iconst (v := -1) dX12_leverAs_4 (by decide) ?_
  refine ck_icmp_ne (tgt := 17) dX12_leverAs_5 (by decide) (fun c1 => ?_) (fun c1 => ?_)
  · have hq := hq.1 c1
    refine ck_aload_n 0 dX12_leverAs_17 rfl rfl ?_
    refine ck_getI clX12 48 rfl rfl (by decide) fl_X12_102 dX12_leverAs_18 ?_
    exact ck_iret rfl rfl rfl rfl dX12_leverAs_21 ⟨_, rfl, rfl, hq⟩
  · have hq := hq.2 c1
    refine ck_aload_n 0 dX12_leverAs_8 rfl rfl ?_
    refine ck_getR clX12 3 rfl rfl (by decide) fl_X12_13 dX12_leverAs_9 ?_
    refine ck_iconst (v := 3) dX12_leverAs_12 (by decide) ?_
    refine ck_iald (j := 3) (by decide) rfl (ck_inL (by decide)) dX12_leverAs_13 ?_
    refine ck_goto (tgt := 21) dX12_leverAs_14 (by decide) ?_
    exact ck_iret rfl rfl rfl rfl dX12_leverAs_21 ⟨_, rfl, rfl, hq⟩
def wp_X12_starts_67 (Q : ck_H → Prop) (K85 : Int32 → ck_H → Prop) (Kc : Int32 → Int32 → ck_H → Prop) (x1 : Int32) (x2 : Int32) (y1 : Int32) (y2 : Int32) (h : ck_H) : Prop := (vp_in y1 92 ∧ (∀ h14, h14 = ck_sI h 24 y1.toNatClampNeg y2 → (vp_in (((4 : Int32) * x1) + x2) 92 ∧ (∀ h16, h16 = ck_sI h14 25 (((4 : Int32) * x1) + x2).toNatClampNeg (0 : Int32) → (∀ v17, v17 = x2 + 1 → Kc x1 v17 h16)))))
def wp_X12_starts_33 (Q : ck_H → Prop) (K85 : Int32 → ck_H → Prop) : Nat → Int32 → Int32 → ck_H → Prop
  | 0 => fun _ _ _ => False
  | n + 1 => fun x1 x2 h => (((4 : Int32) ≤ x2 → K85 x1 h) ∧ (¬ (4 : Int32) ≤ x2 → (((h.1 2 0) ≤ x2 → wp_X12_starts_67 Q K85 (wp_X12_starts_33 Q K85 n) x1 x2 (((4 : Int32) * x1) + x2) (0 : Int32) h) ∧ (¬ (h.1 2 0) ≤ x2 → (vp_in x2 8 ∧ wp_X12_starts_67 Q K85 (wp_X12_starts_33 Q K85 n) x1 x2 (((4 : Int32) * x1) + x2) (h.1 5 x2.toNatClampNeg) h)))))
def wp_X12_starts_158 (Q : ck_H → Prop) (Kc : Int32 → Int32 → ck_H → Prop) (x1 : Int32) (x2 : Int32) (y1 : Int32) (y2 : Int32) (h : ck_H) : Prop := (vp_in y1 230 ∧ (∀ h28, h28 = ck_sI h 27 y1.toNatClampNeg y2 → (vp_in (((10 : Int32) * x1) + x2) 230 ∧ (∀ h30, h30 = ck_sI h28 28 (((10 : Int32) * x1) + x2).toNatClampNeg (-1 : Int32) → (∀ v31, v31 = x2 + 1 → Kc x1 v31 h30)))))
def wp_X12_starts_133 (Q : ck_H → Prop) (Kc : Int32 → Int32 → ck_H → Prop) (x1 : Int32) (x2 : Int32) (x3 : Int32) (y1 : Int32) (y2 : Int32) (h : ck_H) : Prop := (vp_in y1 230 ∧ (∀ h25, h25 = ck_sI h 26 y1.toNatClampNeg y2 → ((x3 = 0 → wp_X12_starts_158 Q Kc x1 x2 (((10 : Int32) * x1) + x2) (0 : Int32) h25) ∧ (¬ x3 = 0 → (vp_in x2 20 ∧ wp_X12_starts_158 Q Kc x1 x2 (((10 : Int32) * x1) + x2) (h25.1 13 x2.toNatClampNeg) h25)))))
def wp_X12_starts_108 (Q : ck_H → Prop) (Kc : Int32 → Int32 → ck_H → Prop) (x1 : Int32) (x2 : Int32) (y0 : Int32) (h : ck_H) : Prop := ((y0 = 0 → wp_X12_starts_133 Q Kc x1 x2 y0 (((10 : Int32) * x1) + x2) (0 : Int32) h) ∧ (¬ y0 = 0 → (vp_in x2 20 ∧ wp_X12_starts_133 Q Kc x1 x2 y0 (((10 : Int32) * x1) + x2) (h.1 11 x2.toNatClampNeg) h)))
def wp_X12_starts_87 (Q : ck_H → Prop) : Nat → Int32 → Int32 → ck_H → Prop
  | 0 => fun _ _ _ => False
  | n + 1 => fun x1 x2 h => (((10 : Int32) ≤ x2 → Q h) ∧ (¬ (10 : Int32) ≤ x2 → (((h.1 2 2) ≤ x2 → wp_X12_starts_108 Q (wp_X12_starts_87 Q n) x1 x2 (0 : Int32) h) ∧ (¬ (h.1 2 2) ≤ x2 → wp_X12_starts_108 Q (wp_X12_starts_87 Q n) x1 x2 (1 : Int32) h))))
def wp_X12_starts (x1 : Int32) (h : ck_H) (Q : ck_H → Prop) : Prop := (vp_in x1 23 ∧ (∀ h2, h2 = ck_sI h 20 x1.toNatClampNeg (0 : Int32) → (wp_X12_leverAs h2 (fun r4 h3 => (vp_in x1 23 ∧ (∀ h6, h6 = ck_sI h3 21 x1.toNatClampNeg r4 → (vp_in x1 23 ∧ (∀ h8, h8 = ck_sI h6 22 x1.toNatClampNeg (0 : Int32) → (vp_in x1 23 ∧ (∀ h10, h10 = ck_sI h8 23 x1.toNatClampNeg (0 : Int32) → wp_X12_starts_33 Q (fun x20 h19 => wp_X12_starts_87 Q lpN x20 (0 : Int32) h19) lpN x1 (0 : Int32) h10))))))))))
set_option maxHeartbeats 4000000 in
set_option maxRecDepth 100000 in
theorem cp_X12_starts_67 {gr : Bool} {Q : ck_H → Prop} {K85 : Int32 → ck_H → Prop} {Kc : Int32 → Int32 → ck_H → Prop} (hK85 : ∀ (x1 : Int32) (h : ck_H), K85 x1 h → ck_W cX12_starts 4 RX12 none 3 0 0 false gr (ck_Qv ck_shM Q) ck_shM h 0 0 85 [(0, .ref 0), (1, .int x1)] []) (hKc : ∀ (x1 : Int32) (x2 : Int32) (h : ck_H), Kc x1 x2 h → ck_W cX12_starts 4 RX12 none 3 0 0 false gr (ck_Qv ck_shM Q) ck_shM h 0 0 33 [(0, .ref 0), (1, .int x1), (2, .int x2)] []) : ∀ (x1 : Int32) (x2 : Int32) (y1 : Int32) (y2 : Int32) (h : ck_H), wp_X12_starts_67 Q K85 Kc x1 x2 y1 y2 h → ck_W cX12_starts 4 RX12 none 3 0 0 false gr (ck_Qv ck_shM Q) ck_shM h 0 0 67 [(0, .ref 0), (1, .int x1), (2, .int x2)] [.int y2, .int y1, .ref 24] := by
  intro x1 x2 y1 y2 h hq
  obtain ⟨b13, hq⟩ := hq
  refine ck_iast rfl rfl b13 dX12_starts_67 ?_
  refine ck_nmH (fun h14 eh14 => ?_)
  have hq := hq h14 eh14
  refine ck_aload_n 0 dX12_starts_68 rfl rfl ?_
  refine ck_getR clX12 40 rfl rfl (by decide) fl_X12_87 dX12_starts_69 ?_
  refine ck_iconst (v := 4) dX12_starts_72 (by decide) ?_
  refine ck_iload_n 1 dX12_starts_73 rfl rfl ?_
  refine ck_imul dX12_starts_74 ?_
  refine ck_iload_n 2 dX12_starts_75 rfl rfl ?_
  refine ck_iadd dX12_starts_76 ?_
  refine ck_iconst (v := 0) dX12_starts_77 (by decide) ?_
  obtain ⟨b15, hq⟩ := hq
  refine ck_iast rfl rfl b15 dX12_starts_78 ?_
  refine ck_nmH (fun h16 eh16 => ?_)
  have hq := hq h16 eh16
  obtain ⟨v17, ev17⟩ : ∃ z : Int32, z = x2 + 1 := ⟨_, rfl⟩
  have hq := hq v17 ev17
  refine ck_iinc (v := v17) (lv' := [(2, .int v17), (0, .ref 0), (1, .int x1)]) 2 dX12_starts_79 rfl (by rw [ev17]; rfl) (by decide) rfl ?_
  refine ck_goto (tgt := 33) dX12_starts_82 (by decide) ?_
  refine ck_loc [1, 2, 0] rfl ?_
  exact hKc _ _ _ hq
set_option maxHeartbeats 4000000 in
set_option maxRecDepth 100000 in
theorem cp_X12_starts_33 {gr : Bool} {Q : ck_H → Prop} {K85 : Int32 → ck_H → Prop} (hK85 : ∀ (x1 : Int32) (h : ck_H), K85 x1 h → ck_W cX12_starts 4 RX12 none 3 0 0 false gr (ck_Qv ck_shM Q) ck_shM h 0 0 85 [(0, .ref 0), (1, .int x1)] []) : ∀ (n : Nat) (x1 : Int32) (x2 : Int32) (h : ck_H), wp_X12_starts_33 Q K85 n x1 x2 h → ck_W cX12_starts 4 RX12 none 3 0 0 false gr (ck_Qv ck_shM Q) ck_shM h 0 0 33 [(0, .ref 0), (1, .int x1), (2, .int x2)] [] := by
  intro n
  induction n with
  | zero => intro x1 x2 h hq; exact hq.elim
  | succ n hKc =>
    intro x1 x2 h hq
    refine ck_iload_n 2 dX12_starts_33 rfl rfl ?_
    refine ck_iconst (v := 4) dX12_starts_34 (by decide) ?_
    refine ck_icmp_ge (tgt := 85) dX12_starts_35 (by decide) (fun c11 => ?_) (fun c11 => ?_)
    · have hq := hq.1 c11
      refine ck_loc [0, 1] rfl ?_
      exact hK85 _ _ hq
    · have hq := hq.2 c11
      refine ck_aload_n 0 dX12_starts_38 rfl rfl ?_
      refine ck_getR clX12 39 rfl rfl (by decide) fl_X12_84 dX12_starts_39 ?_
      refine ck_iconst (v := 4) dX12_starts_42 (by decide) ?_
      refine ck_iload_n 1 dX12_starts_43 rfl rfl ?_
      refine ck_imul dX12_starts_44 ?_
      refine ck_iload_n 2 dX12_starts_45 rfl rfl ?_
      refine ck_iadd dX12_starts_46 ?_
      refine ck_iload_n 2 dX12_starts_47 rfl rfl ?_
      refine ck_aload_n 0 dX12_starts_48 rfl rfl ?_
      refine ck_getR clX12 3 rfl rfl (by decide) fl_X12_13 dX12_starts_49 ?_
      refine ck_iconst (v := 0) dX12_starts_52 (by decide) ?_
      refine ck_iald (j := 0) (by decide) rfl (ck_inL (by decide)) dX12_starts_53 ?_
      refine ck_icmp_ge (tgt := 66) dX12_starts_54 (by decide) (fun c12 => ?_) (fun c12 => ?_)
      · have hq := hq.1 c12
        refine ck_iconst (v := 0) dX12_starts_66 (by decide) ?_
        exact cp_X12_starts_67 hK85 hKc _ _ _ _ _ hq
      · have hq := hq.2 c12
        refine ck_aload_n 0 dX12_starts_57 rfl rfl ?_
        refine ck_getR clX12 6 rfl rfl (by decide) fl_X12_22 dX12_starts_58 ?_
        refine ck_iload_n 2 dX12_starts_61 rfl rfl ?_
        obtain ⟨b18, hq⟩ := hq
        refine ck_iald rfl rfl b18 dX12_starts_62 ?_
        refine ck_goto (tgt := 67) dX12_starts_63 (by decide) ?_
        exact cp_X12_starts_67 hK85 hKc _ _ _ _ _ hq
set_option maxHeartbeats 4000000 in
set_option maxRecDepth 100000 in
theorem cp_X12_starts_158 {gr : Bool} {Q : ck_H → Prop} {Kc : Int32 → Int32 → ck_H → Prop} (hKc : ∀ (x1 : Int32) (x2 : Int32) (h : ck_H), Kc x1 x2 h → ck_W cX12_starts 4 RX12 none 3 0 0 false gr (ck_Qv ck_shM Q) ck_shM h 0 0 87 [(0, .ref 0), (1, .int x1), (2, .int x2)] []) : ∀ (x1 : Int32) (x2 : Int32) (y1 : Int32) (y2 : Int32) (h : ck_H), wp_X12_starts_158 Q Kc x1 x2 y1 y2 h → ck_W cX12_starts 4 RX12 none 3 0 0 false gr (ck_Qv ck_shM Q) ck_shM h 0 0 158 [(0, .ref 0), (1, .int x1), (2, .int x2)] [.int y2, .int y1, .ref 27] := by
  intro x1 x2 y1 y2 h hq
  obtain ⟨b27, hq⟩ := hq
  refine ck_iast rfl rfl b27 dX12_starts_158 ?_
  refine ck_nmH (fun h28 eh28 => ?_)
  have hq := hq h28 eh28
  refine ck_aload_n 0 dX12_starts_159 rfl rfl ?_
  refine ck_getR clX12 43 rfl rfl (by decide) fl_X12_96 dX12_starts_160 ?_
  refine ck_bipush (v := 10) dX12_starts_163 (by decide) ?_
  refine ck_iload_n 1 dX12_starts_165 rfl rfl ?_
  refine ck_imul dX12_starts_166 ?_
  refine ck_iload_n 2 dX12_starts_167 rfl rfl ?_
  refine ck_iadd dX12_starts_168 ?_
  refine ck_iconst (v := -1) dX12_starts_169 (by decide) ?_
  obtain ⟨b29, hq⟩ := hq
  refine ck_iast rfl rfl b29 dX12_starts_170 ?_
  refine ck_nmH (fun h30 eh30 => ?_)
  have hq := hq h30 eh30
  obtain ⟨v31, ev31⟩ : ∃ z : Int32, z = x2 + 1 := ⟨_, rfl⟩
  have hq := hq v31 ev31
  refine ck_iinc (v := v31) (lv' := [(2, .int v31), (0, .ref 0), (1, .int x1)]) 2 dX12_starts_171 rfl (by rw [ev31]; rfl) (by decide) rfl ?_
  refine ck_goto (tgt := 87) dX12_starts_174 (by decide) ?_
  refine ck_loc [1, 2, 0] rfl ?_
  exact hKc _ _ _ hq
set_option maxHeartbeats 4000000 in
set_option maxRecDepth 100000 in
theorem cp_X12_starts_133 {gr : Bool} {Q : ck_H → Prop} {Kc : Int32 → Int32 → ck_H → Prop} (hKc : ∀ (x1 : Int32) (x2 : Int32) (h : ck_H), Kc x1 x2 h → ck_W cX12_starts 4 RX12 none 3 0 0 false gr (ck_Qv ck_shM Q) ck_shM h 0 0 87 [(0, .ref 0), (1, .int x1), (2, .int x2)] []) : ∀ (x1 : Int32) (x2 : Int32) (x3 : Int32) (y1 : Int32) (y2 : Int32) (h : ck_H), wp_X12_starts_133 Q Kc x1 x2 x3 y1 y2 h → ck_W cX12_starts 4 RX12 none 3 0 0 false gr (ck_Qv ck_shM Q) ck_shM h 0 0 133 [(0, .ref 0), (1, .int x1), (2, .int x2), (3, .int x3)] [.int y2, .int y1, .ref 26] := by
  intro x1 x2 x3 y1 y2 h hq
  obtain ⟨b24, hq⟩ := hq
  refine ck_iast rfl rfl b24 dX12_starts_133 ?_
  refine ck_nmH (fun h25 eh25 => ?_)
  have hq := hq h25 eh25
  refine ck_aload_n 0 dX12_starts_134 rfl rfl ?_
  refine ck_getR clX12 42 rfl rfl (by decide) fl_X12_93 dX12_starts_135 ?_
  refine ck_bipush (v := 10) dX12_starts_138 (by decide) ?_
  refine ck_iload_n 1 dX12_starts_140 rfl rfl ?_
  refine ck_imul dX12_starts_141 ?_
  refine ck_iload_n 2 dX12_starts_142 rfl rfl ?_
  refine ck_iadd dX12_starts_143 ?_
  refine ck_iload_n 3 dX12_starts_144 rfl rfl ?_
  refine ck_if_eq (tgt := 157) dX12_starts_145 (by decide) (fun c26 => ?_) (fun c26 => ?_)
  · have hq := hq.1 c26
    refine ck_iconst (v := 0) dX12_starts_157 (by decide) ?_
    refine ck_loc [0, 1, 2] rfl ?_
    exact cp_X12_starts_158 hKc _ _ _ _ _ hq
  · have hq := hq.2 c26
    refine ck_aload_n 0 dX12_starts_148 rfl rfl ?_
    refine ck_getR clX12 14 rfl rfl (by decide) fl_X12_46 dX12_starts_149 ?_
    refine ck_iload_n 2 dX12_starts_152 rfl rfl ?_
    obtain ⟨b32, hq⟩ := hq
    refine ck_iald rfl rfl b32 dX12_starts_153 ?_
    refine ck_goto (tgt := 158) dX12_starts_154 (by decide) ?_
    refine ck_loc [0, 1, 2] rfl ?_
    exact cp_X12_starts_158 hKc _ _ _ _ _ hq
set_option maxHeartbeats 4000000 in
set_option maxRecDepth 100000 in
theorem cp_X12_starts_108 {gr : Bool} {Q : ck_H → Prop} {Kc : Int32 → Int32 → ck_H → Prop} (hKc : ∀ (x1 : Int32) (x2 : Int32) (h : ck_H), Kc x1 x2 h → ck_W cX12_starts 4 RX12 none 3 0 0 false gr (ck_Qv ck_shM Q) ck_shM h 0 0 87 [(0, .ref 0), (1, .int x1), (2, .int x2)] []) : ∀ (x1 : Int32) (x2 : Int32) (y0 : Int32) (h : ck_H), wp_X12_starts_108 Q Kc x1 x2 y0 h → ck_W cX12_starts 4 RX12 none 3 0 0 false gr (ck_Qv ck_shM Q) ck_shM h 0 0 108 [(0, .ref 0), (1, .int x1), (2, .int x2)] [.int y0] := by
  intro x1 x2 y0 h hq
  refine ck_istore_n (lv' := [(3, .int y0), (0, .ref 0), (1, .int x1), (2, .int x2)]) dX12_starts_108 rfl (by decide) rfl ?_
  refine ck_aload_n 1 dX12_starts_109 rfl rfl ?_
  refine ck_getR clX12 41 rfl rfl (by decide) fl_X12_90 dX12_starts_110 ?_
  refine ck_bipush (v := 10) dX12_starts_113 (by decide) ?_
  refine ck_iload_n 2 dX12_starts_115 rfl rfl ?_
  refine ck_imul dX12_starts_116 ?_
  refine ck_iload_n 3 dX12_starts_117 rfl rfl ?_
  refine ck_iadd dX12_starts_118 ?_
  refine ck_iload_n 0 dX12_starts_119 rfl rfl ?_
  refine ck_if_eq (tgt := 132) dX12_starts_120 (by decide) (fun c23 => ?_) (fun c23 => ?_)
  · have hq := hq.1 c23
    refine ck_iconst (v := 0) dX12_starts_132 (by decide) ?_
    refine ck_loc [1, 2, 3, 0] rfl ?_
    exact cp_X12_starts_133 hKc _ _ _ _ _ _ hq
  · have hq := hq.2 c23
    refine ck_aload_n 1 dX12_starts_123 rfl rfl ?_
    refine ck_getR clX12 12 rfl rfl (by decide) fl_X12_40 dX12_starts_124 ?_
    refine ck_iload_n 3 dX12_starts_127 rfl rfl ?_
    obtain ⟨b33, hq⟩ := hq
    refine ck_iald rfl rfl b33 dX12_starts_128 ?_
    refine ck_goto (tgt := 133) dX12_starts_129 (by decide) ?_
    refine ck_loc [1, 2, 3, 0] rfl ?_
    exact cp_X12_starts_133 hKc _ _ _ _ _ _ hq
set_option maxHeartbeats 4000000 in
set_option maxRecDepth 100000 in
theorem cp_X12_starts_87 {gr : Bool} {Q : ck_H → Prop} : ∀ (n : Nat) (x1 : Int32) (x2 : Int32) (h : ck_H), wp_X12_starts_87 Q n x1 x2 h → ck_W cX12_starts 4 RX12 none 3 0 0 false gr (ck_Qv ck_shM Q) ck_shM h 0 0 87 [(0, .ref 0), (1, .int x1), (2, .int x2)] [] := by
  intro n
  induction n with
  | zero => intro x1 x2 h hq; exact hq.elim
  | succ n hKc =>
    intro x1 x2 h hq
    refine ck_iload_n 2 dX12_starts_87 rfl rfl ?_
    refine ck_bipush (v := 10) dX12_starts_88 (by decide) ?_
    refine ck_icmp_ge (tgt := 177) dX12_starts_90 (by decide) (fun c21 => ?_) (fun c21 => ?_)
    · have hq := hq.1 c21
      exact ck_vret rfl rfl rfl dX12_starts_177 ⟨rfl, rfl, hq⟩
    · have hq := hq.2 c21
      refine ck_iload_n 2 dX12_starts_93 rfl rfl ?_
      refine ck_aload_n 0 dX12_starts_94 rfl rfl ?_
      refine ck_getR clX12 3 rfl rfl (by decide) fl_X12_13 dX12_starts_95 ?_
      refine ck_iconst (v := 2) dX12_starts_98 (by decide) ?_
      refine ck_iald (j := 2) (by decide) rfl (ck_inL (by decide)) dX12_starts_99 ?_
      refine ck_icmp_ge (tgt := 107) dX12_starts_100 (by decide) (fun c22 => ?_) (fun c22 => ?_)
      · have hq := hq.1 c22
        refine ck_iconst (v := 0) dX12_starts_107 (by decide) ?_
        exact cp_X12_starts_108 hKc _ _ _ _ hq
      · have hq := hq.2 c22
        refine ck_iconst (v := 1) dX12_starts_103 (by decide) ?_
        refine ck_goto (tgt := 108) dX12_starts_104 (by decide) ?_
        exact cp_X12_starts_108 hKc _ _ _ _ hq
set_option maxHeartbeats 4000000 in
set_option maxRecDepth 100000 in
theorem c_X12_starts {gr : Bool} {x1 : Int32} {h : ck_H} {Q : ck_H → Prop} (hq : wp_X12_starts x1 h Q) : ck_M yX12_starts cX12_starts 4 none 3 0 0 gr ck_shM h [.ref 0, .int x1] (ck_Qv ck_shM Q) := by
  refine ck_entry (lv := [(0, .ref 0), (1, .int x1)]) false (own := RX12) rfl (fun q => by cases q) (by decide) (Nat.le_of_ble_eq_true rfl) rfl ?_
  refine ck_aload_n 0 dX12_starts_0 rfl rfl ?_
  refine ck_getR clX12 35 rfl rfl (by decide) fl_X12_72 dX12_starts_1 ?_
  refine ck_iload_n 1 dX12_starts_4 rfl rfl ?_
  refine ck_iconst (v := 0) dX12_starts_5 (by decide) ?_
  obtain ⟨b1, hq⟩ := hq
  refine ck_iast rfl rfl b1 dX12_starts_6 ?_
  refine ck_nmH (fun h2 eh2 => ?_)
  have hq := hq h2 eh2
  refine ck_aload_n 0 dX12_starts_7 rfl rfl ?_
  refine ck_getR clX12 36 rfl rfl (by decide) fl_X12_75 dX12_starts_8 ?_
  refine ck_iload_n 1 dX12_starts_11 rfl rfl ?_
  refine ck_aload_n 0 dX12_starts_12 rfl rfl ?_
  refine ck_callV (c_X12_leverAs hq) rfl cal_X12_leverAs rfl ml_X12_325 vir_X12_leverAs rfl rfl (by decide) (Nat.le_of_ble_eq_true rfl) (Nat.le_of_ble_eq_true rfl) (by decide) (by decide) dX12_starts_13 ?_
  rintro _ _ h3 ⟨r4, rfl, rfl, hq⟩
  obtain ⟨b5, hq⟩ := hq
  refine ck_iast rfl rfl b5 dX12_starts_16 ?_
  refine ck_nmH (fun h6 eh6 => ?_)
  have hq := hq h6 eh6
  refine ck_aload_n 0 dX12_starts_17 rfl rfl ?_
  refine ck_getR clX12 37 rfl rfl (by decide) fl_X12_78 dX12_starts_18 ?_
  refine ck_iload_n 1 dX12_starts_21 rfl rfl ?_
  refine ck_iconst (v := 0) dX12_starts_22 (by decide) ?_
  obtain ⟨b7, hq⟩ := hq
  refine ck_iast rfl rfl b7 dX12_starts_23 ?_
  refine ck_nmH (fun h8 eh8 => ?_)
  have hq := hq h8 eh8
  refine ck_aload_n 0 dX12_starts_24 rfl rfl ?_
  refine ck_getR clX12 38 rfl rfl (by decide) fl_X12_81 dX12_starts_25 ?_
  refine ck_iload_n 1 dX12_starts_28 rfl rfl ?_
  refine ck_iconst (v := 0) dX12_starts_29 (by decide) ?_
  obtain ⟨b9, hq⟩ := hq
  refine ck_iast rfl rfl b9 dX12_starts_30 ?_
  refine ck_nmH (fun h10 eh10 => ?_)
  have hq := hq h10 eh10
  refine ck_iconst (v := 0) dX12_starts_31 (by decide) ?_
  refine ck_istore_n (lv' := [(2, .int (0 : Int32)), (0, .ref 0), (1, .int x1)]) dX12_starts_32 rfl (by decide) rfl ?_
  refine ck_loc [1, 2, 0] rfl ?_
  refine cp_X12_starts_33 (fun x20 h19 hq => ?_) lpN _ _ _ hq
  · refine ck_iconst (v := 0) dX12_starts_85 (by decide) ?_
    refine ck_istore_n (lv' := [(2, .int (0 : Int32)), (0, .ref 0), (1, .int x20)]) dX12_starts_86 rfl (by decide) rfl ?_
    refine ck_loc [1, 2, 0] rfl ?_
    refine cp_X12_starts_87 lpN _ _ _ hq
def wp_X12_begins (h : ck_H) (Q : ck_H → Prop) : Prop := (wp_X12_starts (0 : Int32) h (fun h1 => Q h1))
set_option maxHeartbeats 4000000 in
set_option maxRecDepth 100000 in
theorem c_X12_begins {gr : Bool} {h : ck_H} {Q : ck_H → Prop} (hq : wp_X12_begins h Q) : ck_M yX12_begins cX12_begins 1 none 4 0 0 gr ck_shM h [.ref 0] (ck_Qv ck_shM Q) := by
  refine ck_entry (lv := [(0, .ref 0)]) false (own := RX12) rfl (fun q => by cases q) (by decide) (Nat.le_of_ble_eq_true rfl) rfl ?_
  refine ck_aload_n 0 dX12_begins_0 rfl rfl ?_
  refine ck_iconst (v := 0) dX12_begins_1 (by decide) ?_
  refine ck_callV (c_X12_starts hq) rfl cal_X12_starts rfl ml_X12_328 vir_X12_starts rfl rfl (by decide) (Nat.le_of_ble_eq_true rfl) (Nat.le_of_ble_eq_true rfl) (by decide) (by decide) dX12_begins_2 ?_
  rintro _ _ h1 ⟨rfl, rfl, hq⟩
  exact ck_vret rfl rfl rfl dX12_begins_5 ⟨rfl, rfl, hq⟩
def wp_X12_text_66 (Q : Int32 → ck_H → Prop) (K75 : ck_H → Prop) (Kc : Int32 → ck_H → Prop) (x2 : Int32) (y1 : Int32) (y2 : Int32) (h : ck_H) : Prop := (wp_X12_reads y1 y2 h (fun h11 => (∀ v12, v12 = x2 + 1 → Kc v12 h11)))
def wp_X12_text_47 (Q : Int32 → ck_H → Prop) (K75 : ck_H → Prop) : Nat → Int32 → ck_H → Prop
  | 0 => fun _ _ => False
  | n + 1 => fun x2 h => (((7 : Int32) ≤ x2 → K75 h) ∧ (¬ (7 : Int32) ≤ x2 → ((¬ x2 = (3 : Int32) → wp_X12_text_66 Q K75 (wp_X12_text_47 Q K75 n) x2 x2 (0 : Int32) h) ∧ (x2 = (3 : Int32) → wp_X12_text_66 Q K75 (wp_X12_text_47 Q K75 n) x2 x2 (50 : Int32) h))))
def wp_X12_text_77 (Q : Int32 → ck_H → Prop) (K103 : ck_H → Prop) : Nat → Int32 → ck_H → Prop
  | 0 => fun _ _ => False
  | n + 1 => fun x2 h => (((6 : Int32) ≤ x2 → K103 h) ∧ (¬ (6 : Int32) ≤ x2 → (vp_in x2 6 ∧ (∀ h16, h16 = ck_sI h 14 x2.toNatClampNeg (0 : Int32) → (vp_in x2 6 ∧ (∀ h18, h18 = ck_sI h16 15 x2.toNatClampNeg (0 : Int32) → (∀ v19, v19 = x2 + 1 → (wp_X12_text_77 Q K103 n) v19 h18)))))))
def wp_X12_text_127 (Q : Int32 → ck_H → Prop) (K149 : ck_H → Prop) : Nat → ck_H → Prop
  | 0 => fun _ => False
  | n + 1 => fun h => ((¬ (h.1 0 26) = 0 → K149 h) ∧ ((h.1 0 26) = 0 → (((h.1 0 24) = (4 : Int32) → K149 h) ∧ (¬ (h.1 0 24) = (4 : Int32) → (wp_X12_line h (fun h28 => (wp_X12_text_127 Q K149 n) h28))))))
def wp_X12_text_149 (Q : Int32 → ck_H → Prop) (h : ck_H) : Prop := (∀ h30, h30 = ck_sI h 0 28 (h.1 0 26) → (∀ h31, h31 = ck_sI h30 0 29 (h30.1 0 27) → (((h31.1 0 26) = 0 → (wp_X12_half 2 h31 (fun h33 => (wp_X12_half 3 h33 (fun h34 => (wp_X12_half 4 h34 (fun h35 => (wp_X12_half 5 h35 (fun h36 => (wp_X12_half 6 h36 (fun h37 => (wp_X12_half 7 h37 (fun h38 => (wp_X12_half 8 h38 (fun h39 => (wp_X12_half 9 h39 (fun h40 => (wp_X12_half 10 h40 (fun h41 => (wp_X12_half 11 h41 (fun h42 => (wp_X12_half 12 h42 (fun h43 => (wp_X12_half 13 h43 (fun h44 => (wp_X12_half 14 h44 (fun h45 => (wp_X12_half 15 h45 (fun h46 => (wp_X12_half 16 h46 (fun h47 => (wp_X12_half 17 h47 (fun h48 => (∀ h49, h49 = ck_sI h48 0 62 (0 : Int32) → (∀ h50, h50 = ck_sI h49 0 63 (-1 : Int32) → (∀ h51, h51 = ck_sI h50 0 44 (0 : Int32) → (∀ h52, h52 = ck_sI h51 0 45 (0 : Int32) → (wp_X12_begins h52 (fun h53 => Q (h53.1 0 20) h53))))))))))))))))))))))))))))))))))))))) ∧ (¬ (h31.1 0 26) = 0 → Q (-1 : Int32) h31))))
def wp_X12_text (x1 : Int32) (h : ck_H) (Q : Int32 → ck_H → Prop) : Prop := (∀ h1, h1 = ck_sI h 0 0 (0 : Int32) → ((x1 < 0 → Q (-2 : Int32) h1) ∧ (¬ x1 < 0 → ((x1 ≤ (h1.1 0 2) → (∀ h4, h4 = ck_sI h1 0 21 x1 → (∀ h5, h5 = ck_sI h4 0 2 (0 : Int32) → (∀ h6, h6 = ck_sI h5 0 22 (0 : Int32) → (∀ h7, h7 = ck_sI h6 0 26 (0 : Int32) → (∀ h8, h8 = ck_sI h7 0 27 (-1 : Int32) → wp_X12_text_47 Q (fun h13 => wp_X12_text_77 Q (fun h20 => (∀ h21, h21 = ck_sI h20 0 19 (0 : Int32) → (∀ h22, h22 = ck_sI h21 0 20 (0 : Int32) → (∀ h23, h23 = ck_sI h22 0 30 (0 : Int32) → (∀ h24, h24 = ck_sI h23 0 31 (0 : Int32) → (wp_X12_token h24 (fun h25 => wp_X12_text_127 Q (fun h29 => wp_X12_text_149 Q h29) lpN h25))))))) lpN (3 : Int32) h13) lpN (0 : Int32) h8)))))) ∧ (¬ x1 ≤ (h1.1 0 2) → Q (-2 : Int32) h1)))))
set_option maxHeartbeats 4000000 in
set_option maxRecDepth 100000 in
theorem cp_X12_text_66 {gr : Bool} {Q : Int32 → ck_H → Prop} {K75 : ck_H → Prop} {Kc : Int32 → ck_H → Prop} (hK75 : ∀ (h : ck_H), K75 h → ck_W cX12_text 3 RX12 (some .int) 927 0 0 false gr (ck_Qi ck_shM Q) ck_shM h 0 0 75 [(0, .ref 0)] []) (hKc : ∀ (x2 : Int32) (h : ck_H), Kc x2 h → ck_W cX12_text 3 RX12 (some .int) 927 0 0 false gr (ck_Qi ck_shM Q) ck_shM h 0 0 47 [(0, .ref 0), (2, .int x2)] []) : ∀ (x2 : Int32) (y1 : Int32) (y2 : Int32) (h : ck_H), wp_X12_text_66 Q K75 Kc x2 y1 y2 h → ck_W cX12_text 3 RX12 (some .int) 927 0 0 false gr (ck_Qi ck_shM Q) ck_shM h 0 0 66 [(0, .ref 0), (2, .int x2)] [.int y2, .int y1, .ref 0] := by
  intro x2 y1 y2 h hq
  refine ck_callV (c_X12_reads hq) rfl cal_X12_reads rfl ml_X12_236 vir_X12_reads rfl rfl (by decide) (Nat.le_of_ble_eq_true rfl) (Nat.le_of_ble_eq_true rfl) (by decide) (by decide) dX12_text_66 ?_
  rintro _ _ h11 ⟨rfl, rfl, hq⟩
  obtain ⟨v12, ev12⟩ : ∃ z : Int32, z = x2 + 1 := ⟨_, rfl⟩
  have hq := hq v12 ev12
  refine ck_iinc (v := v12) (lv' := [(2, .int v12), (0, .ref 0)]) 1 dX12_text_69 rfl (by rw [ev12]; rfl) (by decide) rfl ?_
  refine ck_goto (tgt := 47) dX12_text_72 (by decide) ?_
  refine ck_loc [1, 0] rfl ?_
  exact hKc _ _ hq
set_option maxHeartbeats 4000000 in
set_option maxRecDepth 100000 in
theorem cp_X12_text_47 {gr : Bool} {Q : Int32 → ck_H → Prop} {K75 : ck_H → Prop} (hK75 : ∀ (h : ck_H), K75 h → ck_W cX12_text 3 RX12 (some .int) 927 0 0 false gr (ck_Qi ck_shM Q) ck_shM h 0 0 75 [(0, .ref 0)] []) : ∀ (n : Nat) (x2 : Int32) (h : ck_H), wp_X12_text_47 Q K75 n x2 h → ck_W cX12_text 3 RX12 (some .int) 927 0 0 false gr (ck_Qi ck_shM Q) ck_shM h 0 0 47 [(0, .ref 0), (2, .int x2)] [] := by
  intro n
  induction n with
  | zero => intro x2 h hq; exact hq.elim
  | succ n hKc =>
    intro x2 h hq
    refine ck_iload_n 1 dX12_text_47 rfl rfl ?_
    refine ck_bipush (v := 7) dX12_text_48 (by decide) ?_
    refine ck_icmp_ge (tgt := 75) dX12_text_50 (by decide) (fun c9 => ?_) (fun c9 => ?_)
    · have hq := hq.1 c9
      refine ck_loc [0] rfl ?_
      exact hK75  _ hq
    · have hq := hq.2 c9
      refine ck_aload_n 0 dX12_text_53 rfl rfl ?_
      refine ck_iload_n 1 dX12_text_54 rfl rfl ?_
      refine ck_iload_n 1 dX12_text_55 rfl rfl ?_
      refine ck_iconst (v := 3) dX12_text_56 (by decide) ?_
      refine ck_icmp_ne (tgt := 65) dX12_text_57 (by decide) (fun c10 => ?_) (fun c10 => ?_)
      · have hq := hq.1 c10
        refine ck_iconst (v := 0) dX12_text_65 (by decide) ?_
        exact cp_X12_text_66 hK75 hKc _ _ _ _ hq
      · have hq := hq.2 c10
        refine ck_bipush (v := 50) dX12_text_60 (by decide) ?_
        refine ck_goto (tgt := 66) dX12_text_62 (by decide) ?_
        exact cp_X12_text_66 hK75 hKc _ _ _ _ hq
set_option maxHeartbeats 4000000 in
set_option maxRecDepth 100000 in
theorem cp_X12_text_77 {gr : Bool} {Q : Int32 → ck_H → Prop} {K103 : ck_H → Prop} (hK103 : ∀ (h : ck_H), K103 h → ck_W cX12_text 3 RX12 (some .int) 927 0 0 false gr (ck_Qi ck_shM Q) ck_shM h 0 0 103 [(0, .ref 0)] []) : ∀ (n : Nat) (x2 : Int32) (h : ck_H), wp_X12_text_77 Q K103 n x2 h → ck_W cX12_text 3 RX12 (some .int) 927 0 0 false gr (ck_Qi ck_shM Q) ck_shM h 0 0 77 [(0, .ref 0), (2, .int x2)] [] := by
  intro n
  induction n with
  | zero => intro x2 h hq; exact hq.elim
  | succ n hKc =>
    intro x2 h hq
    refine ck_iload_n 1 dX12_text_77 rfl rfl ?_
    refine ck_bipush (v := 6) dX12_text_78 (by decide) ?_
    refine ck_icmp_ge (tgt := 103) dX12_text_80 (by decide) (fun c14 => ?_) (fun c14 => ?_)
    · have hq := hq.1 c14
      refine ck_loc [0] rfl ?_
      exact hK103  _ hq
    · have hq := hq.2 c14
      refine ck_aload_n 0 dX12_text_83 rfl rfl ?_
      refine ck_getR clX12 15 rfl rfl (by decide) fl_X12_49 dX12_text_84 ?_
      refine ck_iload_n 1 dX12_text_87 rfl rfl ?_
      refine ck_iconst (v := 0) dX12_text_88 (by decide) ?_
      obtain ⟨b15, hq⟩ := hq
      refine ck_iast rfl rfl b15 dX12_text_89 ?_
      refine ck_nmH (fun h16 eh16 => ?_)
      have hq := hq h16 eh16
      refine ck_aload_n 0 dX12_text_90 rfl rfl ?_
      refine ck_getR clX12 16 rfl rfl (by decide) fl_X12_52 dX12_text_91 ?_
      refine ck_iload_n 1 dX12_text_94 rfl rfl ?_
      refine ck_iconst (v := 0) dX12_text_95 (by decide) ?_
      obtain ⟨b17, hq⟩ := hq
      refine ck_iast rfl rfl b17 dX12_text_96 ?_
      refine ck_nmH (fun h18 eh18 => ?_)
      have hq := hq h18 eh18
      obtain ⟨v19, ev19⟩ : ∃ z : Int32, z = x2 + 1 := ⟨_, rfl⟩
      have hq := hq v19 ev19
      refine ck_iinc (v := v19) (lv' := [(2, .int v19), (0, .ref 0)]) 1 dX12_text_97 rfl (by rw [ev19]; rfl) (by decide) rfl ?_
      refine ck_goto (tgt := 77) dX12_text_100 (by decide) ?_
      refine ck_loc [1, 0] rfl ?_
      exact hKc _ _ hq
set_option maxHeartbeats 4000000 in
set_option maxRecDepth 100000 in
theorem cp_X12_text_127 {gr : Bool} {Q : Int32 → ck_H → Prop} {K149 : ck_H → Prop} (hK149 : ∀ (h : ck_H), K149 h → ck_W cX12_text 3 RX12 (some .int) 927 0 0 false gr (ck_Qi ck_shM Q) ck_shM h 0 0 149 [(0, .ref 0)] []) : ∀ (n : Nat) (h : ck_H), wp_X12_text_127 Q K149 n h → ck_W cX12_text 3 RX12 (some .int) 927 0 0 false gr (ck_Qi ck_shM Q) ck_shM h 0 0 127 [(0, .ref 0)] [] := by
  intro n
  induction n with
  | zero => intro h hq; exact hq.elim
  | succ n hKc =>
    intro h hq
    refine ck_aload_n 0 dX12_text_127 rfl rfl ?_
    refine ck_getI clX12 26 rfl rfl (by decide) fl_X12_199 dX12_text_128 ?_
    refine ck_if_ne (tgt := 149) dX12_text_131 (by decide) (fun c26 => ?_) (fun c26 => ?_)
    · have hq := hq.1 c26
      exact hK149  _ hq
    · have hq := hq.2 c26
      refine ck_aload_n 0 dX12_text_134 rfl rfl ?_
      refine ck_getI clX12 24 rfl rfl (by decide) fl_X12_164 dX12_text_135 ?_
      refine ck_iconst (v := 4) dX12_text_138 (by decide) ?_
      refine ck_icmp_eq (tgt := 149) dX12_text_139 (by decide) (fun c27 => ?_) (fun c27 => ?_)
      · have hq := hq.1 c27
        exact hK149  _ hq
      · have hq := hq.2 c27
        refine ck_aload_n 0 dX12_text_142 rfl rfl ?_
        refine ck_callV (c_X12_line hq) rfl cal_X12_line rfl ml_X12_285 vir_X12_line rfl rfl (by decide) (Nat.le_of_ble_eq_true rfl) (Nat.le_of_ble_eq_true rfl) (by decide) (by decide) dX12_text_143 ?_
        rintro _ _ h28 ⟨rfl, rfl, hq⟩
        refine ck_goto (tgt := 127) dX12_text_146 (by decide) ?_
        exact hKc  _ hq
set_option maxHeartbeats 4000000 in
set_option maxRecDepth 100000 in
theorem cp_X12_text_149 {gr : Bool} {Q : Int32 → ck_H → Prop} : ∀ (h : ck_H), wp_X12_text_149 Q h → ck_W cX12_text 3 RX12 (some .int) 927 0 0 false gr (ck_Qi ck_shM Q) ck_shM h 0 0 149 [(0, .ref 0)] [] := by
  intro h hq
  refine ck_aload_n 0 dX12_text_149 rfl rfl ?_
  refine ck_aload_n 0 dX12_text_150 rfl rfl ?_
  refine ck_getI clX12 26 rfl rfl (by decide) fl_X12_199 dX12_text_151 ?_
  refine ck_putI clX12 28 rfl rfl (by decide) fl_X12_288 rfl rfl rfl dX12_text_154 ?_
  refine ck_nmH (fun h30 eh30 => ?_)
  have hq := hq h30 eh30
  refine ck_aload_n 0 dX12_text_157 rfl rfl ?_
  refine ck_aload_n 0 dX12_text_158 rfl rfl ?_
  refine ck_getI clX12 27 rfl rfl (by decide) fl_X12_202 dX12_text_159 ?_
  refine ck_putI clX12 29 rfl rfl (by decide) fl_X12_61 rfl rfl rfl dX12_text_162 ?_
  refine ck_nmH (fun h31 eh31 => ?_)
  have hq := hq h31 eh31
  refine ck_aload_n 0 dX12_text_165 rfl rfl ?_
  refine ck_getI clX12 26 rfl rfl (by decide) fl_X12_199 dX12_text_166 ?_
  refine ck_if_eq (tgt := 174) dX12_text_169 (by decide) (fun c32 => ?_) (fun c32 => ?_)
  · have hq := hq.1 c32
    refine ck_aload_n 0 dX12_text_174 rfl rfl ?_
    refine ck_getR clX12 3 rfl rfl (by decide) fl_X12_13 dX12_text_175 ?_
    refine ck_callS (c_X12_half (by simp) hq) rfl cal_X12_half rfl ml_X12_291 sta_X12_half (by decide) (Nat.le_of_ble_eq_true rfl) (Nat.le_of_ble_eq_true rfl) (by decide) (by decide) dX12_text_178 ?_
    rintro _ _ h33 ⟨rfl, rfl, hq⟩
    refine ck_aload_n 0 dX12_text_181 rfl rfl ?_
    refine ck_getR clX12 4 rfl rfl (by decide) fl_X12_16 dX12_text_182 ?_
    refine ck_callS (c_X12_half (by simp) hq) rfl cal_X12_half rfl ml_X12_291 sta_X12_half (by decide) (Nat.le_of_ble_eq_true rfl) (Nat.le_of_ble_eq_true rfl) (by decide) (by decide) dX12_text_185 ?_
    rintro _ _ h34 ⟨rfl, rfl, hq⟩
    refine ck_aload_n 0 dX12_text_188 rfl rfl ?_
    refine ck_getR clX12 5 rfl rfl (by decide) fl_X12_19 dX12_text_189 ?_
    refine ck_callS (c_X12_half (by simp) hq) rfl cal_X12_half rfl ml_X12_291 sta_X12_half (by decide) (Nat.le_of_ble_eq_true rfl) (Nat.le_of_ble_eq_true rfl) (by decide) (by decide) dX12_text_192 ?_
    rintro _ _ h35 ⟨rfl, rfl, hq⟩
    refine ck_aload_n 0 dX12_text_195 rfl rfl ?_
    refine ck_getR clX12 6 rfl rfl (by decide) fl_X12_22 dX12_text_196 ?_
    refine ck_callS (c_X12_half (by simp) hq) rfl cal_X12_half rfl ml_X12_291 sta_X12_half (by decide) (Nat.le_of_ble_eq_true rfl) (Nat.le_of_ble_eq_true rfl) (by decide) (by decide) dX12_text_199 ?_
    rintro _ _ h36 ⟨rfl, rfl, hq⟩
    refine ck_aload_n 0 dX12_text_202 rfl rfl ?_
    refine ck_getR clX12 7 rfl rfl (by decide) fl_X12_25 dX12_text_203 ?_
    refine ck_callS (c_X12_half (by simp) hq) rfl cal_X12_half rfl ml_X12_291 sta_X12_half (by decide) (Nat.le_of_ble_eq_true rfl) (Nat.le_of_ble_eq_true rfl) (by decide) (by decide) dX12_text_206 ?_
    rintro _ _ h37 ⟨rfl, rfl, hq⟩
    refine ck_aload_n 0 dX12_text_209 rfl rfl ?_
    refine ck_getR clX12 8 rfl rfl (by decide) fl_X12_28 dX12_text_210 ?_
    refine ck_callS (c_X12_half (by simp) hq) rfl cal_X12_half rfl ml_X12_291 sta_X12_half (by decide) (Nat.le_of_ble_eq_true rfl) (Nat.le_of_ble_eq_true rfl) (by decide) (by decide) dX12_text_213 ?_
    rintro _ _ h38 ⟨rfl, rfl, hq⟩
    refine ck_aload_n 0 dX12_text_216 rfl rfl ?_
    refine ck_getR clX12 9 rfl rfl (by decide) fl_X12_31 dX12_text_217 ?_
    refine ck_callS (c_X12_half (by simp) hq) rfl cal_X12_half rfl ml_X12_291 sta_X12_half (by decide) (Nat.le_of_ble_eq_true rfl) (Nat.le_of_ble_eq_true rfl) (by decide) (by decide) dX12_text_220 ?_
    rintro _ _ h39 ⟨rfl, rfl, hq⟩
    refine ck_aload_n 0 dX12_text_223 rfl rfl ?_
    refine ck_getR clX12 10 rfl rfl (by decide) fl_X12_34 dX12_text_224 ?_
    refine ck_callS (c_X12_half (by simp) hq) rfl cal_X12_half rfl ml_X12_291 sta_X12_half (by decide) (Nat.le_of_ble_eq_true rfl) (Nat.le_of_ble_eq_true rfl) (by decide) (by decide) dX12_text_227 ?_
    rintro _ _ h40 ⟨rfl, rfl, hq⟩
    refine ck_aload_n 0 dX12_text_230 rfl rfl ?_
    refine ck_getR clX12 11 rfl rfl (by decide) fl_X12_37 dX12_text_231 ?_
    refine ck_callS (c_X12_half (by simp) hq) rfl cal_X12_half rfl ml_X12_291 sta_X12_half (by decide) (Nat.le_of_ble_eq_true rfl) (Nat.le_of_ble_eq_true rfl) (by decide) (by decide) dX12_text_234 ?_
    rintro _ _ h41 ⟨rfl, rfl, hq⟩
    refine ck_aload_n 0 dX12_text_237 rfl rfl ?_
    refine ck_getR clX12 12 rfl rfl (by decide) fl_X12_40 dX12_text_238 ?_
    refine ck_callS (c_X12_half (by simp) hq) rfl cal_X12_half rfl ml_X12_291 sta_X12_half (by decide) (Nat.le_of_ble_eq_true rfl) (Nat.le_of_ble_eq_true rfl) (by decide) (by decide) dX12_text_241 ?_
    rintro _ _ h42 ⟨rfl, rfl, hq⟩
    refine ck_aload_n 0 dX12_text_244 rfl rfl ?_
    refine ck_getR clX12 13 rfl rfl (by decide) fl_X12_43 dX12_text_245 ?_
    refine ck_callS (c_X12_half (by simp) hq) rfl cal_X12_half rfl ml_X12_291 sta_X12_half (by decide) (Nat.le_of_ble_eq_true rfl) (Nat.le_of_ble_eq_true rfl) (by decide) (by decide) dX12_text_248 ?_
    rintro _ _ h43 ⟨rfl, rfl, hq⟩
    refine ck_aload_n 0 dX12_text_251 rfl rfl ?_
    refine ck_getR clX12 14 rfl rfl (by decide) fl_X12_46 dX12_text_252 ?_
    refine ck_callS (c_X12_half (by simp) hq) rfl cal_X12_half rfl ml_X12_291 sta_X12_half (by decide) (Nat.le_of_ble_eq_true rfl) (Nat.le_of_ble_eq_true rfl) (by decide) (by decide) dX12_text_255 ?_
    rintro _ _ h44 ⟨rfl, rfl, hq⟩
    refine ck_aload_n 0 dX12_text_258 rfl rfl ?_
    refine ck_getR clX12 15 rfl rfl (by decide) fl_X12_49 dX12_text_259 ?_
    refine ck_callS (c_X12_half (by simp) hq) rfl cal_X12_half rfl ml_X12_291 sta_X12_half (by decide) (Nat.le_of_ble_eq_true rfl) (Nat.le_of_ble_eq_true rfl) (by decide) (by decide) dX12_text_262 ?_
    rintro _ _ h45 ⟨rfl, rfl, hq⟩
    refine ck_aload_n 0 dX12_text_265 rfl rfl ?_
    refine ck_getR clX12 16 rfl rfl (by decide) fl_X12_52 dX12_text_266 ?_
    refine ck_callS (c_X12_half (by simp) hq) rfl cal_X12_half rfl ml_X12_291 sta_X12_half (by decide) (Nat.le_of_ble_eq_true rfl) (Nat.le_of_ble_eq_true rfl) (by decide) (by decide) dX12_text_269 ?_
    rintro _ _ h46 ⟨rfl, rfl, hq⟩
    refine ck_aload_n 0 dX12_text_272 rfl rfl ?_
    refine ck_getR clX12 17 rfl rfl (by decide) fl_X12_55 dX12_text_273 ?_
    refine ck_callS (c_X12_half (by simp) hq) rfl cal_X12_half rfl ml_X12_291 sta_X12_half (by decide) (Nat.le_of_ble_eq_true rfl) (Nat.le_of_ble_eq_true rfl) (by decide) (by decide) dX12_text_276 ?_
    rintro _ _ h47 ⟨rfl, rfl, hq⟩
    refine ck_aload_n 0 dX12_text_279 rfl rfl ?_
    refine ck_getR clX12 18 rfl rfl (by decide) fl_X12_58 dX12_text_280 ?_
    refine ck_callS (c_X12_half (by simp) hq) rfl cal_X12_half rfl ml_X12_291 sta_X12_half (by decide) (Nat.le_of_ble_eq_true rfl) (Nat.le_of_ble_eq_true rfl) (by decide) (by decide) dX12_text_283 ?_
    rintro _ _ h48 ⟨rfl, rfl, hq⟩
    refine ck_aload_n 0 dX12_text_286 rfl rfl ?_
    refine ck_iconst (v := 0) dX12_text_287 (by decide) ?_
    refine ck_putI clX12 62 rfl rfl (by decide) fl_X12_295 rfl rfl rfl dX12_text_288 ?_
    refine ck_nmH (fun h49 eh49 => ?_)
    have hq := hq h49 eh49
    refine ck_aload_n 0 dX12_text_291 rfl rfl ?_
    refine ck_iconst (v := -1) dX12_text_292 (by decide) ?_
    refine ck_putI clX12 63 rfl rfl (by decide) fl_X12_123 rfl rfl rfl dX12_text_293 ?_
    refine ck_nmH (fun h50 eh50 => ?_)
    have hq := hq h50 eh50
    refine ck_aload_n 0 dX12_text_296 rfl rfl ?_
    refine ck_iconst (v := 0) dX12_text_297 (by decide) ?_
    refine ck_putI clX12 44 rfl rfl (by decide) fl_X12_298 rfl (by decide) (by decide) dX12_text_298 ?_
    refine ck_nmH (fun h51 eh51 => ?_)
    have hq := hq h51 eh51
    refine ck_aload_n 0 dX12_text_301 rfl rfl ?_
    refine ck_iconst (v := 0) dX12_text_302 (by decide) ?_
    refine ck_putI clX12 45 rfl rfl (by decide) fl_X12_302 rfl rfl rfl dX12_text_303 ?_
    refine ck_nmH (fun h52 eh52 => ?_)
    have hq := hq h52 eh52
    refine ck_aload_n 0 dX12_text_306 rfl rfl ?_
    refine ck_callV (c_X12_begins hq) rfl cal_X12_begins rfl ml_X12_142 vir_X12_begins rfl rfl (by decide) (Nat.le_of_ble_eq_true rfl) (Nat.le_of_ble_eq_true rfl) (by decide) (by decide) dX12_text_307 ?_
    rintro _ _ h53 ⟨rfl, rfl, hq⟩
    refine ck_aload_n 0 dX12_text_310 rfl rfl ?_
    refine ck_getI clX12 20 rfl rfl (by decide) fl_X12_249 dX12_text_311 ?_
    exact ck_iret rfl rfl rfl rfl dX12_text_314 ⟨_, rfl, rfl, hq⟩
  · have hq := hq.2 c32
    refine ck_iconst (v := -1) dX12_text_172 (by decide) ?_
    exact ck_iret rfl rfl rfl rfl dX12_text_173 ⟨_, rfl, rfl, hq⟩
set_option maxHeartbeats 4000000 in
set_option maxRecDepth 100000 in
theorem c_X12_text {gr : Bool} {x1 : Int32} {h : ck_H} {Q : Int32 → ck_H → Prop} (hq : wp_X12_text x1 h Q) : ck_M yX12_text cX12_text 3 (some .int) 927 0 0 gr ck_shM h [.ref 0, .int x1] (ck_Qi ck_shM Q) := by
  refine ck_entry (lv := [(0, .ref 0), (1, .int x1)]) false (own := RX12) rfl (fun q => by cases q) (by decide) (Nat.le_of_ble_eq_true rfl) rfl ?_
  refine ck_aload_n 0 dX12_text_0 rfl rfl ?_
  refine ck_iconst (v := 0) dX12_text_1 (by decide) ?_
  refine ck_putI clX12 0 rfl rfl (by decide) fl_X12_145 rfl rfl rfl dX12_text_2 ?_
  refine ck_nmH (fun h1 eh1 => ?_)
  have hq := hq h1 eh1
  refine ck_iload_n 1 dX12_text_5 rfl rfl ?_
  refine ck_if_lt (tgt := 17) dX12_text_6 (by decide) (fun c2 => ?_) (fun c2 => ?_)
  · have hq := hq.1 c2
    refine ck_bipush (v := -2) dX12_text_17 (by decide) ?_
    exact ck_iret rfl rfl rfl rfl dX12_text_19 ⟨_, rfl, rfl, hq⟩
  · have hq := hq.2 c2
    refine ck_iload_n 1 dX12_text_9 rfl rfl ?_
    refine ck_aload_n 0 dX12_text_10 rfl rfl ?_
    refine ck_getI clX12 2 rfl rfl (by decide) fl_X12_148 dX12_text_11 ?_
    refine ck_icmp_le (tgt := 20) dX12_text_14 (by decide) (fun c3 => ?_) (fun c3 => ?_)
    · have hq := hq.1 c3
      refine ck_aload_n 0 dX12_text_20 rfl rfl ?_
      refine ck_iload_n 1 dX12_text_21 rfl rfl ?_
      refine ck_putI clX12 21 rfl rfl (by decide) fl_X12_154 rfl rfl rfl dX12_text_22 ?_
      refine ck_nmH (fun h4 eh4 => ?_)
      have hq := hq h4 eh4
      refine ck_aload_n 0 dX12_text_25 rfl rfl ?_
      refine ck_iconst (v := 0) dX12_text_26 (by decide) ?_
      refine ck_putI clX12 2 rfl rfl (by decide) fl_X12_148 rfl rfl rfl dX12_text_27 ?_
      refine ck_nmH (fun h5 eh5 => ?_)
      have hq := hq h5 eh5
      refine ck_aload_n 0 dX12_text_30 rfl rfl ?_
      refine ck_iconst (v := 0) dX12_text_31 (by decide) ?_
      refine ck_putI clX12 22 rfl rfl (by decide) fl_X12_151 rfl rfl rfl dX12_text_32 ?_
      refine ck_nmH (fun h6 eh6 => ?_)
      have hq := hq h6 eh6
      refine ck_aload_n 0 dX12_text_35 rfl rfl ?_
      refine ck_iconst (v := 0) dX12_text_36 (by decide) ?_
      refine ck_putI clX12 26 rfl rfl (by decide) fl_X12_199 rfl rfl rfl dX12_text_37 ?_
      refine ck_nmH (fun h7 eh7 => ?_)
      have hq := hq h7 eh7
      refine ck_aload_n 0 dX12_text_40 rfl rfl ?_
      refine ck_iconst (v := -1) dX12_text_41 (by decide) ?_
      refine ck_putI clX12 27 rfl rfl (by decide) fl_X12_202 rfl rfl rfl dX12_text_42 ?_
      refine ck_nmH (fun h8 eh8 => ?_)
      have hq := hq h8 eh8
      refine ck_iconst (v := 0) dX12_text_45 (by decide) ?_
      refine ck_istore_n (lv' := [(2, .int (0 : Int32)), (0, .ref 0), (1, .int x1)]) dX12_text_46 rfl (by decide) rfl ?_
      refine ck_loc [1, 0] rfl ?_
      refine cp_X12_text_47 (fun h13 hq => ?_) lpN _ _ hq
      · refine ck_iconst (v := 3) dX12_text_75 (by decide) ?_
        refine ck_istore_n (lv' := [(2, .int (3 : Int32)), (0, .ref 0)]) dX12_text_76 rfl (by decide) rfl ?_
        refine ck_loc [1, 0] rfl ?_
        refine cp_X12_text_77 (fun h20 hq => ?_) lpN _ _ hq
        · refine ck_aload_n 0 dX12_text_103 rfl rfl ?_
          refine ck_iconst (v := 0) dX12_text_104 (by decide) ?_
          refine ck_putI clX12 19 rfl rfl (by decide) fl_X12_225 rfl rfl rfl dX12_text_105 ?_
          refine ck_nmH (fun h21 eh21 => ?_)
          have hq := hq h21 eh21
          refine ck_aload_n 0 dX12_text_108 rfl rfl ?_
          refine ck_iconst (v := 0) dX12_text_109 (by decide) ?_
          refine ck_putI clX12 20 rfl rfl (by decide) fl_X12_249 rfl rfl rfl dX12_text_110 ?_
          refine ck_nmH (fun h22 eh22 => ?_)
          have hq := hq h22 eh22
          refine ck_aload_n 0 dX12_text_113 rfl rfl ?_
          refine ck_iconst (v := 0) dX12_text_114 (by decide) ?_
          refine ck_putI clX12 30 rfl rfl (by decide) fl_X12_282 rfl rfl rfl dX12_text_115 ?_
          refine ck_nmH (fun h23 eh23 => ?_)
          have hq := hq h23 eh23
          refine ck_aload_n 0 dX12_text_118 rfl rfl ?_
          refine ck_iconst (v := 0) dX12_text_119 (by decide) ?_
          refine ck_putI clX12 31 rfl rfl (by decide) fl_X12_255 rfl rfl rfl dX12_text_120 ?_
          refine ck_nmH (fun h24 eh24 => ?_)
          have hq := hq h24 eh24
          refine ck_aload_n 0 dX12_text_123 rfl rfl ?_
          refine ck_callV (c_X12_token hq) rfl cal_X12_token rfl ml_X12_205 vir_X12_token rfl rfl (by decide) (Nat.le_of_ble_eq_true rfl) (Nat.le_of_ble_eq_true rfl) (by decide) (by decide) dX12_text_124 ?_
          rintro _ _ h25 ⟨rfl, rfl, hq⟩
          refine cp_X12_text_127 (fun h29 hq => ?_) lpN  _ hq
          · exact cp_X12_text_149  _ hq
    · have hq := hq.2 c3
      refine ck_bipush (v := -2) dX12_text_17 (by decide) ?_
      exact ck_iret rfl rfl rfl rfl dX12_text_19 ⟨_, rfl, rfl, hq⟩
def wp_X12_fault (x1 : Int32) (h : ck_H) (Q : Int32 → ck_H → Prop) : Prop := (∀ h1, h1 = ck_sI h 0 0 (0 : Int32) → ((¬ x1 = 0 → ((¬ x1 = (1 : Int32) → Q (-1 : Int32) h1) ∧ (x1 = (1 : Int32) → Q (h1.1 0 29) h1))) ∧ (x1 = 0 → Q (h1.1 0 28) h1)))
set_option maxHeartbeats 4000000 in
set_option maxRecDepth 100000 in
theorem c_X12_fault {gr : Bool} {x1 : Int32} {h : ck_H} {Q : Int32 → ck_H → Prop} (hq : wp_X12_fault x1 h Q) : ck_M yX12_fault cX12_fault 2 (some .int) 2 0 0 gr ck_shM h [.ref 0, .int x1] (ck_Qi ck_shM Q) := by
  refine ck_entry (lv := [(0, .ref 0), (1, .int x1)]) false (own := RX12) rfl (fun q => by cases q) (by decide) (Nat.le_of_ble_eq_true rfl) rfl ?_
  refine ck_aload_n 0 dX12_fault_0 rfl rfl ?_
  refine ck_iconst (v := 0) dX12_fault_1 (by decide) ?_
  refine ck_putI clX12 0 rfl rfl (by decide) fl_X12_145 rfl rfl rfl dX12_fault_2 ?_
  refine ck_nmH (fun h1 eh1 => ?_)
  have hq := hq h1 eh1
  refine ck_iload_n 1 dX12_fault_5 rfl rfl ?_
  refine ck_if_ne (tgt := 16) dX12_fault_6 (by decide) (fun c2 => ?_) (fun c2 => ?_)
  · have hq := hq.1 c2
    refine ck_iload_n 1 dX12_fault_16 rfl rfl ?_
    refine ck_iconst (v := 1) dX12_fault_17 (by decide) ?_
    refine ck_icmp_ne (tgt := 28) dX12_fault_18 (by decide) (fun c3 => ?_) (fun c3 => ?_)
    · have hq := hq.1 c3
      refine ck_iconst (v := -1) dX12_fault_28 (by decide) ?_
      exact ck_iret rfl rfl rfl rfl dX12_fault_29 ⟨_, rfl, rfl, hq⟩
    · have hq := hq.2 c3
      refine ck_aload_n 0 dX12_fault_21 rfl rfl ?_
      refine ck_getI clX12 29 rfl rfl (by decide) fl_X12_61 dX12_fault_22 ?_
      refine ck_goto (tgt := 29) dX12_fault_25 (by decide) ?_
      exact ck_iret rfl rfl rfl rfl dX12_fault_29 ⟨_, rfl, rfl, hq⟩
  · have hq := hq.2 c2
    refine ck_aload_n 0 dX12_fault_9 rfl rfl ?_
    refine ck_getI clX12 28 rfl rfl (by decide) fl_X12_288 dX12_fault_10 ?_
    refine ck_goto (tgt := 29) dX12_fault_13 (by decide) ?_
    exact ck_iret rfl rfl rfl rfl dX12_fault_29 ⟨_, rfl, rfl, hq⟩
def wp_X12_named (x1 : Int32) (x2 : Int32) (h : ck_H) (Q : Int32 → ck_H → Prop) : Prop := (∀ h1, h1 = ck_sI h 0 0 (0 : Int32) → ((x1 = 0 → (wp_X12_found 3 (0 : Int32) (h1.1 2 0) x2 h1 (fun r4 h3 => Q r4 h3))) ∧ (¬ x1 = 0 → ((x1 = 1 → (wp_X12_found 6 (0 : Int32) (h1.1 2 1) x2 h1 (fun r7 h6 => Q r7 h6))) ∧ (¬ x1 = 1 → ((x1 = 2 → (wp_X12_found 10 (0 : Int32) (h1.1 2 2) x2 h1 (fun r10 h9 => Q r10 h9))) ∧ (¬ x1 = 2 → Q (-1 : Int32) h1)))))))
set_option maxHeartbeats 4000000 in
set_option maxRecDepth 100000 in
theorem c_X12_named {gr : Bool} {x1 : Int32} {x2 : Int32} {h : ck_H} {Q : Int32 → ck_H → Prop} (hq : wp_X12_named x1 x2 h Q) : ck_M yX12_named cX12_named 3 (some .int) 3 0 0 gr ck_shM h [.ref 0, .int x1, .int x2] (ck_Qi ck_shM Q) := by
  refine ck_entry (lv := [(0, .ref 0), (1, .int x1), (2, .int x2)]) false (own := RX12) rfl (fun q => by cases q) (by decide) (Nat.le_of_ble_eq_true rfl) rfl ?_
  refine ck_aload_n 0 dX12_named_0 rfl rfl ?_
  refine ck_iconst (v := 0) dX12_named_1 (by decide) ?_
  refine ck_putI clX12 0 rfl rfl (by decide) fl_X12_145 rfl rfl rfl dX12_named_2 ?_
  refine ck_nmH (fun h1 eh1 => ?_)
  have hq := hq h1 eh1
  refine ck_iload_n 1 dX12_named_5 rfl rfl ?_
  by_cases c2 : x1 = 0
  · have hq := hq.1 c2
    refine ck_tabIn (tgt := 32) dX12_named_6 (by rw [c2]; decide) (by rw [c2]; decide) (by rw [c2]; rfl) (by decide) ?_
    refine ck_aload_n 0 dX12_named_32 rfl rfl ?_
    refine ck_getR clX12 4 rfl rfl (by decide) fl_X12_16 dX12_named_33 ?_
    refine ck_iconst (v := 0) dX12_named_36 (by decide) ?_
    refine ck_aload_n 0 dX12_named_37 rfl rfl ?_
    refine ck_getR clX12 3 rfl rfl (by decide) fl_X12_13 dX12_named_38 ?_
    refine ck_iconst (v := 0) dX12_named_41 (by decide) ?_
    refine ck_iald (j := 0) (by decide) rfl (ck_inL (by decide)) dX12_named_42 ?_
    refine ck_iload_n 2 dX12_named_43 rfl rfl ?_
    refine ck_callS (c_X12_found (by simp) hq) rfl cal_X12_found rfl ml_X12_211 sta_X12_found (by decide) (Nat.le_of_ble_eq_true rfl) (Nat.le_of_ble_eq_true rfl) (by decide) (by decide) dX12_named_44 ?_
    rintro _ _ h3 ⟨r4, rfl, rfl, hq⟩
    exact ck_iret rfl rfl rfl rfl dX12_named_47 ⟨_, rfl, rfl, hq⟩
  have hq := hq.2 c2
  by_cases c5 : x1 = 1
  · have hq := hq.1 c5
    refine ck_tabIn (tgt := 48) dX12_named_6 (by rw [c5]; decide) (by rw [c5]; decide) (by rw [c5]; rfl) (by decide) ?_
    refine ck_aload_n 0 dX12_named_48 rfl rfl ?_
    refine ck_getR clX12 7 rfl rfl (by decide) fl_X12_25 dX12_named_49 ?_
    refine ck_iconst (v := 0) dX12_named_52 (by decide) ?_
    refine ck_aload_n 0 dX12_named_53 rfl rfl ?_
    refine ck_getR clX12 3 rfl rfl (by decide) fl_X12_13 dX12_named_54 ?_
    refine ck_iconst (v := 1) dX12_named_57 (by decide) ?_
    refine ck_iald (j := 1) (by decide) rfl (ck_inL (by decide)) dX12_named_58 ?_
    refine ck_iload_n 2 dX12_named_59 rfl rfl ?_
    refine ck_callS (c_X12_found (by simp) hq) rfl cal_X12_found rfl ml_X12_211 sta_X12_found (by decide) (Nat.le_of_ble_eq_true rfl) (Nat.le_of_ble_eq_true rfl) (by decide) (by decide) dX12_named_60 ?_
    rintro _ _ h6 ⟨r7, rfl, rfl, hq⟩
    exact ck_iret rfl rfl rfl rfl dX12_named_63 ⟨_, rfl, rfl, hq⟩
  have hq := hq.2 c5
  by_cases c8 : x1 = 2
  · have hq := hq.1 c8
    refine ck_tabIn (tgt := 64) dX12_named_6 (by rw [c8]; decide) (by rw [c8]; decide) (by rw [c8]; rfl) (by decide) ?_
    refine ck_aload_n 0 dX12_named_64 rfl rfl ?_
    refine ck_getR clX12 11 rfl rfl (by decide) fl_X12_37 dX12_named_65 ?_
    refine ck_iconst (v := 0) dX12_named_68 (by decide) ?_
    refine ck_aload_n 0 dX12_named_69 rfl rfl ?_
    refine ck_getR clX12 3 rfl rfl (by decide) fl_X12_13 dX12_named_70 ?_
    refine ck_iconst (v := 2) dX12_named_73 (by decide) ?_
    refine ck_iald (j := 2) (by decide) rfl (ck_inL (by decide)) dX12_named_74 ?_
    refine ck_iload_n 2 dX12_named_75 rfl rfl ?_
    refine ck_callS (c_X12_found (by simp) hq) rfl cal_X12_found rfl ml_X12_211 sta_X12_found (by decide) (Nat.le_of_ble_eq_true rfl) (Nat.le_of_ble_eq_true rfl) (by decide) (by decide) dX12_named_76 ?_
    rintro _ _ h9 ⟨r10, rfl, rfl, hq⟩
    exact ck_iret rfl rfl rfl rfl dX12_named_79 ⟨_, rfl, rfl, hq⟩
  have hq := hq.2 c8
  refine ck_tabOut (tgt := 80) dX12_named_6 (by have z0 := lv_neT c2 (a := 0) (by decide); have z1 := lv_neT c5 (a := 1) (by decide); have z2 := lv_neT c8 (a := 2) (by decide); omega) (by decide) ?_
  refine ck_iconst (v := -1) dX12_named_80 (by decide) ?_
  exact ck_iret rfl rfl rfl rfl dX12_named_81 ⟨_, rfl, rfl, hq⟩
