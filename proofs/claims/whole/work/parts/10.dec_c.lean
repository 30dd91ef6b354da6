theorem dX12_init_0 : decode cX12_init 0 = .ok (.aload_n 0, 1) := by decide +kernel
theorem dX12_init_1 : decode cX12_init 1 = .ok (.invokespecial 7, 3) := by decide +kernel
theorem dX12_init_4 : decode cX12_init 4 = .ok (.aload_n 0, 1) := by decide +kernel
theorem dX12_init_5 : decode cX12_init 5 = .ok (.sipush 2000, 3) := by decide +kernel
theorem dX12_init_8 : decode cX12_init 8 = .ok (.newarray .byte, 2) := by decide +kernel
theorem dX12_init_10 : decode cX12_init 10 = .ok (.putfield 13, 3) := by decide +kernel
theorem dX12_init_13 : decode cX12_init 13 = .ok (.aload_n 0, 1) := by decide +kernel
theorem dX12_init_14 : decode cX12_init 14 = .ok (.sipush 2000, 3) := by decide +kernel
theorem dX12_init_17 : decode cX12_init 17 = .ok (.newarray .byte, 2) := by decide +kernel
theorem dX12_init_19 : decode cX12_init 19 = .ok (.putfield 17, 3) := by decide +kernel
theorem dX12_init_22 : decode cX12_init 22 = .ok (.aload_n 0, 1) := by decide +kernel
theorem dX12_init_23 : decode cX12_init 23 = .ok (.sipush 403, 3) := by decide +kernel
theorem dX12_init_26 : decode cX12_init 26 = .ok (.newarray .int, 2) := by decide +kernel
theorem dX12_init_28 : decode cX12_init 28 = .ok (.putfield 20, 3) := by decide +kernel
theorem dX12_init_31 : decode cX12_init 31 = .ok (.aload_n 0, 1) := by decide +kernel
theorem dX12_init_32 : decode cX12_init 32 = .ok (.sipush 403, 3) := by decide +kernel
theorem dX12_init_35 : decode cX12_init 35 = .ok (.newarray .int, 2) := by decide +kernel
theorem dX12_init_37 : decode cX12_init 37 = .ok (.putfield 24, 3) := by decide +kernel
theorem dX12_init_40 : decode cX12_init 40 = .ok (.aload_n 0, 1) := by decide +kernel
theorem dX12_init_41 : decode cX12_init 41 = .ok (.sipush 403, 3) := by decide +kernel
theorem dX12_init_44 : decode cX12_init 44 = .ok (.newarray .int, 2) := by decide +kernel
theorem dX12_init_46 : decode cX12_init 46 = .ok (.putfield 27, 3) := by decide +kernel
theorem dX12_init_49 : decode cX12_init 49 = .ok (.aload_n 0, 1) := by decide +kernel
theorem dX12_init_50 : decode cX12_init 50 = .ok (.sipush 403, 3) := by decide +kernel
theorem dX12_init_53 : decode cX12_init 53 = .ok (.newarray .long, 2) := by decide +kernel
theorem dX12_init_55 : decode cX12_init 55 = .ok (.putfield 30, 3) := by decide +kernel
theorem dX12_init_58 : decode cX12_init 58 = .ok (.aload_n 0, 1) := by decide +kernel
theorem dX12_init_59 : decode cX12_init 59 = .ok (.bipush 11, 2) := by decide +kernel
theorem dX12_init_61 : decode cX12_init 61 = .ok (.newarray .long, 2) := by decide +kernel
theorem dX12_init_63 : decode cX12_init 63 = .ok (.putfield 34, 3) := by decide +kernel
theorem dX12_init_66 : decode cX12_init 66 = .ok (.aload_n 0, 1) := by decide +kernel
theorem dX12_init_67 : decode cX12_init 67 = .ok (.iconst (-1), 1) := by decide +kernel
theorem dX12_init_68 : decode cX12_init 68 = .ok (.putfield 37, 3) := by decide +kernel
theorem dX12_init_71 : decode cX12_init 71 = .ok (.aload_n 0, 1) := by decide +kernel
theorem dX12_init_72 : decode cX12_init 72 = .ok (.sipush 210, 3) := by decide +kernel
theorem dX12_init_75 : decode cX12_init 75 = .ok (.newarray .int, 2) := by decide +kernel
theorem dX12_init_77 : decode cX12_init 77 = .ok (.putfield 40, 3) := by decide +kernel
theorem dX12_init_80 : decode cX12_init 80 = .ok (.aload_n 0, 1) := by decide +kernel
theorem dX12_init_81 : decode cX12_init 81 = .ok (.sipush 210, 3) := by decide +kernel
theorem dX12_init_84 : decode cX12_init 84 = .ok (.newarray .int, 2) := by decide +kernel
theorem dX12_init_86 : decode cX12_init 86 = .ok (.putfield 43, 3) := by decide +kernel
theorem dX12_init_89 : decode cX12_init 89 = .ok (.aload_n 0, 1) := by decide +kernel
theorem dX12_init_90 : decode cX12_init 90 = .ok (.sipush 210, 3) := by decide +kernel
theorem dX12_init_93 : decode cX12_init 93 = .ok (.newarray .int, 2) := by decide +kernel
theorem dX12_init_95 : decode cX12_init 95 = .ok (.putfield 46, 3) := by decide +kernel
theorem dX12_init_98 : decode cX12_init 98 = .ok (.aload_n 0, 1) := by decide +kernel
theorem dX12_init_99 : decode cX12_init 99 = .ok (.sipush 210, 3) := by decide +kernel
theorem dX12_init_102 : decode cX12_init 102 = .ok (.newarray .int, 2) := by decide +kernel
theorem dX12_init_104 : decode cX12_init 104 = .ok (.putfield 49, 3) := by decide +kernel
theorem dX12_init_107 : decode cX12_init 107 = .ok (.aload_n 0, 1) := by decide +kernel
theorem dX12_init_108 : decode cX12_init 108 = .ok (.sipush 210, 3) := by decide +kernel
theorem dX12_init_111 : decode cX12_init 111 = .ok (.newarray .int, 2) := by decide +kernel
theorem dX12_init_113 : decode cX12_init 113 = .ok (.putfield 52, 3) := by decide +kernel
theorem dX12_init_116 : decode cX12_init 116 = .ok (.aload_n 0, 1) := by decide +kernel
theorem dX12_init_117 : decode cX12_init 117 = .ok (.iconst 3, 1) := by decide +kernel
theorem dX12_init_118 : decode cX12_init 118 = .ok (.newarray .int, 2) := by decide +kernel
theorem dX12_init_120 : decode cX12_init 120 = .ok (.putfield 55, 3) := by decide +kernel
theorem dX12_init_123 : decode cX12_init 123 = .ok (.aload_n 0, 1) := by decide +kernel
theorem dX12_init_124 : decode cX12_init 124 = .ok (.sipush 420, 3) := by decide +kernel
theorem dX12_init_127 : decode cX12_init 127 = .ok (.newarray .int, 2) := by decide +kernel
theorem dX12_init_129 : decode cX12_init 129 = .ok (.putfield 58, 3) := by decide +kernel
theorem dX12_init_132 : decode cX12_init 132 = .ok (.aload_n 0, 1) := by decide +kernel
theorem dX12_init_133 : decode cX12_init 133 = .ok (.sipush 420, 3) := by decide +kernel
theorem dX12_init_136 : decode cX12_init 136 = .ok (.newarray .int, 2) := by decide +kernel
theorem dX12_init_138 : decode cX12_init 138 = .ok (.putfield 61, 3) := by decide +kernel
theorem dX12_init_141 : decode cX12_init 141 = .ok (.aload_n 0, 1) := by decide +kernel
theorem dX12_init_142 : decode cX12_init 142 = .ok (.bipush 64, 2) := by decide +kernel
theorem dX12_init_144 : decode cX12_init 144 = .ok (.newarray .int, 2) := by decide +kernel
theorem dX12_init_146 : decode cX12_init 146 = .ok (.putfield 64, 3) := by decide +kernel
theorem dX12_init_149 : decode cX12_init 149 = .ok (.aload_n 0, 1) := by decide +kernel
theorem dX12_init_150 : decode cX12_init 150 = .ok (.bipush 6, 2) := by decide +kernel
theorem dX12_init_152 : decode cX12_init 152 = .ok (.newarray .int, 2) := by decide +kernel
theorem dX12_init_154 : decode cX12_init 154 = .ok (.putfield 67, 3) := by decide +kernel
theorem dX12_init_157 : decode cX12_init 157 = .ok (.aload_n 0, 1) := by decide +kernel
theorem dX12_init_158 : decode cX12_init 158 = .ok (.sipush 400, 3) := by decide +kernel
theorem dX12_init_161 : decode cX12_init 161 = .ok (.newarray .int, 2) := by decide +kernel
theorem dX12_init_163 : decode cX12_init 163 = .ok (.putfield 70, 3) := by decide +kernel
theorem dX12_init_166 : decode cX12_init 166 = .ok (.aload_n 0, 1) := by decide +kernel
theorem dX12_init_167 : decode cX12_init 167 = .ok (.iconst 3, 1) := by decide +kernel
theorem dX12_init_168 : decode cX12_init 168 = .ok (.newarray .int, 2) := by decide +kernel
theorem dX12_init_170 : decode cX12_init 170 = .ok (.putfield 73, 3) := by decide +kernel
theorem dX12_init_173 : decode cX12_init 173 = .ok (.aload_n 0, 1) := by decide +kernel
theorem dX12_init_174 : decode cX12_init 174 = .ok (.ldc 76, 2) := by decide +kernel
theorem dX12_init_176 : decode cX12_init 176 = .ok (.newarray .int, 2) := by decide +kernel
theorem dX12_init_178 : decode cX12_init 178 = .ok (.putfield 77, 3) := by decide +kernel
theorem dX12_init_181 : decode cX12_init 181 = .ok (.aload_n 0, 1) := by decide +kernel
theorem dX12_init_182 : decode cX12_init 182 = .ok (.bipush 40, 2) := by decide +kernel
theorem dX12_init_184 : decode cX12_init 184 = .ok (.newarray .int, 2) := by decide +kernel
theorem dX12_init_186 : decode cX12_init 186 = .ok (.putfield 80, 3) := by decide +kernel
theorem dX12_init_189 : decode cX12_init 189 = .ok (.aload_n 0, 1) := by decide +kernel
theorem dX12_init_190 : decode cX12_init 190 = .ok (.bipush 40, 2) := by decide +kernel
theorem dX12_init_192 : decode cX12_init 192 = .ok (.newarray .int, 2) := by decide +kernel
theorem dX12_init_194 : decode cX12_init 194 = .ok (.putfield 83, 3) := by decide +kernel
theorem dX12_init_197 : decode cX12_init 197 = .ok (.aload_n 0, 1) := by decide +kernel
theorem dX12_init_198 : decode cX12_init 198 = .ok (.bipush 40, 2) := by decide +kernel
theorem dX12_init_200 : decode cX12_init 200 = .ok (.newarray .int, 2) := by decide +kernel
theorem dX12_init_202 : decode cX12_init 202 = .ok (.putfield 86, 3) := by decide +kernel
theorem dX12_init_205 : decode cX12_init 205 = .ok (.aload_n 0, 1) := by decide +kernel
theorem dX12_init_206 : decode cX12_init 206 = .ok (.bipush 40, 2) := by decide +kernel
theorem dX12_init_208 : decode cX12_init 208 = .ok (.newarray .int, 2) := by decide +kernel
theorem dX12_init_210 : decode cX12_init 210 = .ok (.putfield 89, 3) := by decide +kernel
theorem dX12_init_213 : decode cX12_init 213 = .ok (.aload_n 0, 1) := by decide +kernel
theorem dX12_init_214 : decode cX12_init 214 = .ok (.sipush 1000, 3) := by decide +kernel
theorem dX12_init_217 : decode cX12_init 217 = .ok (.newarray .int, 2) := by decide +kernel
theorem dX12_init_219 : decode cX12_init 219 = .ok (.putfield 92, 3) := by decide +kernel
theorem dX12_init_222 : decode cX12_init 222 = .ok (.aload_n 0, 1) := by decide +kernel
theorem dX12_init_223 : decode cX12_init 223 = .ok (.sipush 1000, 3) := by decide +kernel
theorem dX12_init_226 : decode cX12_init 226 = .ok (.newarray .int, 2) := by decide +kernel
theorem dX12_init_228 : decode cX12_init 228 = .ok (.putfield 95, 3) := by decide +kernel
theorem dX12_init_231 : decode cX12_init 231 = .ok (.aload_n 0, 1) := by decide +kernel
theorem dX12_init_232 : decode cX12_init 232 = .ok (.sipush 7800, 3) := by decide +kernel
theorem dX12_init_235 : decode cX12_init 235 = .ok (.newarray .int, 2) := by decide +kernel
theorem dX12_init_237 : decode cX12_init 237 = .ok (.putfield 98, 3) := by decide +kernel
theorem dX12_init_240 : decode cX12_init 240 = .ok (.aload_n 0, 1) := by decide +kernel
theorem dX12_init_241 : decode cX12_init 241 = .ok (.sipush 330, 3) := by decide +kernel
theorem dX12_init_244 : decode cX12_init 244 = .ok (.newarray .int, 2) := by decide +kernel
theorem dX12_init_246 : decode cX12_init 246 = .ok (.putfield 101, 3) := by decide +kernel
theorem dX12_init_249 : decode cX12_init 249 = .ok (.aload_n 0, 1) := by decide +kernel
theorem dX12_init_250 : decode cX12_init 250 = .ok (.iconst 3, 1) := by decide +kernel
theorem dX12_init_251 : decode cX12_init 251 = .ok (.newarray .boolean, 2) := by decide +kernel
theorem dX12_init_253 : decode cX12_init 253 = .ok (.putfield 104, 3) := by decide +kernel
theorem dX12_init_256 : decode cX12_init 256 = .ok (.aload_n 0, 1) := by decide +kernel
theorem dX12_init_257 : decode cX12_init 257 = .ok (.ldc 108, 2) := by decide +kernel
theorem dX12_init_259 : decode cX12_init 259 = .ok (.newarray .int, 2) := by decide +kernel
theorem dX12_init_261 : decode cX12_init 261 = .ok (.putfield 109, 3) := by decide +kernel
theorem dX12_init_264 : decode cX12_init 264 = .ok (.aload_n 0, 1) := by decide +kernel
theorem dX12_init_265 : decode cX12_init 265 = .ok (.getfield 34, 3) := by decide +kernel
theorem dX12_init_268 : decode cX12_init 268 = .ok (.iconst 0, 1) := by decide +kernel
theorem dX12_init_269 : decode cX12_init 269 = .ok (.bipush 112, 2) := by decide +kernel
theorem dX12_init_271 : decode cX12_init 271 = .ok (.bipush 97, 2) := by decide +kernel
theorem dX12_init_273 : decode cX12_init 273 = .ok (.bipush 103, 2) := by decide +kernel
theorem dX12_init_275 : decode cX12_init 275 = .ok (.bipush 101, 2) := by decide +kernel
theorem dX12_init_277 : decode cX12_init 277 = .ok (.iconst 0, 1) := by decide +kernel
theorem dX12_init_278 : decode cX12_init 278 = .ok (.iconst 0, 1) := by decide +kernel
theorem dX12_init_279 : decode cX12_init 279 = .ok (.iconst 0, 1) := by decide +kernel
theorem dX12_init_280 : decode cX12_init 280 = .ok (.invokestatic 112, 3) := by decide +kernel
theorem dX12_init_283 : decode cX12_init 283 = .ok (.lastore, 1) := by decide +kernel
theorem dX12_init_284 : decode cX12_init 284 = .ok (.aload_n 0, 1) := by decide +kernel
theorem dX12_init_285 : decode cX12_init 285 = .ok (.getfield 34, 3) := by decide +kernel
theorem dX12_init_288 : decode cX12_init 288 = .ok (.iconst 1, 1) := by decide +kernel
theorem dX12_init_289 : decode cX12_init 289 = .ok (.bipush 112, 2) := by decide +kernel
theorem dX12_init_291 : decode cX12_init 291 = .ok (.bipush 117, 2) := by decide +kernel
theorem dX12_init_293 : decode cX12_init 293 = .ok (.bipush 116, 2) := by decide +kernel
theorem dX12_init_295 : decode cX12_init 295 = .ok (.iconst 0, 1) := by decide +kernel
theorem dX12_init_296 : decode cX12_init 296 = .ok (.iconst 0, 1) := by decide +kernel
theorem dX12_init_297 : decode cX12_init 297 = .ok (.iconst 0, 1) := by decide +kernel
theorem dX12_init_298 : decode cX12_init 298 = .ok (.iconst 0, 1) := by decide +kernel
theorem dX12_init_299 : decode cX12_init 299 = .ok (.invokestatic 112, 3) := by decide +kernel
theorem dX12_init_302 : decode cX12_init 302 = .ok (.lastore, 1) := by decide +kernel
theorem dX12_init_303 : decode cX12_init 303 = .ok (.aload_n 0, 1) := by decide +kernel
theorem dX12_init_304 : decode cX12_init 304 = .ok (.getfield 34, 3) := by decide +kernel
theorem dX12_init_307 : decode cX12_init 307 = .ok (.iconst 2, 1) := by decide +kernel
theorem dX12_init_308 : decode cX12_init 308 = .ok (.bipush 99, 2) := by decide +kernel
theorem dX12_init_310 : decode cX12_init 310 = .ok (.bipush 117, 2) := by decide +kernel
theorem dX12_init_312 : decode cX12_init 312 = .ok (.bipush 116, 2) := by decide +kernel
theorem dX12_init_314 : decode cX12_init 314 = .ok (.iconst 0, 1) := by decide +kernel
theorem dX12_init_315 : decode cX12_init 315 = .ok (.iconst 0, 1) := by decide +kernel
theorem dX12_init_316 : decode cX12_init 316 = .ok (.iconst 0, 1) := by decide +kernel
theorem dX12_init_317 : decode cX12_init 317 = .ok (.iconst 0, 1) := by decide +kernel
theorem dX12_init_318 : decode cX12_init 318 = .ok (.invokestatic 112, 3) := by decide +kernel
theorem dX12_init_321 : decode cX12_init 321 = .ok (.lastore, 1) := by decide +kernel
theorem dX12_init_322 : decode cX12_init 322 = .ok (.aload_n 0, 1) := by decide +kernel
theorem dX12_init_323 : decode cX12_init 323 = .ok (.getfield 34, 3) := by decide +kernel
theorem dX12_init_326 : decode cX12_init 326 = .ok (.iconst 3, 1) := by decide +kernel
theorem dX12_init_327 : decode cX12_init 327 = .ok (.bipush 100, 2) := by decide +kernel
theorem dX12_init_329 : decode cX12_init 329 = .ok (.bipush 111, 2) := by decide +kernel
theorem dX12_init_331 : decode cX12_init 331 = .ok (.iconst 0, 1) := by decide +kernel
theorem dX12_init_332 : decode cX12_init 332 = .ok (.iconst 0, 1) := by decide +kernel
theorem dX12_init_333 : decode cX12_init 333 = .ok (.iconst 0, 1) := by decide +kernel
theorem dX12_init_334 : decode cX12_init 334 = .ok (.iconst 0, 1) := by decide +kernel
theorem dX12_init_335 : decode cX12_init 335 = .ok (.iconst 0, 1) := by decide +kernel
theorem dX12_init_336 : decode cX12_init 336 = .ok (.invokestatic 112, 3) := by decide +kernel
theorem dX12_init_339 : decode cX12_init 339 = .ok (.lastore, 1) := by decide +kernel
theorem dX12_init_340 : decode cX12_init 340 = .ok (.aload_n 0, 1) := by decide +kernel
theorem dX12_init_341 : decode cX12_init 341 = .ok (.getfield 34, 3) := by decide +kernel
theorem dX12_init_344 : decode cX12_init 344 = .ok (.iconst 4, 1) := by decide +kernel
theorem dX12_init_345 : decode cX12_init 345 = .ok (.bipush 101, 2) := by decide +kernel
theorem dX12_init_347 : decode cX12_init 347 = .ok (.bipush 110, 2) := by decide +kernel
theorem dX12_init_349 : decode cX12_init 349 = .ok (.bipush 100, 2) := by decide +kernel
theorem dX12_init_351 : decode cX12_init 351 = .ok (.iconst 0, 1) := by decide +kernel
theorem dX12_init_352 : decode cX12_init 352 = .ok (.iconst 0, 1) := by decide +kernel
theorem dX12_init_353 : decode cX12_init 353 = .ok (.iconst 0, 1) := by decide +kernel
theorem dX12_init_354 : decode cX12_init 354 = .ok (.iconst 0, 1) := by decide +kernel
theorem dX12_init_355 : decode cX12_init 355 = .ok (.invokestatic 112, 3) := by decide +kernel
theorem dX12_init_358 : decode cX12_init 358 = .ok (.lastore, 1) := by decide +kernel
theorem dX12_init_359 : decode cX12_init 359 = .ok (.aload_n 0, 1) := by decide +kernel
theorem dX12_init_360 : decode cX12_init 360 = .ok (.getfield 34, 3) := by decide +kernel
theorem dX12_init_363 : decode cX12_init 363 = .ok (.iconst 5, 1) := by decide +kernel
theorem dX12_init_364 : decode cX12_init 364 = .ok (.bipush 105, 2) := by decide +kernel
theorem dX12_init_366 : decode cX12_init 366 = .ok (.iconst 0, 1) := by decide +kernel
theorem dX12_init_367 : decode cX12_init 367 = .ok (.iconst 0, 1) := by decide +kernel
theorem dX12_init_368 : decode cX12_init 368 = .ok (.iconst 0, 1) := by decide +kernel
theorem dX12_init_369 : decode cX12_init 369 = .ok (.iconst 0, 1) := by decide +kernel
theorem dX12_init_370 : decode cX12_init 370 = .ok (.iconst 0, 1) := by decide +kernel
theorem dX12_init_371 : decode cX12_init 371 = .ok (.iconst 0, 1) := by decide +kernel
theorem dX12_init_372 : decode cX12_init 372 = .ok (.invokestatic 112, 3) := by decide +kernel
theorem dX12_init_375 : decode cX12_init 375 = .ok (.lastore, 1) := by decide +kernel
theorem dX12_init_376 : decode cX12_init 376 = .ok (.aload_n 0, 1) := by decide +kernel
theorem dX12_init_377 : decode cX12_init 377 = .ok (.getfield 34, 3) := by decide +kernel
theorem dX12_init_380 : decode cX12_init 380 = .ok (.bipush 6, 2) := by decide +kernel
theorem dX12_init_382 : decode cX12_init 382 = .ok (.bipush 106, 2) := by decide +kernel
theorem dX12_init_384 : decode cX12_init 384 = .ok (.iconst 0, 1) := by decide +kernel
theorem dX12_init_385 : decode cX12_init 385 = .ok (.iconst 0, 1) := by decide +kernel
theorem dX12_init_386 : decode cX12_init 386 = .ok (.iconst 0, 1) := by decide +kernel
theorem dX12_init_387 : decode cX12_init 387 = .ok (.iconst 0, 1) := by decide +kernel
theorem dX12_init_388 : decode cX12_init 388 = .ok (.iconst 0, 1) := by decide +kernel
theorem dX12_init_389 : decode cX12_init 389 = .ok (.iconst 0, 1) := by decide +kernel
theorem dX12_init_390 : decode cX12_init 390 = .ok (.invokestatic 112, 3) := by decide +kernel
theorem dX12_init_393 : decode cX12_init 393 = .ok (.lastore, 1) := by decide +kernel
theorem dX12_init_394 : decode cX12_init 394 = .ok (.aload_n 0, 1) := by decide +kernel
theorem dX12_init_395 : decode cX12_init 395 = .ok (.getfield 34, 3) := by decide +kernel
theorem dX12_init_398 : decode cX12_init 398 = .ok (.bipush 7, 2) := by decide +kernel
theorem dX12_init_400 : decode cX12_init 400 = .ok (.bipush 116, 2) := by decide +kernel
theorem dX12_init_402 : decode cX12_init 402 = .ok (.bipush 105, 2) := by decide +kernel
theorem dX12_init_404 : decode cX12_init 404 = .ok (.bipush 109, 2) := by decide +kernel
theorem dX12_init_406 : decode cX12_init 406 = .ok (.bipush 101, 2) := by decide +kernel
theorem dX12_init_408 : decode cX12_init 408 = .ok (.iconst 0, 1) := by decide +kernel
theorem dX12_init_409 : decode cX12_init 409 = .ok (.iconst 0, 1) := by decide +kernel
theorem dX12_init_410 : decode cX12_init 410 = .ok (.iconst 0, 1) := by decide +kernel
theorem dX12_init_411 : decode cX12_init 411 = .ok (.invokestatic 112, 3) := by decide +kernel
theorem dX12_init_414 : decode cX12_init 414 = .ok (.lastore, 1) := by decide +kernel
theorem dX12_init_415 : decode cX12_init 415 = .ok (.aload_n 0, 1) := by decide +kernel
theorem dX12_init_416 : decode cX12_init 416 = .ok (.getfield 34, 3) := by decide +kernel
theorem dX12_init_419 : decode cX12_init 419 = .ok (.bipush 8, 2) := by decide +kernel
theorem dX12_init_421 : decode cX12_init 421 = .ok (.bipush 108, 2) := by decide +kernel
theorem dX12_init_423 : decode cX12_init 423 = .ok (.bipush 105, 2) := by decide +kernel
theorem dX12_init_425 : decode cX12_init 425 = .ok (.bipush 118, 2) := by decide +kernel
theorem dX12_init_427 : decode cX12_init 427 = .ok (.bipush 101, 2) := by decide +kernel
theorem dX12_init_429 : decode cX12_init 429 = .ok (.iconst 0, 1) := by decide +kernel
theorem dX12_init_430 : decode cX12_init 430 = .ok (.iconst 0, 1) := by decide +kernel
theorem dX12_init_431 : decode cX12_init 431 = .ok (.iconst 0, 1) := by decide +kernel
theorem dX12_init_432 : decode cX12_init 432 = .ok (.invokestatic 112, 3) := by decide +kernel
theorem dX12_init_435 : decode cX12_init 435 = .ok (.lastore, 1) := by decide +kernel
theorem dX12_init_436 : decode cX12_init 436 = .ok (.aload_n 0, 1) := by decide +kernel
theorem dX12_init_437 : decode cX12_init 437 = .ok (.getfield 34, 3) := by decide +kernel
theorem dX12_init_440 : decode cX12_init 440 = .ok (.bipush 9, 2) := by decide +kernel
theorem dX12_init_442 : decode cX12_init 442 = .ok (.bipush 108, 2) := by decide +kernel
theorem dX12_init_444 : decode cX12_init 444 = .ok (.bipush 97, 2) := by decide +kernel
theorem dX12_init_446 : decode cX12_init 446 = .ok (.bipush 115, 2) := by decide +kernel
theorem dX12_init_448 : decode cX12_init 448 = .ok (.bipush 116, 2) := by decide +kernel
theorem dX12_init_450 : decode cX12_init 450 = .ok (.iconst 0, 1) := by decide +kernel
theorem dX12_init_451 : decode cX12_init 451 = .ok (.iconst 0, 1) := by decide +kernel
theorem dX12_init_452 : decode cX12_init 452 = .ok (.iconst 0, 1) := by decide +kernel
theorem dX12_init_453 : decode cX12_init 453 = .ok (.invokestatic 112, 3) := by decide +kernel
theorem dX12_init_456 : decode cX12_init 456 = .ok (.lastore, 1) := by decide +kernel
theorem dX12_init_457 : decode cX12_init 457 = .ok (.aload_n 0, 1) := by decide +kernel
theorem dX12_init_458 : decode cX12_init 458 = .ok (.getfield 34, 3) := by decide +kernel
theorem dX12_init_461 : decode cX12_init 461 = .ok (.bipush 10, 2) := by decide +kernel
theorem dX12_init_463 : decode cX12_init 463 = .ok (.bipush 112, 2) := by decide +kernel
theorem dX12_init_465 : decode cX12_init 465 = .ok (.bipush 97, 2) := by decide +kernel
theorem dX12_init_467 : decode cX12_init 467 = .ok (.bipush 103, 2) := by decide +kernel
theorem dX12_init_469 : decode cX12_init 469 = .ok (.bipush 101, 2) := by decide +kernel
theorem dX12_init_471 : decode cX12_init 471 = .ok (.bipush 115, 2) := by decide +kernel
theorem dX12_init_473 : decode cX12_init 473 = .ok (.iconst 0, 1) := by decide +kernel
theorem dX12_init_474 : decode cX12_init 474 = .ok (.iconst 0, 1) := by decide +kernel
theorem dX12_init_475 : decode cX12_init 475 = .ok (.invokestatic 112, 3) := by decide +kernel
theorem dX12_init_478 : decode cX12_init 478 = .ok (.lastore, 1) := by decide +kernel
theorem dX12_init_479 : decode cX12_init 479 = .ok (.aload_n 0, 1) := by decide +kernel
theorem dX12_init_480 : decode cX12_init 480 = .ok (.bipush 8, 2) := by decide +kernel
theorem dX12_init_482 : decode cX12_init 482 = .ok (.invokevirtual 116, 3) := by decide +kernel
theorem dX12_init_485 : decode cX12_init 485 = .ok (.return_, 1) := by decide +kernel
theorem dX12_feed_0 : decode cX12_feed 0 = .ok (.aload_n 0, 1) := by decide +kernel
theorem dX12_feed_1 : decode cX12_feed 1 = .ok (.getfield 120, 3) := by decide +kernel
theorem dX12_feed_4 : decode cX12_feed 4 = .ok (.bipush 20, 2) := by decide +kernel
theorem dX12_feed_6 : decode cX12_feed 6 = .ok (.iadd, 1) := by decide +kernel
theorem dX12_feed_7 : decode cX12_feed 7 = .ok (.sipush 2000, 3) := by decide +kernel
theorem dX12_feed_10 : decode cX12_feed 10 = .ok (.if_icmp .le 5, 3) := by decide +kernel
theorem dX12_feed_13 : decode cX12_feed 13 = .ok (.iconst (-1), 1) := by decide +kernel
theorem dX12_feed_14 : decode cX12_feed 14 = .ok (.ireturn, 1) := by decide +kernel
theorem dX12_feed_15 : decode cX12_feed 15 = .ok (.aload_n 0, 1) := by decide +kernel
theorem dX12_feed_16 : decode cX12_feed 16 = .ok (.iload_n 1, 1) := by decide +kernel
theorem dX12_feed_17 : decode cX12_feed 17 = .ok (.invokevirtual 123, 3) := by decide +kernel
theorem dX12_feed_20 : decode cX12_feed 20 = .ok (.aload_n 0, 1) := by decide +kernel
theorem dX12_feed_21 : decode cX12_feed 21 = .ok (.iload_n 2, 1) := by decide +kernel
theorem dX12_feed_22 : decode cX12_feed 22 = .ok (.invokevirtual 123, 3) := by decide +kernel
theorem dX12_feed_25 : decode cX12_feed 25 = .ok (.aload_n 0, 1) := by decide +kernel
theorem dX12_feed_26 : decode cX12_feed 26 = .ok (.iload_n 3, 1) := by decide +kernel
theorem dX12_feed_27 : decode cX12_feed 27 = .ok (.invokevirtual 123, 3) := by decide +kernel
theorem dX12_feed_30 : decode cX12_feed 30 = .ok (.aload_n 0, 1) := by decide +kernel
theorem dX12_feed_31 : decode cX12_feed 31 = .ok (.iload 4, 2) := by decide +kernel
theorem dX12_feed_33 : decode cX12_feed 33 = .ok (.invokevirtual 123, 3) := by decide +kernel
theorem dX12_feed_36 : decode cX12_feed 36 = .ok (.aload_n 0, 1) := by decide +kernel
theorem dX12_feed_37 : decode cX12_feed 37 = .ok (.iload 5, 2) := by decide +kernel
theorem dX12_feed_39 : decode cX12_feed 39 = .ok (.invokevirtual 123, 3) := by decide +kernel
theorem dX12_feed_42 : decode cX12_feed 42 = .ok (.aload_n 0, 1) := by decide +kernel
theorem dX12_feed_43 : decode cX12_feed 43 = .ok (.getfield 120, 3) := by decide +kernel
theorem dX12_feed_46 : decode cX12_feed 46 = .ok (.ireturn, 1) := by decide +kernel
theorem dX12_lays_0 : decode cX12_lays 0 = .ok (.bipush 24, 2) := by decide +kernel
theorem dX12_lays_2 : decode cX12_lays 2 = .ok (.istore_n 2, 1) := by decide +kernel
theorem dX12_lays_3 : decode cX12_lays 3 = .ok (.iload_n 2, 1) := by decide +kernel
theorem dX12_lays_4 : decode cX12_lays 4 = .ok (.ifCond .lt 32, 3) := by decide +kernel
theorem dX12_lays_7 : decode cX12_lays 7 = .ok (.aload_n 0, 1) := by decide +kernel
theorem dX12_lays_8 : decode cX12_lays 8 = .ok (.getfield 13, 3) := by decide +kernel
theorem dX12_lays_11 : decode cX12_lays 11 = .ok (.aload_n 0, 1) := by decide +kernel
theorem dX12_lays_12 : decode cX12_lays 12 = .ok (.getfield 120, 3) := by decide +kernel
theorem dX12_lays_15 : decode cX12_lays 15 = .ok (.iload_n 1, 1) := by decide +kernel
theorem dX12_lays_16 : decode cX12_lays 16 = .ok (.iload_n 2, 1) := by decide +kernel
theorem dX12_lays_17 : decode cX12_lays 17 = .ok (.ishr, 1) := by decide +kernel
theorem dX12_lays_18 : decode cX12_lays 18 = .ok (.i2b, 1) := by decide +kernel
theorem dX12_lays_19 : decode cX12_lays 19 = .ok (.bastore, 1) := by decide +kernel
theorem dX12_lays_20 : decode cX12_lays 20 = .ok (.aload_n 0, 1) := by decide +kernel
theorem dX12_lays_21 : decode cX12_lays 21 = .ok (.dup, 1) := by decide +kernel
theorem dX12_lays_22 : decode cX12_lays 22 = .ok (.getfield 120, 3) := by decide +kernel
theorem dX12_lays_25 : decode cX12_lays 25 = .ok (.iconst 1, 1) := by decide +kernel
theorem dX12_lays_26 : decode cX12_lays 26 = .ok (.iadd, 1) := by decide +kernel
theorem dX12_lays_27 : decode cX12_lays 27 = .ok (.putfield 120, 3) := by decide +kernel
theorem dX12_lays_30 : decode cX12_lays 30 = .ok (.iinc 2 (-8), 3) := by decide +kernel
theorem dX12_lays_33 : decode cX12_lays 33 = .ok (.goto (-30), 3) := by decide +kernel
theorem dX12_lays_36 : decode cX12_lays 36 = .ok (.return_, 1) := by decide +kernel
theorem dX12_back_0 : decode cX12_back 0 = .ok (.iload_n 1, 1) := by decide +kernel
theorem dX12_back_1 : decode cX12_back 1 = .ok (.ifCond .lt 11, 3) := by decide +kernel
theorem dX12_back_4 : decode cX12_back 4 = .ok (.iload_n 1, 1) := by decide +kernel
theorem dX12_back_5 : decode cX12_back 5 = .ok (.aload_n 0, 1) := by decide +kernel
theorem dX12_back_6 : decode cX12_back 6 = .ok (.getfield 120, 3) := by decide +kernel
theorem dX12_back_9 : decode cX12_back 9 = .ok (.if_icmp .le 5, 3) := by decide +kernel
theorem dX12_back_12 : decode cX12_back 12 = .ok (.iconst (-1), 1) := by decide +kernel
theorem dX12_back_13 : decode cX12_back 13 = .ok (.ireturn, 1) := by decide +kernel
theorem dX12_back_14 : decode cX12_back 14 = .ok (.aload_n 0, 1) := by decide +kernel
theorem dX12_back_15 : decode cX12_back 15 = .ok (.dup, 1) := by decide +kernel
theorem dX12_back_16 : decode cX12_back 16 = .ok (.getfield 120, 3) := by decide +kernel
theorem dX12_back_19 : decode cX12_back 19 = .ok (.iload_n 1, 1) := by decide +kernel
theorem dX12_back_20 : decode cX12_back 20 = .ok (.isub, 1) := by decide +kernel
theorem dX12_back_21 : decode cX12_back 21 = .ok (.putfield 120, 3) := by decide +kernel
theorem dX12_back_24 : decode cX12_back 24 = .ok (.aload_n 0, 1) := by decide +kernel
theorem dX12_back_25 : decode cX12_back 25 = .ok (.getfield 120, 3) := by decide +kernel
theorem dX12_back_28 : decode cX12_back 28 = .ok (.ireturn, 1) := by decide +kernel
theorem dX12_byteAt_0 : decode cX12_byteAt 0 = .ok (.iload_n 1, 1) := by decide +kernel
theorem dX12_byteAt_1 : decode cX12_byteAt 1 = .ok (.aload_n 0, 1) := by decide +kernel
theorem dX12_byteAt_2 : decode cX12_byteAt 2 = .ok (.getfield 126, 3) := by decide +kernel
theorem dX12_byteAt_5 : decode cX12_byteAt 5 = .ok (.if_icmp .ge 16, 3) := by decide +kernel
theorem dX12_byteAt_8 : decode cX12_byteAt 8 = .ok (.aload_n 0, 1) := by decide +kernel
theorem dX12_byteAt_9 : decode cX12_byteAt 9 = .ok (.getfield 17, 3) := by decide +kernel
theorem dX12_byteAt_12 : decode cX12_byteAt 12 = .ok (.iload_n 1, 1) := by decide +kernel
theorem dX12_byteAt_13 : decode cX12_byteAt 13 = .ok (.baload, 1) := by decide +kernel
theorem dX12_byteAt_14 : decode cX12_byteAt 14 = .ok (.sipush 255, 3) := by decide +kernel
theorem dX12_byteAt_17 : decode cX12_byteAt 17 = .ok (.iand, 1) := by decide +kernel
theorem dX12_byteAt_18 : decode cX12_byteAt 18 = .ok (.goto 4, 3) := by decide +kernel
theorem dX12_byteAt_21 : decode cX12_byteAt 21 = .ok (.iconst 0, 1) := by decide +kernel
theorem dX12_byteAt_22 : decode cX12_byteAt 22 = .ok (.ireturn, 1) := by decide +kernel
theorem dX12_isDigit_0 : decode cX12_isDigit 0 = .ok (.iload_n 0, 1) := by decide +kernel
theorem dX12_isDigit_1 : decode cX12_isDigit 1 = .ok (.bipush 48, 2) := by decide +kernel
theorem dX12_isDigit_3 : decode cX12_isDigit 3 = .ok (.if_icmp .lt 13, 3) := by decide +kernel
theorem dX12_isDigit_6 : decode cX12_isDigit 6 = .ok (.iload_n 0, 1) := by decide +kernel
theorem dX12_isDigit_7 : decode cX12_isDigit 7 = .ok (.bipush 57, 2) := by decide +kernel
theorem dX12_isDigit_9 : decode cX12_isDigit 9 = .ok (.if_icmp .gt 7, 3) := by decide +kernel
theorem dX12_isDigit_12 : decode cX12_isDigit 12 = .ok (.iconst 1, 1) := by decide +kernel
theorem dX12_isDigit_13 : decode cX12_isDigit 13 = .ok (.goto 4, 3) := by decide +kernel
theorem dX12_isDigit_16 : decode cX12_isDigit 16 = .ok (.iconst 0, 1) := by decide +kernel
theorem dX12_isDigit_17 : decode cX12_isDigit 17 = .ok (.ireturn, 1) := by decide +kernel
theorem dX12_isLetter_0 : decode cX12_isLetter 0 = .ok (.iload_n 0, 1) := by decide +kernel
theorem dX12_isLetter_1 : decode cX12_isLetter 1 = .ok (.bipush 97, 2) := by decide +kernel
theorem dX12_isLetter_3 : decode cX12_isLetter 3 = .ok (.if_icmp .lt 13, 3) := by decide +kernel
theorem dX12_isLetter_6 : decode cX12_isLetter 6 = .ok (.iload_n 0, 1) := by decide +kernel
theorem dX12_isLetter_7 : decode cX12_isLetter 7 = .ok (.bipush 122, 2) := by decide +kernel
theorem dX12_isLetter_9 : decode cX12_isLetter 9 = .ok (.if_icmp .gt 7, 3) := by decide +kernel
theorem dX12_isLetter_12 : decode cX12_isLetter 12 = .ok (.iconst 1, 1) := by decide +kernel
theorem dX12_isLetter_13 : decode cX12_isLetter 13 = .ok (.goto 4, 3) := by decide +kernel
theorem dX12_isLetter_16 : decode cX12_isLetter 16 = .ok (.iconst 0, 1) := by decide +kernel
theorem dX12_isLetter_17 : decode cX12_isLetter 17 = .ok (.ireturn, 1) := by decide +kernel
theorem dX12_appends_0 : decode cX12_appends 0 = .ok (.iload_n 2, 1) := by decide +kernel
theorem dX12_appends_1 : decode cX12_appends 1 = .ok (.ifCond .ne 7, 3) := by decide +kernel
theorem dX12_appends_4 : decode cX12_appends 4 = .ok (.lload_n 0, 1) := by decide +kernel
theorem dX12_appends_5 : decode cX12_appends 5 = .ok (.goto 16, 3) := by decide +kernel
theorem dX12_appends_8 : decode cX12_appends 8 = .ok (.ldc2_w 129, 3) := by decide +kernel
theorem dX12_appends_11 : decode cX12_appends 11 = .ok (.lload_n 0, 1) := by decide +kernel
theorem dX12_appends_12 : decode cX12_appends 12 = .ok (.lmul, 1) := by decide +kernel
theorem dX12_appends_13 : decode cX12_appends 13 = .ok (.iload_n 2, 1) := by decide +kernel
theorem dX12_appends_14 : decode cX12_appends 14 = .ok (.bipush 97, 2) := by decide +kernel
theorem dX12_appends_16 : decode cX12_appends 16 = .ok (.isub, 1) := by decide +kernel
theorem dX12_appends_17 : decode cX12_appends 17 = .ok (.iconst 1, 1) := by decide +kernel
theorem dX12_appends_18 : decode cX12_appends 18 = .ok (.iadd, 1) := by decide +kernel
theorem dX12_appends_19 : decode cX12_appends 19 = .ok (.i2l, 1) := by decide +kernel
theorem dX12_appends_20 : decode cX12_appends 20 = .ok (.ladd, 1) := by decide +kernel
theorem dX12_appends_21 : decode cX12_appends 21 = .ok (.lreturn, 1) := by decide +kernel
theorem dX12_letters_0 : decode cX12_letters 0 = .ok (.lconst 0, 1) := by decide +kernel
theorem dX12_letters_1 : decode cX12_letters 1 = .ok (.iload_n 0, 1) := by decide +kernel
theorem dX12_letters_2 : decode cX12_letters 2 = .ok (.invokestatic 131, 3) := by decide +kernel
theorem dX12_letters_5 : decode cX12_letters 5 = .ok (.iload_n 1, 1) := by decide +kernel
theorem dX12_letters_6 : decode cX12_letters 6 = .ok (.invokestatic 131, 3) := by decide +kernel
theorem dX12_letters_9 : decode cX12_letters 9 = .ok (.iload_n 2, 1) := by decide +kernel
theorem dX12_letters_10 : decode cX12_letters 10 = .ok (.invokestatic 131, 3) := by decide +kernel
theorem dX12_letters_13 : decode cX12_letters 13 = .ok (.iload_n 3, 1) := by decide +kernel
theorem dX12_letters_14 : decode cX12_letters 14 = .ok (.invokestatic 131, 3) := by decide +kernel
theorem dX12_letters_17 : decode cX12_letters 17 = .ok (.iload 4, 2) := by decide +kernel
theorem dX12_letters_19 : decode cX12_letters 19 = .ok (.invokestatic 131, 3) := by decide +kernel
theorem dX12_letters_22 : decode cX12_letters 22 = .ok (.iload 5, 2) := by decide +kernel
theorem dX12_letters_24 : decode cX12_letters 24 = .ok (.invokestatic 131, 3) := by decide +kernel
theorem dX12_letters_27 : decode cX12_letters 27 = .ok (.iload 6, 2) := by decide +kernel
theorem dX12_letters_29 : decode cX12_letters 29 = .ok (.invokestatic 131, 3) := by decide +kernel
theorem dX12_letters_32 : decode cX12_letters 32 = .ok (.lreturn, 1) := by decide +kernel
theorem dX12_token_0 : decode cX12_token 0 = .ok (.aload_n 0, 1) := by decide +kernel
theorem dX12_token_1 : decode cX12_token 1 = .ok (.getfield 20, 3) := by decide +kernel
theorem dX12_token_4 : decode cX12_token 4 = .ok (.aload_n 0, 1) := by decide +kernel
theorem dX12_token_5 : decode cX12_token 5 = .ok (.getfield 135, 3) := by decide +kernel
theorem dX12_token_8 : decode cX12_token 8 = .ok (.iload_n 1, 1) := by decide +kernel
theorem dX12_token_9 : decode cX12_token 9 = .ok (.iastore, 1) := by decide +kernel
theorem dX12_token_10 : decode cX12_token 10 = .ok (.aload_n 0, 1) := by decide +kernel
theorem dX12_token_11 : decode cX12_token 11 = .ok (.getfield 24, 3) := by decide +kernel
theorem dX12_token_14 : decode cX12_token 14 = .ok (.aload_n 0, 1) := by decide +kernel
theorem dX12_token_15 : decode cX12_token 15 = .ok (.getfield 135, 3) := by decide +kernel
theorem dX12_token_18 : decode cX12_token 18 = .ok (.iload_n 2, 1) := by decide +kernel
theorem dX12_token_19 : decode cX12_token 19 = .ok (.iastore, 1) := by decide +kernel
theorem dX12_token_20 : decode cX12_token 20 = .ok (.aload_n 0, 1) := by decide +kernel
theorem dX12_token_21 : decode cX12_token 21 = .ok (.getfield 27, 3) := by decide +kernel
theorem dX12_token_24 : decode cX12_token 24 = .ok (.aload_n 0, 1) := by decide +kernel
theorem dX12_token_25 : decode cX12_token 25 = .ok (.getfield 135, 3) := by decide +kernel
theorem dX12_token_28 : decode cX12_token 28 = .ok (.iload_n 3, 1) := by decide +kernel
theorem dX12_token_29 : decode cX12_token 29 = .ok (.iastore, 1) := by decide +kernel
theorem dX12_token_30 : decode cX12_token 30 = .ok (.aload_n 0, 1) := by decide +kernel
theorem dX12_token_31 : decode cX12_token 31 = .ok (.getfield 30, 3) := by decide +kernel
theorem dX12_token_34 : decode cX12_token 34 = .ok (.aload_n 0, 1) := by decide +kernel
theorem dX12_token_35 : decode cX12_token 35 = .ok (.getfield 135, 3) := by decide +kernel
theorem dX12_token_38 : decode cX12_token 38 = .ok (.lload 4, 2) := by decide +kernel
theorem dX12_token_40 : decode cX12_token 40 = .ok (.lastore, 1) := by decide +kernel
theorem dX12_token_41 : decode cX12_token 41 = .ok (.aload_n 0, 1) := by decide +kernel
theorem dX12_token_42 : decode cX12_token 42 = .ok (.dup, 1) := by decide +kernel
theorem dX12_token_43 : decode cX12_token 43 = .ok (.getfield 135, 3) := by decide +kernel
theorem dX12_token_46 : decode cX12_token 46 = .ok (.iconst 1, 1) := by decide +kernel
theorem dX12_token_47 : decode cX12_token 47 = .ok (.iadd, 1) := by decide +kernel
theorem dX12_token_48 : decode cX12_token 48 = .ok (.putfield 135, 3) := by decide +kernel
theorem dX12_token_51 : decode cX12_token 51 = .ok (.return_, 1) := by decide +kernel
theorem dX12_cutsUp_0 : decode cX12_cutsUp 0 = .ok (.aload_n 0, 1) := by decide +kernel
theorem dX12_cutsUp_1 : decode cX12_cutsUp 1 = .ok (.iconst 0, 1) := by decide +kernel
theorem dX12_cutsUp_2 : decode cX12_cutsUp 2 = .ok (.putfield 135, 3) := by decide +kernel
theorem dX12_cutsUp_5 : decode cX12_cutsUp 5 = .ok (.iconst 0, 1) := by decide +kernel
theorem dX12_cutsUp_6 : decode cX12_cutsUp 6 = .ok (.istore_n 1, 1) := by decide +kernel
theorem dX12_cutsUp_7 : decode cX12_cutsUp 7 = .ok (.aload_n 0, 1) := by decide +kernel
theorem dX12_cutsUp_8 : decode cX12_cutsUp 8 = .ok (.getfield 135, 3) := by decide +kernel
theorem dX12_cutsUp_11 : decode cX12_cutsUp 11 = .ok (.sipush 400, 3) := by decide +kernel
theorem dX12_cutsUp_14 : decode cX12_cutsUp 14 = .ok (.if_icmp .gt 280, 3) := by decide +kernel
theorem dX12_cutsUp_17 : decode cX12_cutsUp 17 = .ok (.aload_n 0, 1) := by decide +kernel
theorem dX12_cutsUp_18 : decode cX12_cutsUp 18 = .ok (.iload_n 1, 1) := by decide +kernel
theorem dX12_cutsUp_19 : decode cX12_cutsUp 19 = .ok (.invokevirtual 138, 3) := by decide +kernel
theorem dX12_cutsUp_22 : decode cX12_cutsUp 22 = .ok (.istore_n 2, 1) := by decide +kernel
theorem dX12_cutsUp_23 : decode cX12_cutsUp 23 = .ok (.iload_n 1, 1) := by decide +kernel
theorem dX12_cutsUp_24 : decode cX12_cutsUp 24 = .ok (.aload_n 0, 1) := by decide +kernel
theorem dX12_cutsUp_25 : decode cX12_cutsUp 25 = .ok (.getfield 126, 3) := by decide +kernel
theorem dX12_cutsUp_28 : decode cX12_cutsUp 28 = .ok (.if_icmp .lt 15, 3) := by decide +kernel
theorem dX12_cutsUp_31 : decode cX12_cutsUp 31 = .ok (.aload_n 0, 1) := by decide +kernel
theorem dX12_cutsUp_32 : decode cX12_cutsUp 32 = .ok (.iconst 0, 1) := by decide +kernel
theorem dX12_cutsUp_33 : decode cX12_cutsUp 33 = .ok (.aload_n 0, 1) := by decide +kernel
theorem dX12_cutsUp_34 : decode cX12_cutsUp 34 = .ok (.getfield 126, 3) := by decide +kernel
theorem dX12_cutsUp_37 : decode cX12_cutsUp 37 = .ok (.iconst 0, 1) := by decide +kernel
theorem dX12_cutsUp_38 : decode cX12_cutsUp 38 = .ok (.lconst 0, 1) := by decide +kernel
theorem dX12_cutsUp_39 : decode cX12_cutsUp 39 = .ok (.invokevirtual 142, 3) := by decide +kernel
theorem dX12_cutsUp_42 : decode cX12_cutsUp 42 = .ok (.return_, 1) := by decide +kernel
theorem dX12_cutsUp_43 : decode cX12_cutsUp 43 = .ok (.iload_n 2, 1) := by decide +kernel
theorem dX12_cutsUp_44 : decode cX12_cutsUp 44 = .ok (.bipush 9, 2) := by decide +kernel
theorem dX12_cutsUp_46 : decode cX12_cutsUp 46 = .ok (.if_icmp .eq 21, 3) := by decide +kernel
theorem dX12_cutsUp_49 : decode cX12_cutsUp 49 = .ok (.iload_n 2, 1) := by decide +kernel
theorem dX12_cutsUp_50 : decode cX12_cutsUp 50 = .ok (.bipush 10, 2) := by decide +kernel
theorem dX12_cutsUp_52 : decode cX12_cutsUp 52 = .ok (.if_icmp .eq 15, 3) := by decide +kernel
theorem dX12_cutsUp_55 : decode cX12_cutsUp 55 = .ok (.iload_n 2, 1) := by decide +kernel
theorem dX12_cutsUp_56 : decode cX12_cutsUp 56 = .ok (.bipush 13, 2) := by decide +kernel
theorem dX12_cutsUp_58 : decode cX12_cutsUp 58 = .ok (.if_icmp .eq 9, 3) := by decide +kernel
theorem dX12_cutsUp_61 : decode cX12_cutsUp 61 = .ok (.iload_n 2, 1) := by decide +kernel
theorem dX12_cutsUp_62 : decode cX12_cutsUp 62 = .ok (.bipush 32, 2) := by decide +kernel
theorem dX12_cutsUp_64 : decode cX12_cutsUp 64 = .ok (.if_icmp .ne 9, 3) := by decide +kernel
theorem dX12_cutsUp_67 : decode cX12_cutsUp 67 = .ok (.iinc 1 1, 3) := by decide +kernel
theorem dX12_cutsUp_70 : decode cX12_cutsUp 70 = .ok (.goto 221, 3) := by decide +kernel
theorem dX12_cutsUp_73 : decode cX12_cutsUp 73 = .ok (.iload_n 2, 1) := by decide +kernel
theorem dX12_cutsUp_74 : decode cX12_cutsUp 74 = .ok (.invokestatic 146, 3) := by decide +kernel
theorem dX12_cutsUp_77 : decode cX12_cutsUp 77 = .ok (.ifCond .eq 119, 3) := by decide +kernel
theorem dX12_cutsUp_80 : decode cX12_cutsUp 80 = .ok (.iconst 0, 1) := by decide +kernel
theorem dX12_cutsUp_81 : decode cX12_cutsUp 81 = .ok (.istore_n 3, 1) := by decide +kernel
theorem dX12_cutsUp_82 : decode cX12_cutsUp 82 = .ok (.lconst 0, 1) := by decide +kernel
theorem dX12_cutsUp_83 : decode cX12_cutsUp 83 = .ok (.lstore 4, 2) := by decide +kernel
theorem dX12_cutsUp_85 : decode cX12_cutsUp 85 = .ok (.aload_n 0, 1) := by decide +kernel
theorem dX12_cutsUp_86 : decode cX12_cutsUp 86 = .ok (.iload_n 1, 1) := by decide +kernel
theorem dX12_cutsUp_87 : decode cX12_cutsUp 87 = .ok (.iload_n 3, 1) := by decide +kernel
theorem dX12_cutsUp_88 : decode cX12_cutsUp 88 = .ok (.iadd, 1) := by decide +kernel
theorem dX12_cutsUp_89 : decode cX12_cutsUp 89 = .ok (.invokevirtual 138, 3) := by decide +kernel
theorem dX12_cutsUp_92 : decode cX12_cutsUp 92 = .ok (.invokestatic 146, 3) := by decide +kernel
theorem dX12_cutsUp_95 : decode cX12_cutsUp 95 = .ok (.ifCond .eq 29, 3) := by decide +kernel
theorem dX12_cutsUp_98 : decode cX12_cutsUp 98 = .ok (.iload_n 3, 1) := by decide +kernel
theorem dX12_cutsUp_99 : decode cX12_cutsUp 99 = .ok (.bipush 8, 2) := by decide +kernel
theorem dX12_cutsUp_101 : decode cX12_cutsUp 101 = .ok (.if_icmp .ge 17, 3) := by decide +kernel
theorem dX12_cutsUp_104 : decode cX12_cutsUp 104 = .ok (.lload 4, 2) := by decide +kernel
theorem dX12_cutsUp_106 : decode cX12_cutsUp 106 = .ok (.aload_n 0, 1) := by decide +kernel
theorem dX12_cutsUp_107 : decode cX12_cutsUp 107 = .ok (.iload_n 1, 1) := by decide +kernel
theorem dX12_cutsUp_108 : decode cX12_cutsUp 108 = .ok (.iload_n 3, 1) := by decide +kernel
theorem dX12_cutsUp_109 : decode cX12_cutsUp 109 = .ok (.iadd, 1) := by decide +kernel
theorem dX12_cutsUp_110 : decode cX12_cutsUp 110 = .ok (.invokevirtual 138, 3) := by decide +kernel
theorem dX12_cutsUp_113 : decode cX12_cutsUp 113 = .ok (.invokestatic 131, 3) := by decide +kernel
theorem dX12_cutsUp_116 : decode cX12_cutsUp 116 = .ok (.lstore 4, 2) := by decide +kernel
theorem dX12_cutsUp_118 : decode cX12_cutsUp 118 = .ok (.iinc 3 1, 3) := by decide +kernel
theorem dX12_cutsUp_121 : decode cX12_cutsUp 121 = .ok (.goto (-36), 3) := by decide +kernel
theorem dX12_cutsUp_124 : decode cX12_cutsUp 124 = .ok (.iload_n 3, 1) := by decide +kernel
theorem dX12_cutsUp_125 : decode cX12_cutsUp 125 = .ok (.bipush 8, 2) := by decide +kernel
theorem dX12_cutsUp_127 : decode cX12_cutsUp 127 = .ok (.if_icmp .le 7, 3) := by decide +kernel
theorem dX12_cutsUp_130 : decode cX12_cutsUp 130 = .ok (.iconst 3, 1) := by decide +kernel
theorem dX12_cutsUp_131 : decode cX12_cutsUp 131 = .ok (.goto 4, 3) := by decide +kernel
theorem dX12_cutsUp_134 : decode cX12_cutsUp 134 = .ok (.iconst 1, 1) := by decide +kernel
theorem dX12_cutsUp_135 : decode cX12_cutsUp 135 = .ok (.istore 6, 2) := by decide +kernel
theorem dX12_cutsUp_137 : decode cX12_cutsUp 137 = .ok (.iload_n 3, 1) := by decide +kernel
theorem dX12_cutsUp_138 : decode cX12_cutsUp 138 = .ok (.bipush 8, 2) := by decide +kernel
theorem dX12_cutsUp_140 : decode cX12_cutsUp 140 = .ok (.if_icmp .gt 39, 3) := by decide +kernel
theorem dX12_cutsUp_143 : decode cX12_cutsUp 143 = .ok (.iconst 0, 1) := by decide +kernel
theorem dX12_cutsUp_144 : decode cX12_cutsUp 144 = .ok (.istore 7, 2) := by decide +kernel
theorem dX12_cutsUp_146 : decode cX12_cutsUp 146 = .ok (.iload 7, 2) := by decide +kernel
theorem dX12_cutsUp_148 : decode cX12_cutsUp 148 = .ok (.bipush 11, 2) := by decide +kernel
theorem dX12_cutsUp_150 : decode cX12_cutsUp 150 = .ok (.if_icmp .ge 29, 3) := by decide +kernel
theorem dX12_cutsUp_153 : decode cX12_cutsUp 153 = .ok (.aload_n 0, 1) := by decide +kernel
theorem dX12_cutsUp_154 : decode cX12_cutsUp 154 = .ok (.getfield 34, 3) := by decide +kernel
theorem dX12_cutsUp_157 : decode cX12_cutsUp 157 = .ok (.iload 7, 2) := by decide +kernel
theorem dX12_cutsUp_159 : decode cX12_cutsUp 159 = .ok (.laload, 1) := by decide +kernel
theorem dX12_cutsUp_160 : decode cX12_cutsUp 160 = .ok (.lload 4, 2) := by decide +kernel
theorem dX12_cutsUp_162 : decode cX12_cutsUp 162 = .ok (.lcmp, 1) := by decide +kernel
theorem dX12_cutsUp_163 : decode cX12_cutsUp 163 = .ok (.ifCond .ne 10, 3) := by decide +kernel
theorem dX12_cutsUp_166 : decode cX12_cutsUp 166 = .ok (.bipush 20, 2) := by decide +kernel
theorem dX12_cutsUp_168 : decode cX12_cutsUp 168 = .ok (.iload 7, 2) := by decide +kernel
theorem dX12_cutsUp_170 : decode cX12_cutsUp 170 = .ok (.iadd, 1) := by decide +kernel
theorem dX12_cutsUp_171 : decode cX12_cutsUp 171 = .ok (.istore 6, 2) := by decide +kernel
theorem dX12_cutsUp_173 : decode cX12_cutsUp 173 = .ok (.iinc 7 1, 3) := by decide +kernel
theorem dX12_cutsUp_176 : decode cX12_cutsUp 176 = .ok (.goto (-30), 3) := by decide +kernel
theorem dX12_cutsUp_179 : decode cX12_cutsUp 179 = .ok (.aload_n 0, 1) := by decide +kernel
theorem dX12_cutsUp_180 : decode cX12_cutsUp 180 = .ok (.iload 6, 2) := by decide +kernel
theorem dX12_cutsUp_182 : decode cX12_cutsUp 182 = .ok (.iload_n 1, 1) := by decide +kernel
theorem dX12_cutsUp_183 : decode cX12_cutsUp 183 = .ok (.iconst 0, 1) := by decide +kernel
theorem dX12_cutsUp_184 : decode cX12_cutsUp 184 = .ok (.lload 4, 2) := by decide +kernel
theorem dX12_cutsUp_186 : decode cX12_cutsUp 186 = .ok (.invokevirtual 142, 3) := by decide +kernel
theorem dX12_cutsUp_189 : decode cX12_cutsUp 189 = .ok (.iload_n 1, 1) := by decide +kernel
theorem dX12_cutsUp_190 : decode cX12_cutsUp 190 = .ok (.iload_n 3, 1) := by decide +kernel
theorem dX12_cutsUp_191 : decode cX12_cutsUp 191 = .ok (.iadd, 1) := by decide +kernel
theorem dX12_cutsUp_192 : decode cX12_cutsUp 192 = .ok (.istore_n 1, 1) := by decide +kernel
theorem dX12_cutsUp_193 : decode cX12_cutsUp 193 = .ok (.goto 98, 3) := by decide +kernel
theorem dX12_cutsUp_196 : decode cX12_cutsUp 196 = .ok (.iload_n 2, 1) := by decide +kernel
theorem dX12_cutsUp_197 : decode cX12_cutsUp 197 = .ok (.invokestatic 150, 3) := by decide +kernel
theorem dX12_cutsUp_200 : decode cX12_cutsUp 200 = .ok (.ifCond .eq 75, 3) := by decide +kernel
theorem dX12_cutsUp_203 : decode cX12_cutsUp 203 = .ok (.iconst 0, 1) := by decide +kernel
theorem dX12_cutsUp_204 : decode cX12_cutsUp 204 = .ok (.istore_n 3, 1) := by decide +kernel
theorem dX12_cutsUp_205 : decode cX12_cutsUp 205 = .ok (.iconst 0, 1) := by decide +kernel
theorem dX12_cutsUp_206 : decode cX12_cutsUp 206 = .ok (.istore 4, 2) := by decide +kernel
theorem dX12_cutsUp_208 : decode cX12_cutsUp 208 = .ok (.aload_n 0, 1) := by decide +kernel
theorem dX12_cutsUp_209 : decode cX12_cutsUp 209 = .ok (.iload_n 1, 1) := by decide +kernel
theorem dX12_cutsUp_210 : decode cX12_cutsUp 210 = .ok (.iload_n 3, 1) := by decide +kernel
theorem dX12_cutsUp_211 : decode cX12_cutsUp 211 = .ok (.iadd, 1) := by decide +kernel
theorem dX12_cutsUp_212 : decode cX12_cutsUp 212 = .ok (.invokevirtual 138, 3) := by decide +kernel
theorem dX12_cutsUp_215 : decode cX12_cutsUp 215 = .ok (.invokestatic 150, 3) := by decide +kernel
theorem dX12_cutsUp_218 : decode cX12_cutsUp 218 = .ok (.ifCond .eq 32, 3) := by decide +kernel
theorem dX12_cutsUp_221 : decode cX12_cutsUp 221 = .ok (.iload_n 3, 1) := by decide +kernel
theorem dX12_cutsUp_222 : decode cX12_cutsUp 222 = .ok (.iconst 4, 1) := by decide +kernel
theorem dX12_cutsUp_223 : decode cX12_cutsUp 223 = .ok (.if_icmp .ge 21, 3) := by decide +kernel
theorem dX12_cutsUp_226 : decode cX12_cutsUp 226 = .ok (.bipush 10, 2) := by decide +kernel
theorem dX12_cutsUp_228 : decode cX12_cutsUp 228 = .ok (.iload 4, 2) := by decide +kernel
theorem dX12_cutsUp_230 : decode cX12_cutsUp 230 = .ok (.imul, 1) := by decide +kernel
theorem dX12_cutsUp_231 : decode cX12_cutsUp 231 = .ok (.aload_n 0, 1) := by decide +kernel
theorem dX12_cutsUp_232 : decode cX12_cutsUp 232 = .ok (.iload_n 1, 1) := by decide +kernel
theorem dX12_cutsUp_233 : decode cX12_cutsUp 233 = .ok (.iload_n 3, 1) := by decide +kernel
theorem dX12_cutsUp_234 : decode cX12_cutsUp 234 = .ok (.iadd, 1) := by decide +kernel
theorem dX12_cutsUp_235 : decode cX12_cutsUp 235 = .ok (.invokevirtual 138, 3) := by decide +kernel
theorem dX12_cutsUp_238 : decode cX12_cutsUp 238 = .ok (.iadd, 1) := by decide +kernel
theorem dX12_cutsUp_239 : decode cX12_cutsUp 239 = .ok (.bipush 48, 2) := by decide +kernel
theorem dX12_cutsUp_241 : decode cX12_cutsUp 241 = .ok (.isub, 1) := by decide +kernel
theorem dX12_cutsUp_242 : decode cX12_cutsUp 242 = .ok (.istore 4, 2) := by decide +kernel
theorem dX12_cutsUp_244 : decode cX12_cutsUp 244 = .ok (.iinc 3 1, 3) := by decide +kernel
theorem dX12_cutsUp_247 : decode cX12_cutsUp 247 = .ok (.goto (-39), 3) := by decide +kernel
theorem dX12_cutsUp_250 : decode cX12_cutsUp 250 = .ok (.aload_n 0, 1) := by decide +kernel
theorem dX12_cutsUp_251 : decode cX12_cutsUp 251 = .ok (.iload_n 3, 1) := by decide +kernel
theorem dX12_cutsUp_252 : decode cX12_cutsUp 252 = .ok (.iconst 4, 1) := by decide +kernel
theorem dX12_cutsUp_253 : decode cX12_cutsUp 253 = .ok (.if_icmp .le 7, 3) := by decide +kernel
theorem dX12_cutsUp_256 : decode cX12_cutsUp 256 = .ok (.iconst 3, 1) := by decide +kernel
theorem dX12_cutsUp_257 : decode cX12_cutsUp 257 = .ok (.goto 4, 3) := by decide +kernel
theorem dX12_cutsUp_260 : decode cX12_cutsUp 260 = .ok (.iconst 2, 1) := by decide +kernel
theorem dX12_cutsUp_261 : decode cX12_cutsUp 261 = .ok (.iload_n 1, 1) := by decide +kernel
theorem dX12_cutsUp_262 : decode cX12_cutsUp 262 = .ok (.iload 4, 2) := by decide +kernel
theorem dX12_cutsUp_264 : decode cX12_cutsUp 264 = .ok (.lconst 0, 1) := by decide +kernel
theorem dX12_cutsUp_265 : decode cX12_cutsUp 265 = .ok (.invokevirtual 142, 3) := by decide +kernel
theorem dX12_cutsUp_268 : decode cX12_cutsUp 268 = .ok (.iload_n 1, 1) := by decide +kernel
theorem dX12_cutsUp_269 : decode cX12_cutsUp 269 = .ok (.iload_n 3, 1) := by decide +kernel
theorem dX12_cutsUp_270 : decode cX12_cutsUp 270 = .ok (.iadd, 1) := by decide +kernel
theorem dX12_cutsUp_271 : decode cX12_cutsUp 271 = .ok (.istore_n 1, 1) := by decide +kernel
theorem dX12_cutsUp_272 : decode cX12_cutsUp 272 = .ok (.goto 19, 3) := by decide +kernel
theorem dX12_cutsUp_275 : decode cX12_cutsUp 275 = .ok (.iload_n 1, 1) := by decide +kernel
theorem dX12_cutsUp_276 : decode cX12_cutsUp 276 = .ok (.aload_n 0, 1) := by decide +kernel
theorem dX12_cutsUp_277 : decode cX12_cutsUp 277 = .ok (.iload_n 1, 1) := by decide +kernel
theorem dX12_cutsUp_278 : decode cX12_cutsUp 278 = .ok (.iload_n 2, 1) := by decide +kernel
theorem dX12_cutsUp_279 : decode cX12_cutsUp 279 = .ok (.aload_n 0, 1) := by decide +kernel
theorem dX12_cutsUp_280 : decode cX12_cutsUp 280 = .ok (.iload_n 1, 1) := by decide +kernel
theorem dX12_cutsUp_281 : decode cX12_cutsUp 281 = .ok (.iconst 1, 1) := by decide +kernel
theorem dX12_cutsUp_282 : decode cX12_cutsUp 282 = .ok (.iadd, 1) := by decide +kernel
theorem dX12_cutsUp_283 : decode cX12_cutsUp 283 = .ok (.invokevirtual 138, 3) := by decide +kernel
theorem dX12_cutsUp_286 : decode cX12_cutsUp 286 = .ok (.invokevirtual 153, 3) := by decide +kernel
theorem dX12_cutsUp_289 : decode cX12_cutsUp 289 = .ok (.iadd, 1) := by decide +kernel
theorem dX12_cutsUp_290 : decode cX12_cutsUp 290 = .ok (.istore_n 1, 1) := by decide +kernel
theorem dX12_cutsUp_291 : decode cX12_cutsUp 291 = .ok (.goto (-284), 3) := by decide +kernel
theorem dX12_cutsUp_294 : decode cX12_cutsUp 294 = .ok (.return_, 1) := by decide +kernel
theorem dX12_sign_0 : decode cX12_sign 0 = .ok (.iload_n 2, 1) := by decide +kernel
theorem dX12_sign_1 : decode cX12_sign 1 = .ok (.bipush 59, 2) := by decide +kernel
theorem dX12_sign_3 : decode cX12_sign 3 = .ok (.if_icmp .ne 7, 3) := by decide +kernel
theorem dX12_sign_6 : decode cX12_sign 6 = .ok (.iconst 4, 1) := by decide +kernel
theorem dX12_sign_7 : decode cX12_sign 7 = .ok (.goto 26, 3) := by decide +kernel
theorem dX12_sign_10 : decode cX12_sign 10 = .ok (.iload_n 2, 1) := by decide +kernel
theorem dX12_sign_11 : decode cX12_sign 11 = .ok (.bipush 40, 2) := by decide +kernel
theorem dX12_sign_13 : decode cX12_sign 13 = .ok (.if_icmp .ne 8, 3) := by decide +kernel
theorem dX12_sign_16 : decode cX12_sign 16 = .ok (.bipush 6, 2) := by decide +kernel
theorem dX12_sign_18 : decode cX12_sign 18 = .ok (.goto 15, 3) := by decide +kernel
theorem dX12_sign_21 : decode cX12_sign 21 = .ok (.iload_n 2, 1) := by decide +kernel
theorem dX12_sign_22 : decode cX12_sign 22 = .ok (.bipush 41, 2) := by decide +kernel
theorem dX12_sign_24 : decode cX12_sign 24 = .ok (.if_icmp .ne 8, 3) := by decide +kernel
theorem dX12_sign_27 : decode cX12_sign 27 = .ok (.bipush 7, 2) := by decide +kernel
theorem dX12_sign_29 : decode cX12_sign 29 = .ok (.goto 4, 3) := by decide +kernel
theorem dX12_sign_32 : decode cX12_sign 32 = .ok (.iconst 3, 1) := by decide +kernel
theorem dX12_sign_33 : decode cX12_sign 33 = .ok (.istore 4, 2) := by decide +kernel
theorem dX12_sign_35 : decode cX12_sign 35 = .ok (.iload_n 2, 1) := by decide +kernel
theorem dX12_sign_36 : decode cX12_sign 36 = .ok (.bipush 43, 2) := by decide +kernel
theorem dX12_sign_38 : decode cX12_sign 38 = .ok (.if_icmp .ne 7, 3) := by decide +kernel
theorem dX12_sign_41 : decode cX12_sign 41 = .ok (.bipush 8, 2) := by decide +kernel
theorem dX12_sign_43 : decode cX12_sign 43 = .ok (.istore 4, 2) := by decide +kernel
theorem dX12_sign_45 : decode cX12_sign 45 = .ok (.iload_n 2, 1) := by decide +kernel
theorem dX12_sign_46 : decode cX12_sign 46 = .ok (.bipush 45, 2) := by decide +kernel
theorem dX12_sign_48 : decode cX12_sign 48 = .ok (.if_icmp .ne 7, 3) := by decide +kernel
theorem dX12_sign_51 : decode cX12_sign 51 = .ok (.bipush 9, 2) := by decide +kernel
theorem dX12_sign_53 : decode cX12_sign 53 = .ok (.istore 4, 2) := by decide +kernel
theorem dX12_sign_55 : decode cX12_sign 55 = .ok (.iload_n 2, 1) := by decide +kernel
theorem dX12_sign_56 : decode cX12_sign 56 = .ok (.bipush 42, 2) := by decide +kernel
theorem dX12_sign_58 : decode cX12_sign 58 = .ok (.if_icmp .ne 7, 3) := by decide +kernel
theorem dX12_sign_61 : decode cX12_sign 61 = .ok (.bipush 10, 2) := by decide +kernel
theorem dX12_sign_63 : decode cX12_sign 63 = .ok (.istore 4, 2) := by decide +kernel
theorem dX12_sign_65 : decode cX12_sign 65 = .ok (.iload_n 2, 1) := by decide +kernel
theorem dX12_sign_66 : decode cX12_sign 66 = .ok (.bipush 47, 2) := by decide +kernel
theorem dX12_sign_68 : decode cX12_sign 68 = .ok (.if_icmp .ne 7, 3) := by decide +kernel
theorem dX12_sign_71 : decode cX12_sign 71 = .ok (.bipush 15, 2) := by decide +kernel
theorem dX12_sign_73 : decode cX12_sign 73 = .ok (.istore 4, 2) := by decide +kernel
theorem dX12_sign_75 : decode cX12_sign 75 = .ok (.iload_n 2, 1) := by decide +kernel
theorem dX12_sign_76 : decode cX12_sign 76 = .ok (.bipush 37, 2) := by decide +kernel
theorem dX12_sign_78 : decode cX12_sign 78 = .ok (.if_icmp .ne 7, 3) := by decide +kernel
theorem dX12_sign_81 : decode cX12_sign 81 = .ok (.bipush 16, 2) := by decide +kernel
theorem dX12_sign_83 : decode cX12_sign 83 = .ok (.istore 4, 2) := by decide +kernel
theorem dX12_sign_85 : decode cX12_sign 85 = .ok (.aload_n 0, 1) := by decide +kernel
theorem dX12_sign_86 : decode cX12_sign 86 = .ok (.iload 4, 2) := by decide +kernel
theorem dX12_sign_88 : decode cX12_sign 88 = .ok (.iload_n 1, 1) := by decide +kernel
theorem dX12_sign_89 : decode cX12_sign 89 = .ok (.iconst 0, 1) := by decide +kernel
theorem dX12_sign_90 : decode cX12_sign 90 = .ok (.lconst 0, 1) := by decide +kernel
theorem dX12_sign_91 : decode cX12_sign 91 = .ok (.invokevirtual 142, 3) := by decide +kernel
theorem dX12_sign_94 : decode cX12_sign 94 = .ok (.iconst 1, 1) := by decide +kernel
theorem dX12_sign_95 : decode cX12_sign 95 = .ok (.ireturn, 1) := by decide +kernel
theorem dX12_is_0 : decode cX12_is 0 = .ok (.aload_n 0, 1) := by decide +kernel
theorem dX12_is_1 : decode cX12_is 1 = .ok (.getfield 157, 3) := by decide +kernel
theorem dX12_is_4 : decode cX12_is 4 = .ok (.ifCond .ne 20, 3) := by decide +kernel
theorem dX12_is_7 : decode cX12_is 7 = .ok (.aload_n 0, 1) := by decide +kernel
theorem dX12_is_8 : decode cX12_is 8 = .ok (.getfield 20, 3) := by decide +kernel
theorem dX12_is_11 : decode cX12_is 11 = .ok (.aload_n 0, 1) := by decide +kernel
theorem dX12_is_12 : decode cX12_is 12 = .ok (.getfield 160, 3) := by decide +kernel
theorem dX12_is_15 : decode cX12_is 15 = .ok (.iaload, 1) := by decide +kernel
theorem dX12_is_16 : decode cX12_is 16 = .ok (.iload_n 1, 1) := by decide +kernel
theorem dX12_is_17 : decode cX12_is 17 = .ok (.if_icmp .ne 7, 3) := by decide +kernel
theorem dX12_is_20 : decode cX12_is 20 = .ok (.iconst 1, 1) := by decide +kernel
theorem dX12_is_21 : decode cX12_is 21 = .ok (.goto 4, 3) := by decide +kernel
theorem dX12_is_24 : decode cX12_is 24 = .ok (.iconst 0, 1) := by decide +kernel
theorem dX12_is_25 : decode cX12_is 25 = .ok (.ireturn, 1) := by decide +kernel
theorem dX12_fail_0 : decode cX12_fail 0 = .ok (.aload_n 0, 1) := by decide +kernel
theorem dX12_fail_1 : decode cX12_fail 1 = .ok (.getfield 157, 3) := by decide +kernel
theorem dX12_fail_4 : decode cX12_fail 4 = .ok (.ifCond .le 4, 3) := by decide +kernel
theorem dX12_fail_7 : decode cX12_fail 7 = .ok (.return_, 1) := by decide +kernel
theorem dX12_fail_8 : decode cX12_fail 8 = .ok (.aload_n 0, 1) := by decide +kernel
theorem dX12_fail_9 : decode cX12_fail 9 = .ok (.iload_n 1, 1) := by decide +kernel
theorem dX12_fail_10 : decode cX12_fail 10 = .ok (.putfield 157, 3) := by decide +kernel
theorem dX12_fail_13 : decode cX12_fail 13 = .ok (.aload_n 0, 1) := by decide +kernel
theorem dX12_fail_14 : decode cX12_fail 14 = .ok (.aload_n 0, 1) := by decide +kernel
theorem dX12_fail_15 : decode cX12_fail 15 = .ok (.getfield 24, 3) := by decide +kernel
theorem dX12_fail_18 : decode cX12_fail 18 = .ok (.aload_n 0, 1) := by decide +kernel
theorem dX12_fail_19 : decode cX12_fail 19 = .ok (.getfield 160, 3) := by decide +kernel
theorem dX12_fail_22 : decode cX12_fail 22 = .ok (.iaload, 1) := by decide +kernel
theorem dX12_fail_23 : decode cX12_fail 23 = .ok (.putfield 163, 3) := by decide +kernel
theorem dX12_fail_26 : decode cX12_fail 26 = .ok (.return_, 1) := by decide +kernel
theorem dX12_wrong_0 : decode cX12_wrong 0 = .ok (.aload_n 0, 1) := by decide +kernel
theorem dX12_wrong_1 : decode cX12_wrong 1 = .ok (.getfield 24, 3) := by decide +kernel
theorem dX12_wrong_4 : decode cX12_wrong 4 = .ok (.iload_n 2, 1) := by decide +kernel
theorem dX12_wrong_5 : decode cX12_wrong 5 = .ok (.iaload, 1) := by decide +kernel
theorem dX12_wrong_6 : decode cX12_wrong 6 = .ok (.istore_n 3, 1) := by decide +kernel
theorem dX12_wrong_7 : decode cX12_wrong 7 = .ok (.aload_n 0, 1) := by decide +kernel
theorem dX12_wrong_8 : decode cX12_wrong 8 = .ok (.getfield 157, 3) := by decide +kernel
theorem dX12_wrong_11 : decode cX12_wrong 11 = .ok (.ifCond .gt 34, 3) := by decide +kernel
theorem dX12_wrong_14 : decode cX12_wrong 14 = .ok (.aload_n 0, 1) := by decide +kernel
theorem dX12_wrong_15 : decode cX12_wrong 15 = .ok (.getfield 166, 3) := by decide +kernel
theorem dX12_wrong_18 : decode cX12_wrong 18 = .ok (.ifCond .eq 28, 3) := by decide +kernel
theorem dX12_wrong_21 : decode cX12_wrong 21 = .ok (.iload_n 3, 1) := by decide +kernel
theorem dX12_wrong_22 : decode cX12_wrong 22 = .ok (.aload_n 0, 1) := by decide +kernel
theorem dX12_wrong_23 : decode cX12_wrong 23 = .ok (.getfield 169, 3) := by decide +kernel
theorem dX12_wrong_26 : decode cX12_wrong 26 = .ok (.if_icmp .gt 19, 3) := by decide +kernel
theorem dX12_wrong_29 : decode cX12_wrong 29 = .ok (.iload_n 3, 1) := by decide +kernel
theorem dX12_wrong_30 : decode cX12_wrong 30 = .ok (.aload_n 0, 1) := by decide +kernel
theorem dX12_wrong_31 : decode cX12_wrong 31 = .ok (.getfield 169, 3) := by decide +kernel
theorem dX12_wrong_34 : decode cX12_wrong 34 = .ok (.if_icmp .ne 12, 3) := by decide +kernel
theorem dX12_wrong_37 : decode cX12_wrong 37 = .ok (.iload_n 1, 1) := by decide +kernel
theorem dX12_wrong_38 : decode cX12_wrong 38 = .ok (.aload_n 0, 1) := by decide +kernel
theorem dX12_wrong_39 : decode cX12_wrong 39 = .ok (.getfield 166, 3) := by decide +kernel
theorem dX12_wrong_42 : decode cX12_wrong 42 = .ok (.if_icmp .lt 4, 3) := by decide +kernel
theorem dX12_wrong_45 : decode cX12_wrong 45 = .ok (.return_, 1) := by decide +kernel
theorem dX12_wrong_46 : decode cX12_wrong 46 = .ok (.aload_n 0, 1) := by decide +kernel
theorem dX12_wrong_47 : decode cX12_wrong 47 = .ok (.iload_n 1, 1) := by decide +kernel
theorem dX12_wrong_48 : decode cX12_wrong 48 = .ok (.putfield 166, 3) := by decide +kernel
theorem dX12_wrong_51 : decode cX12_wrong 51 = .ok (.aload_n 0, 1) := by decide +kernel
theorem dX12_wrong_52 : decode cX12_wrong 52 = .ok (.iload_n 3, 1) := by decide +kernel
theorem dX12_wrong_53 : decode cX12_wrong 53 = .ok (.putfield 169, 3) := by decide +kernel
theorem dX12_wrong_56 : decode cX12_wrong 56 = .ok (.return_, 1) := by decide +kernel
theorem dX12_goesOn_0 : decode cX12_goesOn 0 = .ok (.aload_n 0, 1) := by decide +kernel
theorem dX12_goesOn_1 : decode cX12_goesOn 1 = .ok (.getfield 160, 3) := by decide +kernel
theorem dX12_goesOn_4 : decode cX12_goesOn 4 = .ok (.sipush 400, 3) := by decide +kernel
theorem dX12_goesOn_7 : decode cX12_goesOn 7 = .ok (.if_icmp .ne 11, 3) := by decide +kernel
theorem dX12_goesOn_10 : decode cX12_goesOn 10 = .ok (.aload_n 0, 1) := by decide +kernel
theorem dX12_goesOn_11 : decode cX12_goesOn 11 = .ok (.iconst 2, 1) := by decide +kernel
theorem dX12_goesOn_12 : decode cX12_goesOn 12 = .ok (.invokevirtual 172, 3) := by decide +kernel
theorem dX12_goesOn_15 : decode cX12_goesOn 15 = .ok (.goto 13, 3) := by decide +kernel
theorem dX12_goesOn_18 : decode cX12_goesOn 18 = .ok (.aload_n 0, 1) := by decide +kernel
theorem dX12_goesOn_19 : decode cX12_goesOn 19 = .ok (.dup, 1) := by decide +kernel
theorem dX12_goesOn_20 : decode cX12_goesOn 20 = .ok (.getfield 160, 3) := by decide +kernel
theorem dX12_goesOn_23 : decode cX12_goesOn 23 = .ok (.iconst 1, 1) := by decide +kernel
theorem dX12_goesOn_24 : decode cX12_goesOn 24 = .ok (.iadd, 1) := by decide +kernel
theorem dX12_goesOn_25 : decode cX12_goesOn 25 = .ok (.putfield 160, 3) := by decide +kernel
theorem dX12_goesOn_28 : decode cX12_goesOn 28 = .ok (.return_, 1) := by decide +kernel
theorem dX12_must_0 : decode cX12_must 0 = .ok (.aload_n 0, 1) := by decide +kernel
theorem dX12_must_1 : decode cX12_must 1 = .ok (.iload_n 1, 1) := by decide +kernel
theorem dX12_must_2 : decode cX12_must 2 = .ok (.invokevirtual 175, 3) := by decide +kernel
theorem dX12_must_5 : decode cX12_must 5 = .ok (.ifCond .eq 10, 3) := by decide +kernel
theorem dX12_must_8 : decode cX12_must 8 = .ok (.aload_n 0, 1) := by decide +kernel
theorem dX12_must_9 : decode cX12_must 9 = .ok (.invokevirtual 178, 3) := by decide +kernel
theorem dX12_must_12 : decode cX12_must 12 = .ok (.goto 8, 3) := by decide +kernel
theorem dX12_must_15 : decode cX12_must 15 = .ok (.aload_n 0, 1) := by decide +kernel
theorem dX12_must_16 : decode cX12_must 16 = .ok (.iconst 1, 1) := by decide +kernel
theorem dX12_must_17 : decode cX12_must 17 = .ok (.invokevirtual 172, 3) := by decide +kernel
theorem dX12_must_20 : decode cX12_must 20 = .ok (.return_, 1) := by decide +kernel
theorem dX12_read_0 : decode cX12_read 0 = .ok (.aload_n 0, 1) := by decide +kernel
theorem dX12_read_1 : decode cX12_read 1 = .ok (.aload_n 0, 1) := by decide +kernel
theorem dX12_read_2 : decode cX12_read 2 = .ok (.getfield 120, 3) := by decide +kernel
theorem dX12_read_5 : decode cX12_read 5 = .ok (.putfield 126, 3) := by decide +kernel
theorem dX12_read_8 : decode cX12_read 8 = .ok (.iconst 0, 1) := by decide +kernel
theorem dX12_read_9 : decode cX12_read 9 = .ok (.istore_n 1, 1) := by decide +kernel
theorem dX12_read_10 : decode cX12_read 10 = .ok (.iload_n 1, 1) := by decide +kernel
theorem dX12_read_11 : decode cX12_read 11 = .ok (.aload_n 0, 1) := by decide +kernel
theorem dX12_read_12 : decode cX12_read 12 = .ok (.getfield 126, 3) := by decide +kernel
theorem dX12_read_15 : decode cX12_read 15 = .ok (.if_icmp .ge 21, 3) := by decide +kernel
theorem dX12_read_18 : decode cX12_read 18 = .ok (.aload_n 0, 1) := by decide +kernel
theorem dX12_read_19 : decode cX12_read 19 = .ok (.getfield 17, 3) := by decide +kernel
theorem dX12_read_22 : decode cX12_read 22 = .ok (.iload_n 1, 1) := by decide +kernel
theorem dX12_read_23 : decode cX12_read 23 = .ok (.aload_n 0, 1) := by decide +kernel
theorem dX12_read_24 : decode cX12_read 24 = .ok (.getfield 13, 3) := by decide +kernel
theorem dX12_read_27 : decode cX12_read 27 = .ok (.iload_n 1, 1) := by decide +kernel
theorem dX12_read_28 : decode cX12_read 28 = .ok (.baload, 1) := by decide +kernel
theorem dX12_read_29 : decode cX12_read 29 = .ok (.bastore, 1) := by decide +kernel
theorem dX12_read_30 : decode cX12_read 30 = .ok (.iinc 1 1, 3) := by decide +kernel
theorem dX12_read_33 : decode cX12_read 33 = .ok (.goto (-23), 3) := by decide +kernel
theorem dX12_read_36 : decode cX12_read 36 = .ok (.aload_n 0, 1) := by decide +kernel
theorem dX12_read_37 : decode cX12_read 37 = .ok (.iconst 0, 1) := by decide +kernel
theorem dX12_read_38 : decode cX12_read 38 = .ok (.putfield 120, 3) := by decide +kernel
theorem dX12_read_41 : decode cX12_read 41 = .ok (.aload_n 0, 1) := by decide +kernel
theorem dX12_read_42 : decode cX12_read 42 = .ok (.invokevirtual 181, 3) := by decide +kernel
theorem dX12_read_45 : decode cX12_read 45 = .ok (.aload_n 0, 1) := by decide +kernel
theorem dX12_read_46 : decode cX12_read 46 = .ok (.iconst 0, 1) := by decide +kernel
theorem dX12_read_47 : decode cX12_read 47 = .ok (.putfield 160, 3) := by decide +kernel
theorem dX12_read_50 : decode cX12_read 50 = .ok (.aload_n 0, 1) := by decide +kernel
theorem dX12_read_51 : decode cX12_read 51 = .ok (.iconst 0, 1) := by decide +kernel
theorem dX12_read_52 : decode cX12_read 52 = .ok (.putfield 184, 3) := by decide +kernel
theorem dX12_read_55 : decode cX12_read 55 = .ok (.aload_n 0, 1) := by decide +kernel
theorem dX12_read_56 : decode cX12_read 56 = .ok (.iconst 0, 1) := by decide +kernel
theorem dX12_read_57 : decode cX12_read 57 = .ok (.putfield 157, 3) := by decide +kernel
theorem dX12_read_60 : decode cX12_read 60 = .ok (.aload_n 0, 1) := by decide +kernel
theorem dX12_read_61 : decode cX12_read 61 = .ok (.iconst 0, 1) := by decide +kernel
theorem dX12_read_62 : decode cX12_read 62 = .ok (.putfield 166, 3) := by decide +kernel
theorem dX12_read_65 : decode cX12_read 65 = .ok (.aload_n 0, 1) := by decide +kernel
theorem dX12_read_66 : decode cX12_read 66 = .ok (.iconst 0, 1) := by decide +kernel
theorem dX12_read_67 : decode cX12_read 67 = .ok (.putfield 187, 3) := by decide +kernel
theorem dX12_read_70 : decode cX12_read 70 = .ok (.aload_n 0, 1) := by decide +kernel
theorem dX12_read_71 : decode cX12_read 71 = .ok (.iconst 0, 1) := by decide +kernel
theorem dX12_read_72 : decode cX12_read 72 = .ok (.putfield 190, 3) := by decide +kernel
theorem dX12_read_75 : decode cX12_read 75 = .ok (.aload_n 0, 1) := by decide +kernel
theorem dX12_read_76 : decode cX12_read 76 = .ok (.iconst 0, 1) := by decide +kernel
theorem dX12_read_77 : decode cX12_read 77 = .ok (.putfield 193, 3) := by decide +kernel
theorem dX12_read_80 : decode cX12_read 80 = .ok (.bipush 8, 2) := by decide +kernel
theorem dX12_read_82 : decode cX12_read 82 = .ok (.istore_n 1, 1) := by decide +kernel
theorem dX12_read_83 : decode cX12_read 83 = .ok (.aload_n 0, 1) := by decide +kernel
theorem dX12_read_84 : decode cX12_read 84 = .ok (.bipush 20, 2) := by decide +kernel
theorem dX12_read_86 : decode cX12_read 86 = .ok (.invokevirtual 175, 3) := by decide +kernel
theorem dX12_read_89 : decode cX12_read 89 = .ok (.ifCond .eq 21, 3) := by decide +kernel
theorem dX12_read_92 : decode cX12_read 92 = .ok (.aload_n 0, 1) := by decide +kernel
theorem dX12_read_93 : decode cX12_read 93 = .ok (.invokevirtual 178, 3) := by decide +kernel
theorem dX12_read_96 : decode cX12_read 96 = .ok (.aload_n 0, 1) := by decide +kernel
theorem dX12_read_97 : decode cX12_read 97 = .ok (.bipush 6, 2) := by decide +kernel
theorem dX12_read_99 : decode cX12_read 99 = .ok (.bipush 12, 2) := by decide +kernel
theorem dX12_read_101 : decode cX12_read 101 = .ok (.invokevirtual 196, 3) := by decide +kernel
theorem dX12_read_104 : decode cX12_read 104 = .ok (.istore_n 1, 1) := by decide +kernel
theorem dX12_read_105 : decode cX12_read 105 = .ok (.aload_n 0, 1) := by decide +kernel
theorem dX12_read_106 : decode cX12_read 106 = .ok (.iconst 4, 1) := by decide +kernel
theorem dX12_read_107 : decode cX12_read 107 = .ok (.invokevirtual 200, 3) := by decide +kernel
theorem dX12_read_110 : decode cX12_read 110 = .ok (.aload_n 0, 1) := by decide +kernel
theorem dX12_read_111 : decode cX12_read 111 = .ok (.getfield 157, 3) := by decide +kernel
theorem dX12_read_114 : decode cX12_read 114 = .ok (.ifCond .ne 18, 3) := by decide +kernel
theorem dX12_read_117 : decode cX12_read 117 = .ok (.aload_n 0, 1) := by decide +kernel
theorem dX12_read_118 : decode cX12_read 118 = .ok (.iconst 0, 1) := by decide +kernel
theorem dX12_read_119 : decode cX12_read 119 = .ok (.invokevirtual 175, 3) := by decide +kernel
theorem dX12_read_122 : decode cX12_read 122 = .ok (.ifCond .ne 10, 3) := by decide +kernel
theorem dX12_read_125 : decode cX12_read 125 = .ok (.aload_n 0, 1) := by decide +kernel
theorem dX12_read_126 : decode cX12_read 126 = .ok (.invokevirtual 203, 3) := by decide +kernel
theorem dX12_read_129 : decode cX12_read 129 = .ok (.goto (-19), 3) := by decide +kernel
theorem dX12_read_132 : decode cX12_read 132 = .ok (.aload_n 0, 1) := by decide +kernel
theorem dX12_read_133 : decode cX12_read 133 = .ok (.getfield 157, 3) := by decide +kernel
theorem dX12_read_136 : decode cX12_read 136 = .ok (.ifCond .ne 15, 3) := by decide +kernel
theorem dX12_read_139 : decode cX12_read 139 = .ok (.aload_n 0, 1) := by decide +kernel
theorem dX12_read_140 : decode cX12_read 140 = .ok (.getfield 190, 3) := by decide +kernel
theorem dX12_read_143 : decode cX12_read 143 = .ok (.ifCond .le 8, 3) := by decide +kernel
theorem dX12_read_146 : decode cX12_read 146 = .ok (.aload_n 0, 1) := by decide +kernel
theorem dX12_read_147 : decode cX12_read 147 = .ok (.iconst 1, 1) := by decide +kernel
theorem dX12_read_148 : decode cX12_read 148 = .ok (.invokevirtual 172, 3) := by decide +kernel
theorem dX12_read_151 : decode cX12_read 151 = .ok (.aload_n 0, 1) := by decide +kernel
theorem dX12_read_152 : decode cX12_read 152 = .ok (.aload_n 0, 1) := by decide +kernel
theorem dX12_read_153 : decode cX12_read 153 = .ok (.getfield 157, 3) := by decide +kernel
theorem dX12_read_156 : decode cX12_read 156 = .ok (.ifCond .le 10, 3) := by decide +kernel
theorem dX12_read_159 : decode cX12_read 159 = .ok (.aload_n 0, 1) := by decide +kernel
theorem dX12_read_160 : decode cX12_read 160 = .ok (.getfield 163, 3) := by decide +kernel
theorem dX12_read_163 : decode cX12_read 163 = .ok (.goto 18, 3) := by decide +kernel
theorem dX12_read_166 : decode cX12_read 166 = .ok (.aload_n 0, 1) := by decide +kernel
theorem dX12_read_167 : decode cX12_read 167 = .ok (.getfield 166, 3) := by decide +kernel
theorem dX12_read_170 : decode cX12_read 170 = .ok (.ifCond .le 10, 3) := by decide +kernel
theorem dX12_read_173 : decode cX12_read 173 = .ok (.aload_n 0, 1) := by decide +kernel
theorem dX12_read_174 : decode cX12_read 174 = .ok (.getfield 169, 3) := by decide +kernel
theorem dX12_read_177 : decode cX12_read 177 = .ok (.goto 4, 3) := by decide +kernel
theorem dX12_read_180 : decode cX12_read 180 = .ok (.iconst (-1), 1) := by decide +kernel
theorem dX12_read_181 : decode cX12_read 181 = .ok (.putfield 37, 3) := by decide +kernel
theorem dX12_read_184 : decode cX12_read 184 = .ok (.aload_n 0, 1) := by decide +kernel
theorem dX12_read_185 : decode cX12_read 185 = .ok (.getfield 157, 3) := by decide +kernel
theorem dX12_read_188 : decode cX12_read 188 = .ok (.ifCond .le 8, 3) := by decide +kernel
theorem dX12_read_191 : decode cX12_read 191 = .ok (.aload_n 0, 1) := by decide +kernel
theorem dX12_read_192 : decode cX12_read 192 = .ok (.getfield 157, 3) := by decide +kernel
theorem dX12_read_195 : decode cX12_read 195 = .ok (.ireturn, 1) := by decide +kernel
theorem dX12_read_196 : decode cX12_read 196 = .ok (.aload_n 0, 1) := by decide +kernel
theorem dX12_read_197 : decode cX12_read 197 = .ok (.getfield 166, 3) := by decide +kernel
theorem dX12_read_200 : decode cX12_read 200 = .ok (.ifCond .le 8, 3) := by decide +kernel
theorem dX12_read_203 : decode cX12_read 203 = .ok (.aload_n 0, 1) := by decide +kernel
theorem dX12_read_204 : decode cX12_read 204 = .ok (.getfield 166, 3) := by decide +kernel
theorem dX12_read_207 : decode cX12_read 207 = .ok (.ireturn, 1) := by decide +kernel
theorem dX12_read_208 : decode cX12_read 208 = .ok (.aload_n 0, 1) := by decide +kernel
theorem dX12_read_209 : decode cX12_read 209 = .ok (.iload_n 1, 1) := by decide +kernel
theorem dX12_read_210 : decode cX12_read 210 = .ok (.invokevirtual 116, 3) := by decide +kernel
theorem dX12_read_213 : decode cX12_read 213 = .ok (.iconst 0, 1) := by decide +kernel
theorem dX12_read_214 : decode cX12_read 214 = .ok (.istore_n 2, 1) := by decide +kernel
theorem dX12_read_215 : decode cX12_read 215 = .ok (.iload_n 2, 1) := by decide +kernel
theorem dX12_read_216 : decode cX12_read 216 = .ok (.iconst 3, 1) := by decide +kernel
theorem dX12_read_217 : decode cX12_read 217 = .ok (.if_icmp .ge 16, 3) := by decide +kernel
theorem dX12_read_220 : decode cX12_read 220 = .ok (.aload_n 0, 1) := by decide +kernel
theorem dX12_read_221 : decode cX12_read 221 = .ok (.getfield 104, 3) := by decide +kernel
theorem dX12_read_224 : decode cX12_read 224 = .ok (.iload_n 2, 1) := by decide +kernel
theorem dX12_read_225 : decode cX12_read 225 = .ok (.iconst 0, 1) := by decide +kernel
theorem dX12_read_226 : decode cX12_read 226 = .ok (.bastore, 1) := by decide +kernel
theorem dX12_read_227 : decode cX12_read 227 = .ok (.iinc 2 1, 3) := by decide +kernel
theorem dX12_read_230 : decode cX12_read 230 = .ok (.goto (-15), 3) := by decide +kernel
theorem dX12_read_233 : decode cX12_read 233 = .ok (.aload_n 0, 1) := by decide +kernel
theorem dX12_read_234 : decode cX12_read 234 = .ok (.invokevirtual 206, 3) := by decide +kernel
theorem dX12_read_237 : decode cX12_read 237 = .ok (.iconst 0, 1) := by decide +kernel
theorem dX12_read_238 : decode cX12_read 238 = .ok (.ireturn, 1) := by decide +kernel
theorem dX12_place_0 : decode cX12_place 0 = .ok (.aload_n 0, 1) := by decide +kernel
theorem dX12_place_1 : decode cX12_place 1 = .ok (.getfield 37, 3) := by decide +kernel
theorem dX12_place_4 : decode cX12_place 4 = .ok (.ireturn, 1) := by decide +kernel
theorem dX12_bounded_0 : decode cX12_bounded 0 = .ok (.aload_n 0, 1) := by decide +kernel
theorem dX12_bounded_1 : decode cX12_bounded 1 = .ok (.getfield 157, 3) := by decide +kernel
theorem dX12_bounded_4 : decode cX12_bounded 4 = .ok (.ifCond .gt 11, 3) := by decide +kernel
theorem dX12_bounded_7 : decode cX12_bounded 7 = .ok (.aload_n 0, 1) := by decide +kernel
theorem dX12_bounded_8 : decode cX12_bounded 8 = .ok (.iconst 2, 1) := by decide +kernel
theorem dX12_bounded_9 : decode cX12_bounded 9 = .ok (.invokevirtual 175, 3) := by decide +kernel
theorem dX12_bounded_12 : decode cX12_bounded 12 = .ok (.ifCond .ne 10, 3) := by decide +kernel
theorem dX12_bounded_15 : decode cX12_bounded 15 = .ok (.aload_n 0, 1) := by decide +kernel
theorem dX12_bounded_16 : decode cX12_bounded 16 = .ok (.iconst 1, 1) := by decide +kernel
theorem dX12_bounded_17 : decode cX12_bounded 17 = .ok (.invokevirtual 172, 3) := by decide +kernel
theorem dX12_bounded_20 : decode cX12_bounded 20 = .ok (.iload_n 1, 1) := by decide +kernel
theorem dX12_bounded_21 : decode cX12_bounded 21 = .ok (.ireturn, 1) := by decide +kernel
theorem dX12_bounded_22 : decode cX12_bounded 22 = .ok (.aload_n 0, 1) := by decide +kernel
theorem dX12_bounded_23 : decode cX12_bounded 23 = .ok (.getfield 27, 3) := by decide +kernel
theorem dX12_bounded_26 : decode cX12_bounded 26 = .ok (.aload_n 0, 1) := by decide +kernel
theorem dX12_bounded_27 : decode cX12_bounded 27 = .ok (.getfield 160, 3) := by decide +kernel
theorem dX12_bounded_30 : decode cX12_bounded 30 = .ok (.iaload, 1) := by decide +kernel
theorem dX12_bounded_31 : decode cX12_bounded 31 = .ok (.istore_n 3, 1) := by decide +kernel
theorem dX12_bounded_32 : decode cX12_bounded 32 = .ok (.iload_n 3, 1) := by decide +kernel
theorem dX12_bounded_33 : decode cX12_bounded 33 = .ok (.iload_n 1, 1) := by decide +kernel
theorem dX12_bounded_34 : decode cX12_bounded 34 = .ok (.if_icmp .lt 8, 3) := by decide +kernel
theorem dX12_bounded_37 : decode cX12_bounded 37 = .ok (.iload_n 3, 1) := by decide +kernel
theorem dX12_bounded_38 : decode cX12_bounded 38 = .ok (.iload_n 2, 1) := by decide +kernel
theorem dX12_bounded_39 : decode cX12_bounded 39 = .ok (.if_icmp .le 12, 3) := by decide +kernel
theorem dX12_bounded_42 : decode cX12_bounded 42 = .ok (.aload_n 0, 1) := by decide +kernel
theorem dX12_bounded_43 : decode cX12_bounded 43 = .ok (.iconst 5, 1) := by decide +kernel
theorem dX12_bounded_44 : decode cX12_bounded 44 = .ok (.aload_n 0, 1) := by decide +kernel
theorem dX12_bounded_45 : decode cX12_bounded 45 = .ok (.getfield 160, 3) := by decide +kernel
theorem dX12_bounded_48 : decode cX12_bounded 48 = .ok (.invokevirtual 209, 3) := by decide +kernel
theorem dX12_bounded_51 : decode cX12_bounded 51 = .ok (.aload_n 0, 1) := by decide +kernel
theorem dX12_bounded_52 : decode cX12_bounded 52 = .ok (.invokevirtual 178, 3) := by decide +kernel
theorem dX12_bounded_55 : decode cX12_bounded 55 = .ok (.iload_n 3, 1) := by decide +kernel
theorem dX12_bounded_56 : decode cX12_bounded 56 = .ok (.ireturn, 1) := by decide +kernel
theorem dX12_tellOne_0 : decode cX12_tellOne 0 = .ok (.aload_n 0, 1) := by decide +kernel
theorem dX12_tellOne_1 : decode cX12_tellOne 1 = .ok (.getfield 187, 3) := by decide +kernel
theorem dX12_tellOne_4 : decode cX12_tellOne 4 = .ok (.istore_n 1, 1) := by decide +kernel
theorem dX12_tellOne_5 : decode cX12_tellOne 5 = .ok (.aload_n 0, 1) := by decide +kernel
theorem dX12_tellOne_6 : decode cX12_tellOne 6 = .ok (.getfield 40, 3) := by decide +kernel
theorem dX12_tellOne_9 : decode cX12_tellOne 9 = .ok (.iload_n 1, 1) := by decide +kernel
theorem dX12_tellOne_10 : decode cX12_tellOne 10 = .ok (.aload_n 0, 1) := by decide +kernel
theorem dX12_tellOne_11 : decode cX12_tellOne 11 = .ok (.getfield 20, 3) := by decide +kernel
theorem dX12_tellOne_14 : decode cX12_tellOne 14 = .ok (.aload_n 0, 1) := by decide +kernel
theorem dX12_tellOne_15 : decode cX12_tellOne 15 = .ok (.getfield 160, 3) := by decide +kernel
theorem dX12_tellOne_18 : decode cX12_tellOne 18 = .ok (.iaload, 1) := by decide +kernel
theorem dX12_tellOne_19 : decode cX12_tellOne 19 = .ok (.bipush 21, 2) := by decide +kernel
theorem dX12_tellOne_21 : decode cX12_tellOne 21 = .ok (.isub, 1) := by decide +kernel
theorem dX12_tellOne_22 : decode cX12_tellOne 22 = .ok (.iastore, 1) := by decide +kernel
theorem dX12_tellOne_23 : decode cX12_tellOne 23 = .ok (.aload_n 0, 1) := by decide +kernel
theorem dX12_tellOne_24 : decode cX12_tellOne 24 = .ok (.getfield 20, 3) := by decide +kernel
theorem dX12_tellOne_27 : decode cX12_tellOne 27 = .ok (.aload_n 0, 1) := by decide +kernel
theorem dX12_tellOne_28 : decode cX12_tellOne 28 = .ok (.getfield 160, 3) := by decide +kernel
theorem dX12_tellOne_31 : decode cX12_tellOne 31 = .ok (.iaload, 1) := by decide +kernel
theorem dX12_tellOne_32 : decode cX12_tellOne 32 = .ok (.tableswitch 228 21 24 #[32, 32, 100, 161], 32) := by decide +kernel
theorem dX12_tellOne_64 : decode cX12_tellOne 64 = .ok (.aload_n 0, 1) := by decide +kernel
theorem dX12_tellOne_65 : decode cX12_tellOne 65 = .ok (.invokevirtual 178, 3) := by decide +kernel
theorem dX12_tellOne_68 : decode cX12_tellOne 68 = .ok (.aload_n 0, 1) := by decide +kernel
theorem dX12_tellOne_69 : decode cX12_tellOne 69 = .ok (.getfield 43, 3) := by decide +kernel
theorem dX12_tellOne_72 : decode cX12_tellOne 72 = .ok (.iload_n 1, 1) := by decide +kernel
theorem dX12_tellOne_73 : decode cX12_tellOne 73 = .ok (.aload_n 0, 1) := by decide +kernel
theorem dX12_tellOne_74 : decode cX12_tellOne 74 = .ok (.getfield 193, 3) := by decide +kernel
theorem dX12_tellOne_77 : decode cX12_tellOne 77 = .ok (.iastore, 1) := by decide +kernel
theorem dX12_tellOne_78 : decode cX12_tellOne 78 = .ok (.aload_n 0, 1) := by decide +kernel
theorem dX12_tellOne_79 : decode cX12_tellOne 79 = .ok (.getfield 157, 3) := by decide +kernel
theorem dX12_tellOne_82 : decode cX12_tellOne 82 = .ok (.ifCond .ne 7, 3) := by decide +kernel
theorem dX12_tellOne_85 : decode cX12_tellOne 85 = .ok (.aload_n 0, 1) := by decide +kernel
theorem dX12_tellOne_86 : decode cX12_tellOne 86 = .ok (.invokevirtual 213, 3) := by decide +kernel
theorem dX12_tellOne_89 : decode cX12_tellOne 89 = .ok (.aload_n 0, 1) := by decide +kernel
theorem dX12_tellOne_90 : decode cX12_tellOne 90 = .ok (.getfield 46, 3) := by decide +kernel
theorem dX12_tellOne_93 : decode cX12_tellOne 93 = .ok (.iload_n 1, 1) := by decide +kernel
theorem dX12_tellOne_94 : decode cX12_tellOne 94 = .ok (.aload_n 0, 1) := by decide +kernel
theorem dX12_tellOne_95 : decode cX12_tellOne 95 = .ok (.getfield 193, 3) := by decide +kernel
theorem dX12_tellOne_98 : decode cX12_tellOne 98 = .ok (.iastore, 1) := by decide +kernel
theorem dX12_tellOne_99 : decode cX12_tellOne 99 = .ok (.aload_n 0, 1) := by decide +kernel
theorem dX12_tellOne_100 : decode cX12_tellOne 100 = .ok (.getfield 157, 3) := by decide +kernel
theorem dX12_tellOne_103 : decode cX12_tellOne 103 = .ok (.ifCond .ne 16, 3) := by decide +kernel
theorem dX12_tellOne_106 : decode cX12_tellOne 106 = .ok (.aload_n 0, 1) := by decide +kernel
theorem dX12_tellOne_107 : decode cX12_tellOne 107 = .ok (.getfield 40, 3) := by decide +kernel
theorem dX12_tellOne_110 : decode cX12_tellOne 110 = .ok (.iload_n 1, 1) := by decide +kernel
theorem dX12_tellOne_111 : decode cX12_tellOne 111 = .ok (.iaload, 1) := by decide +kernel
theorem dX12_tellOne_112 : decode cX12_tellOne 112 = .ok (.ifCond .ne 7, 3) := by decide +kernel
theorem dX12_tellOne_115 : decode cX12_tellOne 115 = .ok (.aload_n 0, 1) := by decide +kernel
theorem dX12_tellOne_116 : decode cX12_tellOne 116 = .ok (.invokevirtual 213, 3) := by decide +kernel
theorem dX12_tellOne_119 : decode cX12_tellOne 119 = .ok (.aload_n 0, 1) := by decide +kernel
theorem dX12_tellOne_120 : decode cX12_tellOne 120 = .ok (.getfield 49, 3) := by decide +kernel
theorem dX12_tellOne_123 : decode cX12_tellOne 123 = .ok (.iload_n 1, 1) := by decide +kernel
theorem dX12_tellOne_124 : decode cX12_tellOne 124 = .ok (.aload_n 0, 1) := by decide +kernel
theorem dX12_tellOne_125 : decode cX12_tellOne 125 = .ok (.getfield 193, 3) := by decide +kernel
theorem dX12_tellOne_128 : decode cX12_tellOne 128 = .ok (.iastore, 1) := by decide +kernel
theorem dX12_tellOne_129 : decode cX12_tellOne 129 = .ok (.goto 136, 3) := by decide +kernel
theorem dX12_tellOne_132 : decode cX12_tellOne 132 = .ok (.aload_n 0, 1) := by decide +kernel
theorem dX12_tellOne_133 : decode cX12_tellOne 133 = .ok (.getfield 190, 3) := by decide +kernel
theorem dX12_tellOne_136 : decode cX12_tellOne 136 = .ok (.iconst 3, 1) := by decide +kernel
theorem dX12_tellOne_137 : decode cX12_tellOne 137 = .ok (.if_icmp .ne 8, 3) := by decide +kernel
theorem dX12_tellOne_140 : decode cX12_tellOne 140 = .ok (.aload_n 0, 1) := by decide +kernel
theorem dX12_tellOne_141 : decode cX12_tellOne 141 = .ok (.iconst 2, 1) := by decide +kernel
theorem dX12_tellOne_142 : decode cX12_tellOne 142 = .ok (.invokevirtual 172, 3) := by decide +kernel
theorem dX12_tellOne_145 : decode cX12_tellOne 145 = .ok (.aload_n 0, 1) := by decide +kernel
theorem dX12_tellOne_146 : decode cX12_tellOne 146 = .ok (.getfield 157, 3) := by decide +kernel
theorem dX12_tellOne_149 : decode cX12_tellOne 149 = .ok (.ifCond .le 4, 3) := by decide +kernel
theorem dX12_tellOne_152 : decode cX12_tellOne 152 = .ok (.return_, 1) := by decide +kernel
theorem dX12_tellOne_153 : decode cX12_tellOne 153 = .ok (.aload_n 0, 1) := by decide +kernel
theorem dX12_tellOne_154 : decode cX12_tellOne 154 = .ok (.invokevirtual 178, 3) := by decide +kernel
theorem dX12_tellOne_157 : decode cX12_tellOne 157 = .ok (.aload_n 0, 1) := by decide +kernel
theorem dX12_tellOne_158 : decode cX12_tellOne 158 = .ok (.getfield 43, 3) := by decide +kernel
theorem dX12_tellOne_161 : decode cX12_tellOne 161 = .ok (.iload_n 1, 1) := by decide +kernel
theorem dX12_tellOne_162 : decode cX12_tellOne 162 = .ok (.aload_n 0, 1) := by decide +kernel
theorem dX12_tellOne_163 : decode cX12_tellOne 163 = .ok (.iconst 0, 1) := by decide +kernel
theorem dX12_tellOne_164 : decode cX12_tellOne 164 = .ok (.bipush 99, 2) := by decide +kernel
theorem dX12_tellOne_166 : decode cX12_tellOne 166 = .ok (.invokevirtual 196, 3) := by decide +kernel
theorem dX12_tellOne_169 : decode cX12_tellOne 169 = .ok (.iastore, 1) := by decide +kernel
theorem dX12_tellOne_170 : decode cX12_tellOne 170 = .ok (.aload_n 0, 1) := by decide +kernel
theorem dX12_tellOne_171 : decode cX12_tellOne 171 = .ok (.getfield 55, 3) := by decide +kernel
theorem dX12_tellOne_174 : decode cX12_tellOne 174 = .ok (.aload_n 0, 1) := by decide +kernel
theorem dX12_tellOne_175 : decode cX12_tellOne 175 = .ok (.getfield 190, 3) := by decide +kernel
theorem dX12_tellOne_178 : decode cX12_tellOne 178 = .ok (.iload_n 1, 1) := by decide +kernel
theorem dX12_tellOne_179 : decode cX12_tellOne 179 = .ok (.iastore, 1) := by decide +kernel
theorem dX12_tellOne_180 : decode cX12_tellOne 180 = .ok (.aload_n 0, 1) := by decide +kernel
theorem dX12_tellOne_181 : decode cX12_tellOne 181 = .ok (.dup, 1) := by decide +kernel
theorem dX12_tellOne_182 : decode cX12_tellOne 182 = .ok (.getfield 190, 3) := by decide +kernel
theorem dX12_tellOne_185 : decode cX12_tellOne 185 = .ok (.iconst 1, 1) := by decide +kernel
theorem dX12_tellOne_186 : decode cX12_tellOne 186 = .ok (.iadd, 1) := by decide +kernel
theorem dX12_tellOne_187 : decode cX12_tellOne 187 = .ok (.putfield 190, 3) := by decide +kernel
theorem dX12_tellOne_190 : decode cX12_tellOne 190 = .ok (.goto 75, 3) := by decide +kernel
theorem dX12_tellOne_193 : decode cX12_tellOne 193 = .ok (.aload_n 0, 1) := by decide +kernel
theorem dX12_tellOne_194 : decode cX12_tellOne 194 = .ok (.getfield 190, 3) := by decide +kernel
theorem dX12_tellOne_197 : decode cX12_tellOne 197 = .ok (.ifCond .ne 8, 3) := by decide +kernel
theorem dX12_tellOne_200 : decode cX12_tellOne 200 = .ok (.aload_n 0, 1) := by decide +kernel
theorem dX12_tellOne_201 : decode cX12_tellOne 201 = .ok (.iconst 1, 1) := by decide +kernel
theorem dX12_tellOne_202 : decode cX12_tellOne 202 = .ok (.invokevirtual 172, 3) := by decide +kernel
theorem dX12_tellOne_205 : decode cX12_tellOne 205 = .ok (.aload_n 0, 1) := by decide +kernel
theorem dX12_tellOne_206 : decode cX12_tellOne 206 = .ok (.getfield 157, 3) := by decide +kernel
theorem dX12_tellOne_209 : decode cX12_tellOne 209 = .ok (.ifCond .le 4, 3) := by decide +kernel
theorem dX12_tellOne_212 : decode cX12_tellOne 212 = .ok (.return_, 1) := by decide +kernel
theorem dX12_tellOne_213 : decode cX12_tellOne 213 = .ok (.aload_n 0, 1) := by decide +kernel
theorem dX12_tellOne_214 : decode cX12_tellOne 214 = .ok (.invokevirtual 178, 3) := by decide +kernel
theorem dX12_tellOne_217 : decode cX12_tellOne 217 = .ok (.aload_n 0, 1) := by decide +kernel
theorem dX12_tellOne_218 : decode cX12_tellOne 218 = .ok (.dup, 1) := by decide +kernel
theorem dX12_tellOne_219 : decode cX12_tellOne 219 = .ok (.getfield 190, 3) := by decide +kernel
theorem dX12_tellOne_222 : decode cX12_tellOne 222 = .ok (.iconst 1, 1) := by decide +kernel
theorem dX12_tellOne_223 : decode cX12_tellOne 223 = .ok (.isub, 1) := by decide +kernel
theorem dX12_tellOne_224 : decode cX12_tellOne 224 = .ok (.putfield 190, 3) := by decide +kernel
theorem dX12_tellOne_227 : decode cX12_tellOne 227 = .ok (.aload_n 0, 1) := by decide +kernel
theorem dX12_tellOne_228 : decode cX12_tellOne 228 = .ok (.getfield 52, 3) := by decide +kernel
theorem dX12_tellOne_231 : decode cX12_tellOne 231 = .ok (.iload_n 1, 1) := by decide +kernel
theorem dX12_tellOne_232 : decode cX12_tellOne 232 = .ok (.aload_n 0, 1) := by decide +kernel
theorem dX12_tellOne_233 : decode cX12_tellOne 233 = .ok (.getfield 55, 3) := by decide +kernel
theorem dX12_tellOne_236 : decode cX12_tellOne 236 = .ok (.aload_n 0, 1) := by decide +kernel
theorem dX12_tellOne_237 : decode cX12_tellOne 237 = .ok (.getfield 190, 3) := by decide +kernel
theorem dX12_tellOne_240 : decode cX12_tellOne 240 = .ok (.iaload, 1) := by decide +kernel
theorem dX12_tellOne_241 : decode cX12_tellOne 241 = .ok (.iastore, 1) := by decide +kernel
theorem dX12_tellOne_242 : decode cX12_tellOne 242 = .ok (.aload_n 0, 1) := by decide +kernel
theorem dX12_tellOne_243 : decode cX12_tellOne 243 = .ok (.getfield 52, 3) := by decide +kernel
theorem dX12_tellOne_246 : decode cX12_tellOne 246 = .ok (.aload_n 0, 1) := by decide +kernel
theorem dX12_tellOne_247 : decode cX12_tellOne 247 = .ok (.getfield 55, 3) := by decide +kernel
theorem dX12_tellOne_250 : decode cX12_tellOne 250 = .ok (.aload_n 0, 1) := by decide +kernel
theorem dX12_tellOne_251 : decode cX12_tellOne 251 = .ok (.getfield 190, 3) := by decide +kernel
theorem dX12_tellOne_254 : decode cX12_tellOne 254 = .ok (.iaload, 1) := by decide +kernel
theorem dX12_tellOne_255 : decode cX12_tellOne 255 = .ok (.iload_n 1, 1) := by decide +kernel
theorem dX12_tellOne_256 : decode cX12_tellOne 256 = .ok (.iastore, 1) := by decide +kernel
theorem dX12_tellOne_257 : decode cX12_tellOne 257 = .ok (.goto 8, 3) := by decide +kernel
theorem dX12_tellOne_260 : decode cX12_tellOne 260 = .ok (.aload_n 0, 1) := by decide +kernel
theorem dX12_tellOne_261 : decode cX12_tellOne 261 = .ok (.iconst 1, 1) := by decide +kernel
theorem dX12_tellOne_262 : decode cX12_tellOne 262 = .ok (.invokevirtual 172, 3) := by decide +kernel
theorem dX12_tellOne_265 : decode cX12_tellOne 265 = .ok (.aload_n 0, 1) := by decide +kernel
theorem dX12_tellOne_266 : decode cX12_tellOne 266 = .ok (.iconst 4, 1) := by decide +kernel
theorem dX12_tellOne_267 : decode cX12_tellOne 267 = .ok (.invokevirtual 200, 3) := by decide +kernel
theorem dX12_tellOne_270 : decode cX12_tellOne 270 = .ok (.aload_n 0, 1) := by decide +kernel
theorem dX12_tellOne_271 : decode cX12_tellOne 271 = .ok (.dup, 1) := by decide +kernel
theorem dX12_tellOne_272 : decode cX12_tellOne 272 = .ok (.getfield 187, 3) := by decide +kernel
theorem dX12_tellOne_275 : decode cX12_tellOne 275 = .ok (.iconst 1, 1) := by decide +kernel
theorem dX12_tellOne_276 : decode cX12_tellOne 276 = .ok (.iadd, 1) := by decide +kernel
theorem dX12_tellOne_277 : decode cX12_tellOne 277 = .ok (.putfield 187, 3) := by decide +kernel
theorem dX12_tellOne_280 : decode cX12_tellOne 280 = .ok (.return_, 1) := by decide +kernel
theorem dX12_emit_0 : decode cX12_emit 0 = .ok (.aload_n 0, 1) := by decide +kernel
theorem dX12_emit_1 : decode cX12_emit 1 = .ok (.getfield 58, 3) := by decide +kernel
theorem dX12_emit_4 : decode cX12_emit 4 = .ok (.aload_n 0, 1) := by decide +kernel
theorem dX12_emit_5 : decode cX12_emit 5 = .ok (.getfield 193, 3) := by decide +kernel
theorem dX12_emit_8 : decode cX12_emit 8 = .ok (.iload_n 1, 1) := by decide +kernel
theorem dX12_emit_9 : decode cX12_emit 9 = .ok (.iastore, 1) := by decide +kernel
theorem dX12_emit_10 : decode cX12_emit 10 = .ok (.aload_n 0, 1) := by decide +kernel
theorem dX12_emit_11 : decode cX12_emit 11 = .ok (.getfield 61, 3) := by decide +kernel
theorem dX12_emit_14 : decode cX12_emit 14 = .ok (.aload_n 0, 1) := by decide +kernel
theorem dX12_emit_15 : decode cX12_emit 15 = .ok (.getfield 193, 3) := by decide +kernel
theorem dX12_emit_18 : decode cX12_emit 18 = .ok (.iload_n 2, 1) := by decide +kernel
theorem dX12_emit_19 : decode cX12_emit 19 = .ok (.iastore, 1) := by decide +kernel
theorem dX12_emit_20 : decode cX12_emit 20 = .ok (.aload_n 0, 1) := by decide +kernel
theorem dX12_emit_21 : decode cX12_emit 21 = .ok (.dup, 1) := by decide +kernel
theorem dX12_emit_22 : decode cX12_emit 22 = .ok (.getfield 193, 3) := by decide +kernel
theorem dX12_emit_25 : decode cX12_emit 25 = .ok (.iconst 1, 1) := by decide +kernel
theorem dX12_emit_26 : decode cX12_emit 26 = .ok (.iadd, 1) := by decide +kernel
theorem dX12_emit_27 : decode cX12_emit 27 = .ok (.putfield 193, 3) := by decide +kernel
theorem dX12_emit_30 : decode cX12_emit 30 = .ok (.return_, 1) := by decide +kernel
theorem dX12_comesOut_0 : decode cX12_comesOut 0 = .ok (.aload_n 0, 1) := by decide +kernel
theorem dX12_comesOut_1 : decode cX12_comesOut 1 = .ok (.getfield 216, 3) := by decide +kernel
theorem dX12_comesOut_4 : decode cX12_comesOut 4 = .ok (.ifCond .le 98, 3) := by decide +kernel
theorem dX12_comesOut_7 : decode cX12_comesOut 7 = .ok (.aload_n 0, 1) := by decide +kernel
theorem dX12_comesOut_8 : decode cX12_comesOut 8 = .ok (.getfield 64, 3) := by decide +kernel
theorem dX12_comesOut_11 : decode cX12_comesOut 11 = .ok (.aload_n 0, 1) := by decide +kernel
theorem dX12_comesOut_12 : decode cX12_comesOut 12 = .ok (.getfield 216, 3) := by decide +kernel
theorem dX12_comesOut_15 : decode cX12_comesOut 15 = .ok (.iconst 1, 1) := by decide +kernel
theorem dX12_comesOut_16 : decode cX12_comesOut 16 = .ok (.isub, 1) := by decide +kernel
theorem dX12_comesOut_17 : decode cX12_comesOut 17 = .ok (.iaload, 1) := by decide +kernel
theorem dX12_comesOut_18 : decode cX12_comesOut 18 = .ok (.istore_n 2, 1) := by decide +kernel
theorem dX12_comesOut_19 : decode cX12_comesOut 19 = .ok (.iload_n 2, 1) := by decide +kernel
theorem dX12_comesOut_20 : decode cX12_comesOut 20 = .ok (.bipush 6, 2) := by decide +kernel
theorem dX12_comesOut_22 : decode cX12_comesOut 22 = .ok (.if_icmp .eq 19, 3) := by decide +kernel
theorem dX12_comesOut_25 : decode cX12_comesOut 25 = .ok (.iload_n 1, 1) := by decide +kernel
theorem dX12_comesOut_26 : decode cX12_comesOut 26 = .ok (.ifCond .eq 16, 3) := by decide +kernel
theorem dX12_comesOut_29 : decode cX12_comesOut 29 = .ok (.iload_n 2, 1) := by decide +kernel
theorem dX12_comesOut_30 : decode cX12_comesOut 30 = .ok (.bipush 8, 2) := by decide +kernel
theorem dX12_comesOut_32 : decode cX12_comesOut 32 = .ok (.if_icmp .eq 9, 3) := by decide +kernel
theorem dX12_comesOut_35 : decode cX12_comesOut 35 = .ok (.iload_n 2, 1) := by decide +kernel
theorem dX12_comesOut_36 : decode cX12_comesOut 36 = .ok (.bipush 9, 2) := by decide +kernel
theorem dX12_comesOut_38 : decode cX12_comesOut 38 = .ok (.if_icmp .ne 4, 3) := by decide +kernel
theorem dX12_comesOut_41 : decode cX12_comesOut 41 = .ok (.return_, 1) := by decide +kernel
theorem dX12_comesOut_42 : decode cX12_comesOut 42 = .ok (.aload_n 0, 1) := by decide +kernel
theorem dX12_comesOut_43 : decode cX12_comesOut 43 = .ok (.dup, 1) := by decide +kernel
theorem dX12_comesOut_44 : decode cX12_comesOut 44 = .ok (.getfield 216, 3) := by decide +kernel
theorem dX12_comesOut_47 : decode cX12_comesOut 47 = .ok (.iconst 1, 1) := by decide +kernel
theorem dX12_comesOut_48 : decode cX12_comesOut 48 = .ok (.isub, 1) := by decide +kernel
theorem dX12_comesOut_49 : decode cX12_comesOut 49 = .ok (.putfield 216, 3) := by decide +kernel
theorem dX12_comesOut_52 : decode cX12_comesOut 52 = .ok (.aload_n 0, 1) := by decide +kernel
theorem dX12_comesOut_53 : decode cX12_comesOut 53 = .ok (.iload_n 2, 1) := by decide +kernel
theorem dX12_comesOut_54 : decode cX12_comesOut 54 = .ok (.bipush 8, 2) := by decide +kernel
theorem dX12_comesOut_56 : decode cX12_comesOut 56 = .ok (.if_icmp .ne 7, 3) := by decide +kernel
theorem dX12_comesOut_59 : decode cX12_comesOut 59 = .ok (.iconst 2, 1) := by decide +kernel
theorem dX12_comesOut_60 : decode cX12_comesOut 60 = .ok (.goto 35, 3) := by decide +kernel
theorem dX12_comesOut_63 : decode cX12_comesOut 63 = .ok (.iload_n 2, 1) := by decide +kernel
theorem dX12_comesOut_64 : decode cX12_comesOut 64 = .ok (.bipush 9, 2) := by decide +kernel
theorem dX12_comesOut_66 : decode cX12_comesOut 66 = .ok (.if_icmp .ne 7, 3) := by decide +kernel
theorem dX12_comesOut_69 : decode cX12_comesOut 69 = .ok (.iconst 3, 1) := by decide +kernel
theorem dX12_comesOut_70 : decode cX12_comesOut 70 = .ok (.goto 25, 3) := by decide +kernel
theorem dX12_comesOut_73 : decode cX12_comesOut 73 = .ok (.iload_n 2, 1) := by decide +kernel
theorem dX12_comesOut_74 : decode cX12_comesOut 74 = .ok (.bipush 10, 2) := by decide +kernel
theorem dX12_comesOut_76 : decode cX12_comesOut 76 = .ok (.if_icmp .ne 7, 3) := by decide +kernel
theorem dX12_comesOut_79 : decode cX12_comesOut 79 = .ok (.iconst 4, 1) := by decide +kernel
theorem dX12_comesOut_80 : decode cX12_comesOut 80 = .ok (.goto 15, 3) := by decide +kernel
theorem dX12_comesOut_83 : decode cX12_comesOut 83 = .ok (.iload_n 2, 1) := by decide +kernel
theorem dX12_comesOut_84 : decode cX12_comesOut 84 = .ok (.bipush 15, 2) := by decide +kernel
theorem dX12_comesOut_86 : decode cX12_comesOut 86 = .ok (.if_icmp .ne 7, 3) := by decide +kernel
theorem dX12_comesOut_89 : decode cX12_comesOut 89 = .ok (.iconst 5, 1) := by decide +kernel
theorem dX12_comesOut_90 : decode cX12_comesOut 90 = .ok (.goto 5, 3) := by decide +kernel
theorem dX12_comesOut_93 : decode cX12_comesOut 93 = .ok (.bipush 6, 2) := by decide +kernel
theorem dX12_comesOut_95 : decode cX12_comesOut 95 = .ok (.iconst 0, 1) := by decide +kernel
theorem dX12_comesOut_96 : decode cX12_comesOut 96 = .ok (.invokevirtual 219, 3) := by decide +kernel
theorem dX12_comesOut_99 : decode cX12_comesOut 99 = .ok (.goto (-99), 3) := by decide +kernel
theorem dX12_comesOut_102 : decode cX12_comesOut 102 = .ok (.return_, 1) := by decide +kernel
theorem dX12_expression_0 : decode cX12_expression 0 = .ok (.aload_n 0, 1) := by decide +kernel
theorem dX12_expression_1 : decode cX12_expression 1 = .ok (.iconst 0, 1) := by decide +kernel
theorem dX12_expression_2 : decode cX12_expression 2 = .ok (.putfield 216, 3) := by decide +kernel
theorem dX12_expression_5 : decode cX12_expression 5 = .ok (.aload_n 0, 1) := by decide +kernel
theorem dX12_expression_6 : decode cX12_expression 6 = .ok (.getfield 184, 3) := by decide +kernel
theorem dX12_expression_9 : decode cX12_expression 9 = .ok (.istore_n 1, 1) := by decide +kernel
theorem dX12_expression_10 : decode cX12_expression 10 = .ok (.iconst 1, 1) := by decide +kernel
theorem dX12_expression_11 : decode cX12_expression 11 = .ok (.istore_n 2, 1) := by decide +kernel
theorem dX12_expression_12 : decode cX12_expression 12 = .ok (.iload_n 2, 1) := by decide +kernel
theorem dX12_expression_13 : decode cX12_expression 13 = .ok (.ifCond .eq 277, 3) := by decide +kernel
theorem dX12_expression_16 : decode cX12_expression 16 = .ok (.aload_n 0, 1) := by decide +kernel
theorem dX12_expression_17 : decode cX12_expression 17 = .ok (.getfield 157, 3) := by decide +kernel
theorem dX12_expression_20 : decode cX12_expression 20 = .ok (.ifCond .ne 270, 3) := by decide +kernel
theorem dX12_expression_23 : decode cX12_expression 23 = .ok (.aload_n 0, 1) := by decide +kernel
theorem dX12_expression_24 : decode cX12_expression 24 = .ok (.bipush 6, 2) := by decide +kernel
theorem dX12_expression_26 : decode cX12_expression 26 = .ok (.invokevirtual 175, 3) := by decide +kernel
theorem dX12_expression_29 : decode cX12_expression 29 = .ok (.ifCond .eq 55, 3) := by decide +kernel
theorem dX12_expression_32 : decode cX12_expression 32 = .ok (.aload_n 0, 1) := by decide +kernel
theorem dX12_expression_33 : decode cX12_expression 33 = .ok (.getfield 184, 3) := by decide +kernel
theorem dX12_expression_36 : decode cX12_expression 36 = .ok (.bipush 6, 2) := by decide +kernel
theorem dX12_expression_38 : decode cX12_expression 38 = .ok (.if_icmp .ne 8, 3) := by decide +kernel
theorem dX12_expression_41 : decode cX12_expression 41 = .ok (.aload_n 0, 1) := by decide +kernel
theorem dX12_expression_42 : decode cX12_expression 42 = .ok (.iconst 2, 1) := by decide +kernel
theorem dX12_expression_43 : decode cX12_expression 43 = .ok (.invokevirtual 172, 3) := by decide +kernel
theorem dX12_expression_46 : decode cX12_expression 46 = .ok (.aload_n 0, 1) := by decide +kernel
theorem dX12_expression_47 : decode cX12_expression 47 = .ok (.dup, 1) := by decide +kernel
theorem dX12_expression_48 : decode cX12_expression 48 = .ok (.getfield 184, 3) := by decide +kernel
theorem dX12_expression_51 : decode cX12_expression 51 = .ok (.iconst 1, 1) := by decide +kernel
theorem dX12_expression_52 : decode cX12_expression 52 = .ok (.iadd, 1) := by decide +kernel
theorem dX12_expression_53 : decode cX12_expression 53 = .ok (.putfield 184, 3) := by decide +kernel
theorem dX12_expression_56 : decode cX12_expression 56 = .ok (.aload_n 0, 1) := by decide +kernel
theorem dX12_expression_57 : decode cX12_expression 57 = .ok (.invokevirtual 178, 3) := by decide +kernel
theorem dX12_expression_60 : decode cX12_expression 60 = .ok (.aload_n 0, 1) := by decide +kernel
theorem dX12_expression_61 : decode cX12_expression 61 = .ok (.getfield 64, 3) := by decide +kernel
theorem dX12_expression_64 : decode cX12_expression 64 = .ok (.aload_n 0, 1) := by decide +kernel
theorem dX12_expression_65 : decode cX12_expression 65 = .ok (.getfield 216, 3) := by decide +kernel
theorem dX12_expression_68 : decode cX12_expression 68 = .ok (.bipush 6, 2) := by decide +kernel
theorem dX12_expression_70 : decode cX12_expression 70 = .ok (.iastore, 1) := by decide +kernel
theorem dX12_expression_71 : decode cX12_expression 71 = .ok (.aload_n 0, 1) := by decide +kernel
theorem dX12_expression_72 : decode cX12_expression 72 = .ok (.dup, 1) := by decide +kernel
theorem dX12_expression_73 : decode cX12_expression 73 = .ok (.getfield 216, 3) := by decide +kernel
theorem dX12_expression_76 : decode cX12_expression 76 = .ok (.iconst 1, 1) := by decide +kernel
theorem dX12_expression_77 : decode cX12_expression 77 = .ok (.iadd, 1) := by decide +kernel
theorem dX12_expression_78 : decode cX12_expression 78 = .ok (.putfield 216, 3) := by decide +kernel
theorem dX12_expression_81 : decode cX12_expression 81 = .ok (.goto (-58), 3) := by decide +kernel
theorem dX12_expression_84 : decode cX12_expression 84 = .ok (.aload_n 0, 1) := by decide +kernel
theorem dX12_expression_85 : decode cX12_expression 85 = .ok (.invokevirtual 222, 3) := by decide +kernel
theorem dX12_expression_88 : decode cX12_expression 88 = .ok (.aload_n 0, 1) := by decide +kernel
theorem dX12_expression_89 : decode cX12_expression 89 = .ok (.getfield 157, 3) := by decide +kernel
theorem dX12_expression_92 : decode cX12_expression 92 = .ok (.ifCond .le 4, 3) := by decide +kernel
theorem dX12_expression_95 : decode cX12_expression 95 = .ok (.return_, 1) := by decide +kernel
theorem dX12_expression_96 : decode cX12_expression 96 = .ok (.aload_n 0, 1) := by decide +kernel
theorem dX12_expression_97 : decode cX12_expression 97 = .ok (.bipush 7, 2) := by decide +kernel
theorem dX12_expression_99 : decode cX12_expression 99 = .ok (.invokevirtual 175, 3) := by decide +kernel
theorem dX12_expression_102 : decode cX12_expression 102 = .ok (.ifCond .eq 43, 3) := by decide +kernel
theorem dX12_expression_105 : decode cX12_expression 105 = .ok (.aload_n 0, 1) := by decide +kernel
theorem dX12_expression_106 : decode cX12_expression 106 = .ok (.getfield 184, 3) := by decide +kernel
theorem dX12_expression_109 : decode cX12_expression 109 = .ok (.iload_n 1, 1) := by decide +kernel
theorem dX12_expression_110 : decode cX12_expression 110 = .ok (.if_icmp .le 35, 3) := by decide +kernel
theorem dX12_expression_113 : decode cX12_expression 113 = .ok (.aload_n 0, 1) := by decide +kernel
theorem dX12_expression_114 : decode cX12_expression 114 = .ok (.iconst 0, 1) := by decide +kernel
theorem dX12_expression_115 : decode cX12_expression 115 = .ok (.invokevirtual 225, 3) := by decide +kernel
theorem dX12_expression_118 : decode cX12_expression 118 = .ok (.aload_n 0, 1) := by decide +kernel
theorem dX12_expression_119 : decode cX12_expression 119 = .ok (.dup, 1) := by decide +kernel
theorem dX12_expression_120 : decode cX12_expression 120 = .ok (.getfield 216, 3) := by decide +kernel
theorem dX12_expression_123 : decode cX12_expression 123 = .ok (.iconst 1, 1) := by decide +kernel
theorem dX12_expression_124 : decode cX12_expression 124 = .ok (.isub, 1) := by decide +kernel
theorem dX12_expression_125 : decode cX12_expression 125 = .ok (.putfield 216, 3) := by decide +kernel
theorem dX12_expression_128 : decode cX12_expression 128 = .ok (.aload_n 0, 1) := by decide +kernel
theorem dX12_expression_129 : decode cX12_expression 129 = .ok (.dup, 1) := by decide +kernel
theorem dX12_expression_130 : decode cX12_expression 130 = .ok (.getfield 184, 3) := by decide +kernel
theorem dX12_expression_133 : decode cX12_expression 133 = .ok (.iconst 1, 1) := by decide +kernel
theorem dX12_expression_134 : decode cX12_expression 134 = .ok (.isub, 1) := by decide +kernel
theorem dX12_expression_135 : decode cX12_expression 135 = .ok (.putfield 184, 3) := by decide +kernel
theorem dX12_expression_138 : decode cX12_expression 138 = .ok (.aload_n 0, 1) := by decide +kernel
theorem dX12_expression_139 : decode cX12_expression 139 = .ok (.invokevirtual 178, 3) := by decide +kernel
theorem dX12_expression_142 : decode cX12_expression 142 = .ok (.goto (-46), 3) := by decide +kernel
theorem dX12_expression_145 : decode cX12_expression 145 = .ok (.aload_n 0, 1) := by decide +kernel
theorem dX12_expression_146 : decode cX12_expression 146 = .ok (.bipush 8, 2) := by decide +kernel
theorem dX12_expression_148 : decode cX12_expression 148 = .ok (.invokevirtual 175, 3) := by decide +kernel
theorem dX12_expression_151 : decode cX12_expression 151 = .ok (.ifCond .ne 39, 3) := by decide +kernel
theorem dX12_expression_154 : decode cX12_expression 154 = .ok (.aload_n 0, 1) := by decide +kernel
theorem dX12_expression_155 : decode cX12_expression 155 = .ok (.bipush 9, 2) := by decide +kernel
theorem dX12_expression_157 : decode cX12_expression 157 = .ok (.invokevirtual 175, 3) := by decide +kernel
theorem dX12_expression_160 : decode cX12_expression 160 = .ok (.ifCond .ne 30, 3) := by decide +kernel
theorem dX12_expression_163 : decode cX12_expression 163 = .ok (.aload_n 0, 1) := by decide +kernel
theorem dX12_expression_164 : decode cX12_expression 164 = .ok (.bipush 10, 2) := by decide +kernel
theorem dX12_expression_166 : decode cX12_expression 166 = .ok (.invokevirtual 175, 3) := by decide +kernel
theorem dX12_expression_169 : decode cX12_expression 169 = .ok (.ifCond .ne 21, 3) := by decide +kernel
theorem dX12_expression_172 : decode cX12_expression 172 = .ok (.aload_n 0, 1) := by decide +kernel
theorem dX12_expression_173 : decode cX12_expression 173 = .ok (.bipush 15, 2) := by decide +kernel
theorem dX12_expression_175 : decode cX12_expression 175 = .ok (.invokevirtual 175, 3) := by decide +kernel
theorem dX12_expression_178 : decode cX12_expression 178 = .ok (.ifCond .ne 12, 3) := by decide +kernel
theorem dX12_expression_181 : decode cX12_expression 181 = .ok (.aload_n 0, 1) := by decide +kernel
theorem dX12_expression_182 : decode cX12_expression 182 = .ok (.bipush 16, 2) := by decide +kernel
theorem dX12_expression_184 : decode cX12_expression 184 = .ok (.invokevirtual 175, 3) := by decide +kernel
theorem dX12_expression_187 : decode cX12_expression 187 = .ok (.ifCond .eq 7, 3) := by decide +kernel
theorem dX12_expression_190 : decode cX12_expression 190 = .ok (.iconst 1, 1) := by decide +kernel
theorem dX12_expression_191 : decode cX12_expression 191 = .ok (.goto 4, 3) := by decide +kernel
theorem dX12_expression_194 : decode cX12_expression 194 = .ok (.iconst 0, 1) := by decide +kernel
theorem dX12_expression_195 : decode cX12_expression 195 = .ok (.istore_n 2, 1) := by decide +kernel
theorem dX12_expression_196 : decode cX12_expression 196 = .ok (.iload_n 2, 1) := by decide +kernel
theorem dX12_expression_197 : decode cX12_expression 197 = .ok (.ifCond .ne 22, 3) := by decide +kernel
theorem dX12_expression_200 : decode cX12_expression 200 = .ok (.aload_n 0, 1) := by decide +kernel
theorem dX12_expression_201 : decode cX12_expression 201 = .ok (.getfield 184, 3) := by decide +kernel
theorem dX12_expression_204 : decode cX12_expression 204 = .ok (.iload_n 1, 1) := by decide +kernel
theorem dX12_expression_205 : decode cX12_expression 205 = .ok (.if_icmp .le 8, 3) := by decide +kernel
theorem dX12_expression_208 : decode cX12_expression 208 = .ok (.aload_n 0, 1) := by decide +kernel
theorem dX12_expression_209 : decode cX12_expression 209 = .ok (.iconst 1, 1) := by decide +kernel
theorem dX12_expression_210 : decode cX12_expression 210 = .ok (.invokevirtual 172, 3) := by decide +kernel
theorem dX12_expression_213 : decode cX12_expression 213 = .ok (.aload_n 0, 1) := by decide +kernel
theorem dX12_expression_214 : decode cX12_expression 214 = .ok (.iconst 0, 1) := by decide +kernel
theorem dX12_expression_215 : decode cX12_expression 215 = .ok (.invokevirtual 225, 3) := by decide +kernel
theorem dX12_expression_218 : decode cX12_expression 218 = .ok (.return_, 1) := by decide +kernel
theorem dX12_expression_219 : decode cX12_expression 219 = .ok (.aload_n 0, 1) := by decide +kernel
theorem dX12_expression_220 : decode cX12_expression 220 = .ok (.aload_n 0, 1) := by decide +kernel
theorem dX12_expression_221 : decode cX12_expression 221 = .ok (.bipush 10, 2) := by decide +kernel
theorem dX12_expression_223 : decode cX12_expression 223 = .ok (.invokevirtual 175, 3) := by decide +kernel
theorem dX12_expression_226 : decode cX12_expression 226 = .ok (.ifCond .ne 21, 3) := by decide +kernel
theorem dX12_expression_229 : decode cX12_expression 229 = .ok (.aload_n 0, 1) := by decide +kernel
theorem dX12_expression_230 : decode cX12_expression 230 = .ok (.bipush 15, 2) := by decide +kernel
theorem dX12_expression_232 : decode cX12_expression 232 = .ok (.invokevirtual 175, 3) := by decide +kernel
theorem dX12_expression_235 : decode cX12_expression 235 = .ok (.ifCond .ne 12, 3) := by decide +kernel
theorem dX12_expression_238 : decode cX12_expression 238 = .ok (.aload_n 0, 1) := by decide +kernel
theorem dX12_expression_239 : decode cX12_expression 239 = .ok (.bipush 16, 2) := by decide +kernel
theorem dX12_expression_241 : decode cX12_expression 241 = .ok (.invokevirtual 175, 3) := by decide +kernel
theorem dX12_expression_244 : decode cX12_expression 244 = .ok (.ifCond .eq 7, 3) := by decide +kernel
theorem dX12_expression_247 : decode cX12_expression 247 = .ok (.iconst 1, 1) := by decide +kernel
theorem dX12_expression_248 : decode cX12_expression 248 = .ok (.goto 4, 3) := by decide +kernel
theorem dX12_expression_251 : decode cX12_expression 251 = .ok (.iconst 0, 1) := by decide +kernel
theorem dX12_expression_252 : decode cX12_expression 252 = .ok (.invokevirtual 225, 3) := by decide +kernel
theorem dX12_expression_255 : decode cX12_expression 255 = .ok (.aload_n 0, 1) := by decide +kernel
theorem dX12_expression_256 : decode cX12_expression 256 = .ok (.getfield 64, 3) := by decide +kernel
theorem dX12_expression_259 : decode cX12_expression 259 = .ok (.aload_n 0, 1) := by decide +kernel
theorem dX12_expression_260 : decode cX12_expression 260 = .ok (.getfield 216, 3) := by decide +kernel
theorem dX12_expression_263 : decode cX12_expression 263 = .ok (.aload_n 0, 1) := by decide +kernel
theorem dX12_expression_264 : decode cX12_expression 264 = .ok (.getfield 20, 3) := by decide +kernel
theorem dX12_expression_267 : decode cX12_expression 267 = .ok (.aload_n 0, 1) := by decide +kernel
theorem dX12_expression_268 : decode cX12_expression 268 = .ok (.getfield 160, 3) := by decide +kernel
theorem dX12_expression_271 : decode cX12_expression 271 = .ok (.iaload, 1) := by decide +kernel
theorem dX12_expression_272 : decode cX12_expression 272 = .ok (.iastore, 1) := by decide +kernel
theorem dX12_expression_273 : decode cX12_expression 273 = .ok (.aload_n 0, 1) := by decide +kernel
theorem dX12_expression_274 : decode cX12_expression 274 = .ok (.dup, 1) := by decide +kernel
theorem dX12_expression_275 : decode cX12_expression 275 = .ok (.getfield 216, 3) := by decide +kernel
theorem dX12_expression_278 : decode cX12_expression 278 = .ok (.iconst 1, 1) := by decide +kernel
theorem dX12_expression_279 : decode cX12_expression 279 = .ok (.iadd, 1) := by decide +kernel
theorem dX12_expression_280 : decode cX12_expression 280 = .ok (.putfield 216, 3) := by decide +kernel
theorem dX12_expression_283 : decode cX12_expression 283 = .ok (.aload_n 0, 1) := by decide +kernel
theorem dX12_expression_284 : decode cX12_expression 284 = .ok (.invokevirtual 178, 3) := by decide +kernel
theorem dX12_expression_287 : decode cX12_expression 287 = .ok (.goto (-275), 3) := by decide +kernel
theorem dX12_expression_290 : decode cX12_expression 290 = .ok (.return_, 1) := by decide +kernel
theorem dX12_unit_0 : decode cX12_unit 0 = .ok (.aload_n 0, 1) := by decide +kernel
theorem dX12_unit_1 : decode cX12_unit 1 = .ok (.iconst 2, 1) := by decide +kernel
theorem dX12_unit_2 : decode cX12_unit 2 = .ok (.invokevirtual 175, 3) := by decide +kernel
theorem dX12_unit_5 : decode cX12_unit 5 = .ok (.ifCond .eq 24, 3) := by decide +kernel
theorem dX12_unit_8 : decode cX12_unit 8 = .ok (.aload_n 0, 1) := by decide +kernel
theorem dX12_unit_9 : decode cX12_unit 9 = .ok (.iconst 0, 1) := by decide +kernel
theorem dX12_unit_10 : decode cX12_unit 10 = .ok (.aload_n 0, 1) := by decide +kernel
theorem dX12_unit_11 : decode cX12_unit 11 = .ok (.getfield 27, 3) := by decide +kernel
theorem dX12_unit_14 : decode cX12_unit 14 = .ok (.aload_n 0, 1) := by decide +kernel
theorem dX12_unit_15 : decode cX12_unit 15 = .ok (.getfield 160, 3) := by decide +kernel
theorem dX12_unit_18 : decode cX12_unit 18 = .ok (.iaload, 1) := by decide +kernel
theorem dX12_unit_19 : decode cX12_unit 19 = .ok (.invokevirtual 219, 3) := by decide +kernel
theorem dX12_unit_22 : decode cX12_unit 22 = .ok (.aload_n 0, 1) := by decide +kernel
theorem dX12_unit_23 : decode cX12_unit 23 = .ok (.invokevirtual 178, 3) := by decide +kernel
theorem dX12_unit_26 : decode cX12_unit 26 = .ok (.goto 67, 3) := by decide +kernel
theorem dX12_unit_29 : decode cX12_unit 29 = .ok (.aload_n 0, 1) := by decide +kernel
theorem dX12_unit_30 : decode cX12_unit 30 = .ok (.getfield 157, 3) := by decide +kernel
theorem dX12_unit_33 : decode cX12_unit 33 = .ok (.ifCond .ne 55, 3) := by decide +kernel
theorem dX12_unit_36 : decode cX12_unit 36 = .ok (.aload_n 0, 1) := by decide +kernel
theorem dX12_unit_37 : decode cX12_unit 37 = .ok (.getfield 20, 3) := by decide +kernel
theorem dX12_unit_40 : decode cX12_unit 40 = .ok (.aload_n 0, 1) := by decide +kernel
theorem dX12_unit_41 : decode cX12_unit 41 = .ok (.getfield 160, 3) := by decide +kernel
theorem dX12_unit_44 : decode cX12_unit 44 = .ok (.iaload, 1) := by decide +kernel
theorem dX12_unit_45 : decode cX12_unit 45 = .ok (.bipush 25, 2) := by decide +kernel
theorem dX12_unit_47 : decode cX12_unit 47 = .ok (.if_icmp .lt 41, 3) := by decide +kernel
theorem dX12_unit_50 : decode cX12_unit 50 = .ok (.aload_n 0, 1) := by decide +kernel
theorem dX12_unit_51 : decode cX12_unit 51 = .ok (.getfield 20, 3) := by decide +kernel
theorem dX12_unit_54 : decode cX12_unit 54 = .ok (.aload_n 0, 1) := by decide +kernel
theorem dX12_unit_55 : decode cX12_unit 55 = .ok (.getfield 160, 3) := by decide +kernel
theorem dX12_unit_58 : decode cX12_unit 58 = .ok (.iaload, 1) := by decide +kernel
theorem dX12_unit_59 : decode cX12_unit 59 = .ok (.bipush 30, 2) := by decide +kernel
theorem dX12_unit_61 : decode cX12_unit 61 = .ok (.if_icmp .gt 27, 3) := by decide +kernel
theorem dX12_unit_64 : decode cX12_unit 64 = .ok (.aload_n 0, 1) := by decide +kernel
theorem dX12_unit_65 : decode cX12_unit 65 = .ok (.iconst 1, 1) := by decide +kernel
theorem dX12_unit_66 : decode cX12_unit 66 = .ok (.aload_n 0, 1) := by decide +kernel
theorem dX12_unit_67 : decode cX12_unit 67 = .ok (.getfield 20, 3) := by decide +kernel
theorem dX12_unit_70 : decode cX12_unit 70 = .ok (.aload_n 0, 1) := by decide +kernel
theorem dX12_unit_71 : decode cX12_unit 71 = .ok (.getfield 160, 3) := by decide +kernel
theorem dX12_unit_74 : decode cX12_unit 74 = .ok (.iaload, 1) := by decide +kernel
theorem dX12_unit_75 : decode cX12_unit 75 = .ok (.bipush 25, 2) := by decide +kernel
theorem dX12_unit_77 : decode cX12_unit 77 = .ok (.isub, 1) := by decide +kernel
theorem dX12_unit_78 : decode cX12_unit 78 = .ok (.invokevirtual 219, 3) := by decide +kernel
theorem dX12_unit_81 : decode cX12_unit 81 = .ok (.aload_n 0, 1) := by decide +kernel
theorem dX12_unit_82 : decode cX12_unit 82 = .ok (.invokevirtual 178, 3) := by decide +kernel
theorem dX12_unit_85 : decode cX12_unit 85 = .ok (.goto 8, 3) := by decide +kernel
theorem dX12_unit_88 : decode cX12_unit 88 = .ok (.aload_n 0, 1) := by decide +kernel
theorem dX12_unit_89 : decode cX12_unit 89 = .ok (.iconst 1, 1) := by decide +kernel
theorem dX12_unit_90 : decode cX12_unit 90 = .ok (.invokevirtual 172, 3) := by decide +kernel
theorem dX12_unit_93 : decode cX12_unit 93 = .ok (.return_, 1) := by decide +kernel
theorem dX12_termOf_0 : decode cX12_termOf 0 = .ok (.iconst 0, 1) := by decide +kernel
theorem dX12_termOf_1 : decode cX12_termOf 1 = .ok (.istore_n 3, 1) := by decide +kernel
theorem dX12_termOf_2 : decode cX12_termOf 2 = .ok (.iload_n 1, 1) := by decide +kernel
theorem dX12_termOf_3 : decode cX12_termOf 3 = .ok (.istore 4, 2) := by decide +kernel
theorem dX12_termOf_5 : decode cX12_termOf 5 = .ok (.iload 4, 2) := by decide +kernel
theorem dX12_termOf_7 : decode cX12_termOf 7 = .ok (.iload_n 2, 1) := by decide +kernel
theorem dX12_termOf_8 : decode cX12_termOf 8 = .ok (.if_icmp .ge 170, 3) := by decide +kernel
theorem dX12_termOf_11 : decode cX12_termOf 11 = .ok (.aload_n 0, 1) := by decide +kernel
theorem dX12_termOf_12 : decode cX12_termOf 12 = .ok (.getfield 58, 3) := by decide +kernel
theorem dX12_termOf_15 : decode cX12_termOf 15 = .ok (.iload 4, 2) := by decide +kernel
theorem dX12_termOf_17 : decode cX12_termOf 17 = .ok (.iaload, 1) := by decide +kernel
theorem dX12_termOf_18 : decode cX12_termOf 18 = .ok (.istore 5, 2) := by decide +kernel
theorem dX12_termOf_20 : decode cX12_termOf 20 = .ok (.iload 5, 2) := by decide +kernel
theorem dX12_termOf_22 : decode cX12_termOf 22 = .ok (.iconst 2, 1) := by decide +kernel
theorem dX12_termOf_23 : decode cX12_termOf 23 = .ok (.if_icmp .ge 42, 3) := by decide +kernel
theorem dX12_termOf_26 : decode cX12_termOf 26 = .ok (.aload_n 0, 1) := by decide +kernel
theorem dX12_termOf_27 : decode cX12_termOf 27 = .ok (.getfield 70, 3) := by decide +kernel
theorem dX12_termOf_30 : decode cX12_termOf 30 = .ok (.iload_n 3, 1) := by decide +kernel
theorem dX12_termOf_31 : decode cX12_termOf 31 = .ok (.iload 5, 2) := by decide +kernel
theorem dX12_termOf_33 : decode cX12_termOf 33 = .ok (.ifCond .ne 13, 3) := by decide +kernel
theorem dX12_termOf_36 : decode cX12_termOf 36 = .ok (.aload_n 0, 1) := by decide +kernel
theorem dX12_termOf_37 : decode cX12_termOf 37 = .ok (.getfield 61, 3) := by decide +kernel
theorem dX12_termOf_40 : decode cX12_termOf 40 = .ok (.iload 4, 2) := by decide +kernel
theorem dX12_termOf_42 : decode cX12_termOf 42 = .ok (.iaload, 1) := by decide +kernel
theorem dX12_termOf_43 : decode cX12_termOf 43 = .ok (.goto 15, 3) := by decide +kernel
theorem dX12_termOf_46 : decode cX12_termOf 46 = .ok (.aload_n 0, 1) := by decide +kernel
theorem dX12_termOf_47 : decode cX12_termOf 47 = .ok (.getfield 67, 3) := by decide +kernel
theorem dX12_termOf_50 : decode cX12_termOf 50 = .ok (.aload_n 0, 1) := by decide +kernel
theorem dX12_termOf_51 : decode cX12_termOf 51 = .ok (.getfield 61, 3) := by decide +kernel
theorem dX12_termOf_54 : decode cX12_termOf 54 = .ok (.iload 4, 2) := by decide +kernel
theorem dX12_termOf_56 : decode cX12_termOf 56 = .ok (.iaload, 1) := by decide +kernel
theorem dX12_termOf_57 : decode cX12_termOf 57 = .ok (.iaload, 1) := by decide +kernel
theorem dX12_termOf_58 : decode cX12_termOf 58 = .ok (.iastore, 1) := by decide +kernel
theorem dX12_termOf_59 : decode cX12_termOf 59 = .ok (.iinc 3 1, 3) := by decide +kernel
theorem dX12_termOf_62 : decode cX12_termOf 62 = .ok (.goto 110, 3) := by decide +kernel
theorem dX12_termOf_65 : decode cX12_termOf 65 = .ok (.iinc 3 (-1), 3) := by decide +kernel
theorem dX12_termOf_68 : decode cX12_termOf 68 = .ok (.aload_n 0, 1) := by decide +kernel
theorem dX12_termOf_69 : decode cX12_termOf 69 = .ok (.getfield 70, 3) := by decide +kernel
theorem dX12_termOf_72 : decode cX12_termOf 72 = .ok (.iload_n 3, 1) := by decide +kernel
theorem dX12_termOf_73 : decode cX12_termOf 73 = .ok (.iconst 1, 1) := by decide +kernel
theorem dX12_termOf_74 : decode cX12_termOf 74 = .ok (.isub, 1) := by decide +kernel
theorem dX12_termOf_75 : decode cX12_termOf 75 = .ok (.iaload, 1) := by decide +kernel
theorem dX12_termOf_76 : decode cX12_termOf 76 = .ok (.istore 6, 2) := by decide +kernel
theorem dX12_termOf_78 : decode cX12_termOf 78 = .ok (.aload_n 0, 1) := by decide +kernel
theorem dX12_termOf_79 : decode cX12_termOf 79 = .ok (.getfield 70, 3) := by decide +kernel
theorem dX12_termOf_82 : decode cX12_termOf 82 = .ok (.iload_n 3, 1) := by decide +kernel
theorem dX12_termOf_83 : decode cX12_termOf 83 = .ok (.iaload, 1) := by decide +kernel
theorem dX12_termOf_84 : decode cX12_termOf 84 = .ok (.istore 7, 2) := by decide +kernel
theorem dX12_termOf_86 : decode cX12_termOf 86 = .ok (.iload 5, 2) := by decide +kernel
theorem dX12_termOf_88 : decode cX12_termOf 88 = .ok (.iconst 4, 1) := by decide +kernel
theorem dX12_termOf_89 : decode cX12_termOf 89 = .ok (.if_icmp .le 42, 3) := by decide +kernel
theorem dX12_termOf_92 : decode cX12_termOf 92 = .ok (.aload_n 0, 1) := by decide +kernel
theorem dX12_termOf_93 : decode cX12_termOf 93 = .ok (.getfield 70, 3) := by decide +kernel
theorem dX12_termOf_96 : decode cX12_termOf 96 = .ok (.iload_n 3, 1) := by decide +kernel
theorem dX12_termOf_97 : decode cX12_termOf 97 = .ok (.iconst 1, 1) := by decide +kernel
theorem dX12_termOf_98 : decode cX12_termOf 98 = .ok (.isub, 1) := by decide +kernel
theorem dX12_termOf_99 : decode cX12_termOf 99 = .ok (.iload 7, 2) := by decide +kernel
theorem dX12_termOf_101 : decode cX12_termOf 101 = .ok (.ifCond .ne 7, 3) := by decide +kernel
theorem dX12_termOf_104 : decode cX12_termOf 104 = .ok (.iconst 0, 1) := by decide +kernel
theorem dX12_termOf_105 : decode cX12_termOf 105 = .ok (.goto 22, 3) := by decide +kernel
theorem dX12_termOf_108 : decode cX12_termOf 108 = .ok (.iload 5, 2) := by decide +kernel
theorem dX12_termOf_110 : decode cX12_termOf 110 = .ok (.iconst 5, 1) := by decide +kernel
theorem dX12_termOf_111 : decode cX12_termOf 111 = .ok (.if_icmp .ne 11, 3) := by decide +kernel
theorem dX12_termOf_114 : decode cX12_termOf 114 = .ok (.iload 6, 2) := by decide +kernel
theorem dX12_termOf_116 : decode cX12_termOf 116 = .ok (.iload 7, 2) := by decide +kernel
theorem dX12_termOf_118 : decode cX12_termOf 118 = .ok (.idiv, 1) := by decide +kernel
theorem dX12_termOf_119 : decode cX12_termOf 119 = .ok (.goto 8, 3) := by decide +kernel
theorem dX12_termOf_122 : decode cX12_termOf 122 = .ok (.iload 6, 2) := by decide +kernel
theorem dX12_termOf_124 : decode cX12_termOf 124 = .ok (.iload 7, 2) := by decide +kernel
theorem dX12_termOf_126 : decode cX12_termOf 126 = .ok (.irem, 1) := by decide +kernel
theorem dX12_termOf_127 : decode cX12_termOf 127 = .ok (.iastore, 1) := by decide +kernel
theorem dX12_termOf_128 : decode cX12_termOf 128 = .ok (.goto 44, 3) := by decide +kernel
theorem dX12_termOf_131 : decode cX12_termOf 131 = .ok (.aload_n 0, 1) := by decide +kernel
theorem dX12_termOf_132 : decode cX12_termOf 132 = .ok (.getfield 70, 3) := by decide +kernel
theorem dX12_termOf_135 : decode cX12_termOf 135 = .ok (.iload_n 3, 1) := by decide +kernel
theorem dX12_termOf_136 : decode cX12_termOf 136 = .ok (.iconst 1, 1) := by decide +kernel
theorem dX12_termOf_137 : decode cX12_termOf 137 = .ok (.isub, 1) := by decide +kernel
theorem dX12_termOf_138 : decode cX12_termOf 138 = .ok (.iload 5, 2) := by decide +kernel
theorem dX12_termOf_140 : decode cX12_termOf 140 = .ok (.iconst 2, 1) := by decide +kernel
theorem dX12_termOf_141 : decode cX12_termOf 141 = .ok (.if_icmp .ne 11, 3) := by decide +kernel
theorem dX12_termOf_144 : decode cX12_termOf 144 = .ok (.iload 6, 2) := by decide +kernel
theorem dX12_termOf_146 : decode cX12_termOf 146 = .ok (.iload 7, 2) := by decide +kernel
theorem dX12_termOf_148 : decode cX12_termOf 148 = .ok (.iadd, 1) := by decide +kernel
theorem dX12_termOf_149 : decode cX12_termOf 149 = .ok (.goto 22, 3) := by decide +kernel
theorem dX12_termOf_152 : decode cX12_termOf 152 = .ok (.iload 5, 2) := by decide +kernel
theorem dX12_termOf_154 : decode cX12_termOf 154 = .ok (.iconst 3, 1) := by decide +kernel
theorem dX12_termOf_155 : decode cX12_termOf 155 = .ok (.if_icmp .ne 11, 3) := by decide +kernel
theorem dX12_termOf_158 : decode cX12_termOf 158 = .ok (.iload 6, 2) := by decide +kernel
theorem dX12_termOf_160 : decode cX12_termOf 160 = .ok (.iload 7, 2) := by decide +kernel
theorem dX12_termOf_162 : decode cX12_termOf 162 = .ok (.isub, 1) := by decide +kernel
theorem dX12_termOf_163 : decode cX12_termOf 163 = .ok (.goto 8, 3) := by decide +kernel
theorem dX12_termOf_166 : decode cX12_termOf 166 = .ok (.iload 6, 2) := by decide +kernel
theorem dX12_termOf_168 : decode cX12_termOf 168 = .ok (.iload 7, 2) := by decide +kernel
theorem dX12_termOf_170 : decode cX12_termOf 170 = .ok (.imul, 1) := by decide +kernel
theorem dX12_termOf_171 : decode cX12_termOf 171 = .ok (.iastore, 1) := by decide +kernel
theorem dX12_termOf_172 : decode cX12_termOf 172 = .ok (.iinc 4 1, 3) := by decide +kernel
theorem dX12_termOf_175 : decode cX12_termOf 175 = .ok (.goto (-170), 3) := by decide +kernel
theorem dX12_termOf_178 : decode cX12_termOf 178 = .ok (.aload_n 0, 1) := by decide +kernel
theorem dX12_termOf_179 : decode cX12_termOf 179 = .ok (.getfield 70, 3) := by decide +kernel
theorem dX12_termOf_182 : decode cX12_termOf 182 = .ok (.iconst 0, 1) := by decide +kernel
theorem dX12_termOf_183 : decode cX12_termOf 183 = .ok (.iaload, 1) := by decide +kernel
theorem dX12_termOf_184 : decode cX12_termOf 184 = .ok (.ireturn, 1) := by decide +kernel
theorem dX12_runs_0 : decode cX12_runs 0 = .ok (.iconst 0, 1) := by decide +kernel
theorem dX12_runs_1 : decode cX12_runs 1 = .ok (.istore_n 1, 1) := by decide +kernel
theorem dX12_runs_2 : decode cX12_runs 2 = .ok (.iconst 0, 1) := by decide +kernel
theorem dX12_runs_3 : decode cX12_runs 3 = .ok (.istore_n 2, 1) := by decide +kernel
theorem dX12_runs_4 : decode cX12_runs 4 = .ok (.iconst 0, 1) := by decide +kernel
theorem dX12_runs_5 : decode cX12_runs 5 = .ok (.istore_n 3, 1) := by decide +kernel
theorem dX12_runs_6 : decode cX12_runs 6 = .ok (.iload_n 1, 1) := by decide +kernel
theorem dX12_runs_7 : decode cX12_runs 7 = .ok (.aload_n 0, 1) := by decide +kernel
theorem dX12_runs_8 : decode cX12_runs 8 = .ok (.getfield 187, 3) := by decide +kernel
theorem dX12_runs_11 : decode cX12_runs 11 = .ok (.if_icmp .ge 318, 3) := by decide +kernel
theorem dX12_runs_14 : decode cX12_runs 14 = .ok (.aload_n 0, 1) := by decide +kernel
theorem dX12_runs_15 : decode cX12_runs 15 = .ok (.getfield 77, 3) := by decide +kernel
theorem dX12_runs_18 : decode cX12_runs 18 = .ok (.iconst 5, 1) := by decide +kernel
theorem dX12_runs_19 : decode cX12_runs 19 = .ok (.iaload, 1) := by decide +kernel
theorem dX12_runs_20 : decode cX12_runs 20 = .ok (.sipush 400, 3) := by decide +kernel
theorem dX12_runs_23 : decode cX12_runs 23 = .ok (.if_icmp .ge 306, 3) := by decide +kernel
theorem dX12_runs_26 : decode cX12_runs 26 = .ok (.aload_n 0, 1) := by decide +kernel
theorem dX12_runs_27 : decode cX12_runs 27 = .ok (.getfield 40, 3) := by decide +kernel
theorem dX12_runs_30 : decode cX12_runs 30 = .ok (.iload_n 1, 1) := by decide +kernel
theorem dX12_runs_31 : decode cX12_runs 31 = .ok (.iaload, 1) := by decide +kernel
theorem dX12_runs_32 : decode cX12_runs 32 = .ok (.istore 4, 2) := by decide +kernel
theorem dX12_runs_34 : decode cX12_runs 34 = .ok (.iload 4, 2) := by decide +kernel
theorem dX12_runs_36 : decode cX12_runs 36 = .ok (.iconst 2, 1) := by decide +kernel
theorem dX12_runs_37 : decode cX12_runs 37 = .ok (.if_icmp .ne 35, 3) := by decide +kernel
theorem dX12_runs_40 : decode cX12_runs 40 = .ok (.aload_n 0, 1) := by decide +kernel
theorem dX12_runs_41 : decode cX12_runs 41 = .ok (.getfield 43, 3) := by decide +kernel
theorem dX12_runs_44 : decode cX12_runs 44 = .ok (.iload_n 1, 1) := by decide +kernel
theorem dX12_runs_45 : decode cX12_runs 45 = .ok (.iaload, 1) := by decide +kernel
theorem dX12_runs_46 : decode cX12_runs 46 = .ok (.ifCond .ne 13, 3) := by decide +kernel
theorem dX12_runs_49 : decode cX12_runs 49 = .ok (.aload_n 0, 1) := by decide +kernel
theorem dX12_runs_50 : decode cX12_runs 50 = .ok (.getfield 52, 3) := by decide +kernel
theorem dX12_runs_53 : decode cX12_runs 53 = .ok (.iload_n 1, 1) := by decide +kernel
theorem dX12_runs_54 : decode cX12_runs 54 = .ok (.iaload, 1) := by decide +kernel
theorem dX12_runs_55 : decode cX12_runs 55 = .ok (.istore_n 1, 1) := by decide +kernel
theorem dX12_runs_56 : decode cX12_runs 56 = .ok (.goto 267, 3) := by decide +kernel
theorem dX12_runs_59 : decode cX12_runs 59 = .ok (.aload_n 0, 1) := by decide +kernel
theorem dX12_runs_60 : decode cX12_runs 60 = .ok (.getfield 73, 3) := by decide +kernel
theorem dX12_runs_63 : decode cX12_runs 63 = .ok (.iload_n 2, 1) := by decide +kernel
theorem dX12_runs_64 : decode cX12_runs 64 = .ok (.iconst 0, 1) := by decide +kernel
theorem dX12_runs_65 : decode cX12_runs 65 = .ok (.iastore, 1) := by decide +kernel
theorem dX12_runs_66 : decode cX12_runs 66 = .ok (.iinc 2 1, 3) := by decide +kernel
theorem dX12_runs_69 : decode cX12_runs 69 = .ok (.goto 254, 3) := by decide +kernel
theorem dX12_runs_72 : decode cX12_runs 72 = .ok (.iload 4, 2) := by decide +kernel
theorem dX12_runs_74 : decode cX12_runs 74 = .ok (.iconst 3, 1) := by decide +kernel
theorem dX12_runs_75 : decode cX12_runs 75 = .ok (.if_icmp .ne 53, 3) := by decide +kernel
theorem dX12_runs_78 : decode cX12_runs 78 = .ok (.aload_n 0, 1) := by decide +kernel
theorem dX12_runs_79 : decode cX12_runs 79 = .ok (.getfield 73, 3) := by decide +kernel
theorem dX12_runs_82 : decode cX12_runs 82 = .ok (.iload_n 2, 1) := by decide +kernel
theorem dX12_runs_83 : decode cX12_runs 83 = .ok (.iconst 1, 1) := by decide +kernel
theorem dX12_runs_84 : decode cX12_runs 84 = .ok (.isub, 1) := by decide +kernel
theorem dX12_runs_85 : decode cX12_runs 85 = .ok (.dup2, 1) := by decide +kernel
theorem dX12_runs_86 : decode cX12_runs 86 = .ok (.iaload, 1) := by decide +kernel
theorem dX12_runs_87 : decode cX12_runs 87 = .ok (.iconst 1, 1) := by decide +kernel
theorem dX12_runs_88 : decode cX12_runs 88 = .ok (.iadd, 1) := by decide +kernel
theorem dX12_runs_89 : decode cX12_runs 89 = .ok (.iastore, 1) := by decide +kernel
theorem dX12_runs_90 : decode cX12_runs 90 = .ok (.aload_n 0, 1) := by decide +kernel
theorem dX12_runs_91 : decode cX12_runs 91 = .ok (.getfield 73, 3) := by decide +kernel
theorem dX12_runs_94 : decode cX12_runs 94 = .ok (.iload_n 2, 1) := by decide +kernel
theorem dX12_runs_95 : decode cX12_runs 95 = .ok (.iconst 1, 1) := by decide +kernel
theorem dX12_runs_96 : decode cX12_runs 96 = .ok (.isub, 1) := by decide +kernel
theorem dX12_runs_97 : decode cX12_runs 97 = .ok (.iaload, 1) := by decide +kernel
theorem dX12_runs_98 : decode cX12_runs 98 = .ok (.aload_n 0, 1) := by decide +kernel
theorem dX12_runs_99 : decode cX12_runs 99 = .ok (.getfield 43, 3) := by decide +kernel
theorem dX12_runs_102 : decode cX12_runs 102 = .ok (.aload_n 0, 1) := by decide +kernel
theorem dX12_runs_103 : decode cX12_runs 103 = .ok (.getfield 52, 3) := by decide +kernel
theorem dX12_runs_106 : decode cX12_runs 106 = .ok (.iload_n 1, 1) := by decide +kernel
theorem dX12_runs_107 : decode cX12_runs 107 = .ok (.iaload, 1) := by decide +kernel
theorem dX12_runs_108 : decode cX12_runs 108 = .ok (.iaload, 1) := by decide +kernel
theorem dX12_runs_109 : decode cX12_runs 109 = .ok (.if_icmp .ge 13, 3) := by decide +kernel
theorem dX12_runs_112 : decode cX12_runs 112 = .ok (.aload_n 0, 1) := by decide +kernel
theorem dX12_runs_113 : decode cX12_runs 113 = .ok (.getfield 52, 3) := by decide +kernel
theorem dX12_runs_116 : decode cX12_runs 116 = .ok (.iload_n 1, 1) := by decide +kernel
theorem dX12_runs_117 : decode cX12_runs 117 = .ok (.iaload, 1) := by decide +kernel
theorem dX12_runs_118 : decode cX12_runs 118 = .ok (.istore_n 1, 1) := by decide +kernel
theorem dX12_runs_119 : decode cX12_runs 119 = .ok (.goto 204, 3) := by decide +kernel
theorem dX12_runs_122 : decode cX12_runs 122 = .ok (.iinc 2 (-1), 3) := by decide +kernel
theorem dX12_runs_125 : decode cX12_runs 125 = .ok (.goto 198, 3) := by decide +kernel
theorem dX12_runs_128 : decode cX12_runs 128 = .ok (.aload_n 0, 1) := by decide +kernel
theorem dX12_runs_129 : decode cX12_runs 129 = .ok (.getfield 67, 3) := by decide +kernel
theorem dX12_runs_132 : decode cX12_runs 132 = .ok (.iconst 0, 1) := by decide +kernel
theorem dX12_runs_133 : decode cX12_runs 133 = .ok (.iload_n 2, 1) := by decide +kernel
theorem dX12_runs_134 : decode cX12_runs 134 = .ok (.ifCond .le 14, 3) := by decide +kernel
theorem dX12_runs_137 : decode cX12_runs 137 = .ok (.aload_n 0, 1) := by decide +kernel
theorem dX12_runs_138 : decode cX12_runs 138 = .ok (.getfield 73, 3) := by decide +kernel
theorem dX12_runs_141 : decode cX12_runs 141 = .ok (.iload_n 2, 1) := by decide +kernel
theorem dX12_runs_142 : decode cX12_runs 142 = .ok (.iconst 1, 1) := by decide +kernel
theorem dX12_runs_143 : decode cX12_runs 143 = .ok (.isub, 1) := by decide +kernel
theorem dX12_runs_144 : decode cX12_runs 144 = .ok (.iaload, 1) := by decide +kernel
theorem dX12_runs_145 : decode cX12_runs 145 = .ok (.goto 4, 3) := by decide +kernel
theorem dX12_runs_148 : decode cX12_runs 148 = .ok (.iconst 0, 1) := by decide +kernel
theorem dX12_runs_149 : decode cX12_runs 149 = .ok (.iastore, 1) := by decide +kernel
theorem dX12_runs_150 : decode cX12_runs 150 = .ok (.aload_n 0, 1) := by decide +kernel
theorem dX12_runs_151 : decode cX12_runs 151 = .ok (.getfield 67, 3) := by decide +kernel
theorem dX12_runs_154 : decode cX12_runs 154 = .ok (.iconst 1, 1) := by decide +kernel
theorem dX12_runs_155 : decode cX12_runs 155 = .ok (.iload_n 2, 1) := by decide +kernel
theorem dX12_runs_156 : decode cX12_runs 156 = .ok (.iconst 1, 1) := by decide +kernel
theorem dX12_runs_157 : decode cX12_runs 157 = .ok (.if_icmp .le 14, 3) := by decide +kernel
theorem dX12_runs_160 : decode cX12_runs 160 = .ok (.aload_n 0, 1) := by decide +kernel
theorem dX12_runs_161 : decode cX12_runs 161 = .ok (.getfield 73, 3) := by decide +kernel
theorem dX12_runs_164 : decode cX12_runs 164 = .ok (.iload_n 2, 1) := by decide +kernel
theorem dX12_runs_165 : decode cX12_runs 165 = .ok (.iconst 2, 1) := by decide +kernel
theorem dX12_runs_166 : decode cX12_runs 166 = .ok (.isub, 1) := by decide +kernel
theorem dX12_runs_167 : decode cX12_runs 167 = .ok (.iaload, 1) := by decide +kernel
theorem dX12_runs_168 : decode cX12_runs 168 = .ok (.goto 4, 3) := by decide +kernel
theorem dX12_runs_171 : decode cX12_runs 171 = .ok (.iconst 0, 1) := by decide +kernel
theorem dX12_runs_172 : decode cX12_runs 172 = .ok (.iastore, 1) := by decide +kernel
theorem dX12_runs_173 : decode cX12_runs 173 = .ok (.aload_n 0, 1) := by decide +kernel
theorem dX12_runs_174 : decode cX12_runs 174 = .ok (.getfield 67, 3) := by decide +kernel
theorem dX12_runs_177 : decode cX12_runs 177 = .ok (.iconst 2, 1) := by decide +kernel
theorem dX12_runs_178 : decode cX12_runs 178 = .ok (.aload_n 0, 1) := by decide +kernel
theorem dX12_runs_179 : decode cX12_runs 179 = .ok (.getfield 77, 3) := by decide +kernel
theorem dX12_runs_182 : decode cX12_runs 182 = .ok (.iconst 0, 1) := by decide +kernel
theorem dX12_runs_183 : decode cX12_runs 183 = .ok (.iaload, 1) := by decide +kernel
theorem dX12_runs_184 : decode cX12_runs 184 = .ok (.iastore, 1) := by decide +kernel
theorem dX12_runs_185 : decode cX12_runs 185 = .ok (.aload_n 0, 1) := by decide +kernel
theorem dX12_runs_186 : decode cX12_runs 186 = .ok (.getfield 67, 3) := by decide +kernel
theorem dX12_runs_189 : decode cX12_runs 189 = .ok (.iconst 3, 1) := by decide +kernel
theorem dX12_runs_190 : decode cX12_runs 190 = .ok (.aload_n 0, 1) := by decide +kernel
theorem dX12_runs_191 : decode cX12_runs 191 = .ok (.getfield 77, 3) := by decide +kernel
theorem dX12_runs_194 : decode cX12_runs 194 = .ok (.bipush 7, 2) := by decide +kernel
theorem dX12_runs_196 : decode cX12_runs 196 = .ok (.iaload, 1) := by decide +kernel
theorem dX12_runs_197 : decode cX12_runs 197 = .ok (.iastore, 1) := by decide +kernel
theorem dX12_runs_198 : decode cX12_runs 198 = .ok (.aload_n 0, 1) := by decide +kernel
theorem dX12_runs_199 : decode cX12_runs 199 = .ok (.getfield 67, 3) := by decide +kernel
theorem dX12_runs_202 : decode cX12_runs 202 = .ok (.iconst 4, 1) := by decide +kernel
theorem dX12_runs_203 : decode cX12_runs 203 = .ok (.iload_n 3, 1) := by decide +kernel
theorem dX12_runs_204 : decode cX12_runs 204 = .ok (.iastore, 1) := by decide +kernel
theorem dX12_runs_205 : decode cX12_runs 205 = .ok (.aload_n 0, 1) := by decide +kernel
theorem dX12_runs_206 : decode cX12_runs 206 = .ok (.getfield 67, 3) := by decide +kernel
theorem dX12_runs_209 : decode cX12_runs 209 = .ok (.iconst 5, 1) := by decide +kernel
theorem dX12_runs_210 : decode cX12_runs 210 = .ok (.aload_n 0, 1) := by decide +kernel
theorem dX12_runs_211 : decode cX12_runs 211 = .ok (.getfield 77, 3) := by decide +kernel
theorem dX12_runs_214 : decode cX12_runs 214 = .ok (.iconst 3, 1) := by decide +kernel
theorem dX12_runs_215 : decode cX12_runs 215 = .ok (.iaload, 1) := by decide +kernel
theorem dX12_runs_216 : decode cX12_runs 216 = .ok (.iastore, 1) := by decide +kernel
theorem dX12_runs_217 : decode cX12_runs 217 = .ok (.aload_n 0, 1) := by decide +kernel
theorem dX12_runs_218 : decode cX12_runs 218 = .ok (.aload_n 0, 1) := by decide +kernel
theorem dX12_runs_219 : decode cX12_runs 219 = .ok (.getfield 43, 3) := by decide +kernel
theorem dX12_runs_222 : decode cX12_runs 222 = .ok (.iload_n 1, 1) := by decide +kernel
theorem dX12_runs_223 : decode cX12_runs 223 = .ok (.iaload, 1) := by decide +kernel
theorem dX12_runs_224 : decode cX12_runs 224 = .ok (.aload_n 0, 1) := by decide +kernel
theorem dX12_runs_225 : decode cX12_runs 225 = .ok (.getfield 46, 3) := by decide +kernel
theorem dX12_runs_228 : decode cX12_runs 228 = .ok (.iload_n 1, 1) := by decide +kernel
theorem dX12_runs_229 : decode cX12_runs 229 = .ok (.iaload, 1) := by decide +kernel
theorem dX12_runs_230 : decode cX12_runs 230 = .ok (.invokevirtual 229, 3) := by decide +kernel
theorem dX12_runs_233 : decode cX12_runs 233 = .ok (.invokestatic 232, 3) := by decide +kernel
theorem dX12_runs_236 : decode cX12_runs 236 = .ok (.istore 5, 2) := by decide +kernel
theorem dX12_runs_238 : decode cX12_runs 238 = .ok (.iload 4, 2) := by decide +kernel
theorem dX12_runs_240 : decode cX12_runs 240 = .ok (.ifCond .ne 22, 3) := by decide +kernel
theorem dX12_runs_243 : decode cX12_runs 243 = .ok (.aload_n 0, 1) := by decide +kernel
theorem dX12_runs_244 : decode cX12_runs 244 = .ok (.aload_n 0, 1) := by decide +kernel
theorem dX12_runs_245 : decode cX12_runs 245 = .ok (.getfield 46, 3) := by decide +kernel
theorem dX12_runs_248 : decode cX12_runs 248 = .ok (.iload_n 1, 1) := by decide +kernel
theorem dX12_runs_249 : decode cX12_runs 249 = .ok (.iaload, 1) := by decide +kernel
theorem dX12_runs_250 : decode cX12_runs 250 = .ok (.aload_n 0, 1) := by decide +kernel
theorem dX12_runs_251 : decode cX12_runs 251 = .ok (.getfield 49, 3) := by decide +kernel
theorem dX12_runs_254 : decode cX12_runs 254 = .ok (.iload_n 1, 1) := by decide +kernel
theorem dX12_runs_255 : decode cX12_runs 255 = .ok (.iaload, 1) := by decide +kernel
theorem dX12_runs_256 : decode cX12_runs 256 = .ok (.invokevirtual 229, 3) := by decide +kernel
theorem dX12_runs_259 : decode cX12_runs 259 = .ok (.goto 4, 3) := by decide +kernel
theorem dX12_runs_262 : decode cX12_runs 262 = .ok (.iconst 0, 1) := by decide +kernel
theorem dX12_runs_263 : decode cX12_runs 263 = .ok (.istore 6, 2) := by decide +kernel
theorem dX12_runs_265 : decode cX12_runs 265 = .ok (.iload 4, 2) := by decide +kernel
theorem dX12_runs_267 : decode cX12_runs 267 = .ok (.ifCond .ne 6, 3) := by decide +kernel
theorem dX12_runs_270 : decode cX12_runs 270 = .ok (.iload 5, 2) := by decide +kernel
theorem dX12_runs_272 : decode cX12_runs 272 = .ok (.istore_n 3, 1) := by decide +kernel
theorem dX12_runs_273 : decode cX12_runs 273 = .ok (.aload_n 0, 1) := by decide +kernel
theorem dX12_runs_274 : decode cX12_runs 274 = .ok (.getfield 77, 3) := by decide +kernel
theorem dX12_runs_277 : decode cX12_runs 277 = .ok (.iconst 5, 1) := by decide +kernel
theorem dX12_runs_278 : decode cX12_runs 278 = .ok (.dup2, 1) := by decide +kernel
theorem dX12_runs_279 : decode cX12_runs 279 = .ok (.iaload, 1) := by decide +kernel
theorem dX12_runs_280 : decode cX12_runs 280 = .ok (.iconst 1, 1) := by decide +kernel
theorem dX12_runs_281 : decode cX12_runs 281 = .ok (.iadd, 1) := by decide +kernel
theorem dX12_runs_282 : decode cX12_runs 282 = .ok (.iastore, 1) := by decide +kernel
theorem dX12_runs_283 : decode cX12_runs 283 = .ok (.iload 4, 2) := by decide +kernel
theorem dX12_runs_285 : decode cX12_runs 285 = .ok (.ifCond .ne 14, 3) := by decide +kernel
theorem dX12_runs_288 : decode cX12_runs 288 = .ok (.aload_n 0, 1) := by decide +kernel
theorem dX12_runs_289 : decode cX12_runs 289 = .ok (.iload 5, 2) := by decide +kernel
theorem dX12_runs_291 : decode cX12_runs 291 = .ok (.iload 6, 2) := by decide +kernel
theorem dX12_runs_293 : decode cX12_runs 293 = .ok (.invokevirtual 235, 3) := by decide +kernel
theorem dX12_runs_296 : decode cX12_runs 296 = .ok (.goto 9, 3) := by decide +kernel
theorem dX12_runs_299 : decode cX12_runs 299 = .ok (.aload_n 0, 1) := by decide +kernel
theorem dX12_runs_300 : decode cX12_runs 300 = .ok (.iload 5, 2) := by decide +kernel
theorem dX12_runs_302 : decode cX12_runs 302 = .ok (.invokevirtual 239, 3) := by decide +kernel
theorem dX12_runs_305 : decode cX12_runs 305 = .ok (.istore 7, 2) := by decide +kernel
theorem dX12_runs_307 : decode cX12_runs 307 = .ok (.iload 7, 2) := by decide +kernel
theorem dX12_runs_309 : decode cX12_runs 309 = .ok (.ifCond .ne 14, 3) := by decide +kernel
theorem dX12_runs_312 : decode cX12_runs 312 = .ok (.aload_n 0, 1) := by decide +kernel
theorem dX12_runs_313 : decode cX12_runs 313 = .ok (.getfield 77, 3) := by decide +kernel
theorem dX12_runs_316 : decode cX12_runs 316 = .ok (.bipush 6, 2) := by decide +kernel
theorem dX12_runs_318 : decode cX12_runs 318 = .ok (.dup2, 1) := by decide +kernel
theorem dX12_runs_319 : decode cX12_runs 319 = .ok (.iaload, 1) := by decide +kernel
theorem dX12_runs_320 : decode cX12_runs 320 = .ok (.iconst 1, 1) := by decide +kernel
theorem dX12_runs_321 : decode cX12_runs 321 = .ok (.iadd, 1) := by decide +kernel
theorem dX12_runs_322 : decode cX12_runs 322 = .ok (.iastore, 1) := by decide +kernel
theorem dX12_runs_323 : decode cX12_runs 323 = .ok (.iinc 1 1, 3) := by decide +kernel
theorem dX12_runs_326 : decode cX12_runs 326 = .ok (.goto (-320), 3) := by decide +kernel
theorem dX12_runs_329 : decode cX12_runs 329 = .ok (.return_, 1) := by decide +kernel
theorem dX12_keyOf_0 : decode cX12_keyOf 0 = .ok (.iload_n 0, 1) := by decide +kernel
theorem dX12_keyOf_1 : decode cX12_keyOf 1 = .ok (.sipush 1000, 3) := by decide +kernel
theorem dX12_keyOf_4 : decode cX12_keyOf 4 = .ok (.irem, 1) := by decide +kernel
theorem dX12_keyOf_5 : decode cX12_keyOf 5 = .ok (.istore_n 1, 1) := by decide +kernel
theorem dX12_keyOf_6 : decode cX12_keyOf 6 = .ok (.iload_n 1, 1) := by decide +kernel
theorem dX12_keyOf_7 : decode cX12_keyOf 7 = .ok (.ifCond .ge 11, 3) := by decide +kernel
theorem dX12_keyOf_10 : decode cX12_keyOf 10 = .ok (.iload_n 1, 1) := by decide +kernel
theorem dX12_keyOf_11 : decode cX12_keyOf 11 = .ok (.sipush 1000, 3) := by decide +kernel
theorem dX12_keyOf_14 : decode cX12_keyOf 14 = .ok (.iadd, 1) := by decide +kernel
theorem dX12_keyOf_15 : decode cX12_keyOf 15 = .ok (.goto 4, 3) := by decide +kernel
theorem dX12_keyOf_18 : decode cX12_keyOf 18 = .ok (.iload_n 1, 1) := by decide +kernel
theorem dX12_keyOf_19 : decode cX12_keyOf 19 = .ok (.ireturn, 1) := by decide +kernel
theorem dX12_in_0 : decode cX12_in 0 = .ok (.iload_n 0, 1) := by decide +kernel
theorem dX12_in_1 : decode cX12_in 1 = .ok (.iload_n 1, 1) := by decide +kernel
theorem dX12_in_2 : decode cX12_in 2 = .ok (.if_icmp .lt 12, 3) := by decide +kernel
theorem dX12_in_5 : decode cX12_in 5 = .ok (.iload_n 0, 1) := by decide +kernel
theorem dX12_in_6 : decode cX12_in 6 = .ok (.iload_n 2, 1) := by decide +kernel
theorem dX12_in_7 : decode cX12_in 7 = .ok (.if_icmp .gt 7, 3) := by decide +kernel
theorem dX12_in_10 : decode cX12_in 10 = .ok (.iconst 1, 1) := by decide +kernel
theorem dX12_in_11 : decode cX12_in 11 = .ok (.goto 4, 3) := by decide +kernel
theorem dX12_in_14 : decode cX12_in 14 = .ok (.iconst 0, 1) := by decide +kernel
theorem dX12_in_15 : decode cX12_in 15 = .ok (.ireturn, 1) := by decide +kernel
theorem dX12_begins_0 : decode cX12_begins 0 = .ok (.iconst 0, 1) := by decide +kernel
theorem dX12_begins_1 : decode cX12_begins 1 = .ok (.istore_n 2, 1) := by decide +kernel
theorem dX12_begins_2 : decode cX12_begins 2 = .ok (.iload_n 2, 1) := by decide +kernel
theorem dX12_begins_3 : decode cX12_begins 3 = .ok (.bipush 10, 2) := by decide +kernel
theorem dX12_begins_5 : decode cX12_begins 5 = .ok (.if_icmp .ge 16, 3) := by decide +kernel
theorem dX12_begins_8 : decode cX12_begins 8 = .ok (.aload_n 0, 1) := by decide +kernel
theorem dX12_begins_9 : decode cX12_begins 9 = .ok (.getfield 77, 3) := by decide +kernel
theorem dX12_begins_12 : decode cX12_begins 12 = .ok (.iload_n 2, 1) := by decide +kernel
theorem dX12_begins_13 : decode cX12_begins 13 = .ok (.iconst 0, 1) := by decide +kernel
theorem dX12_begins_14 : decode cX12_begins 14 = .ok (.iastore, 1) := by decide +kernel
theorem dX12_begins_15 : decode cX12_begins 15 = .ok (.iinc 2 1, 3) := by decide +kernel
theorem dX12_begins_18 : decode cX12_begins 18 = .ok (.goto (-16), 3) := by decide +kernel
theorem dX12_begins_21 : decode cX12_begins 21 = .ok (.aload_n 0, 1) := by decide +kernel
theorem dX12_begins_22 : decode cX12_begins 22 = .ok (.getfield 77, 3) := by decide +kernel
theorem dX12_begins_25 : decode cX12_begins 25 = .ok (.iconst 1, 1) := by decide +kernel
theorem dX12_begins_26 : decode cX12_begins 26 = .ok (.iload_n 1, 1) := by decide +kernel
theorem dX12_begins_27 : decode cX12_begins 27 = .ok (.iastore, 1) := by decide +kernel
theorem dX12_begins_28 : decode cX12_begins 28 = .ok (.iconst 0, 1) := by decide +kernel
theorem dX12_begins_29 : decode cX12_begins 29 = .ok (.istore_n 2, 1) := by decide +kernel
theorem dX12_begins_30 : decode cX12_begins 30 = .ok (.iload_n 2, 1) := by decide +kernel
theorem dX12_begins_31 : decode cX12_begins 31 = .ok (.sipush 1000, 3) := by decide +kernel
theorem dX12_begins_34 : decode cX12_begins 34 = .ok (.if_icmp .ge 19, 3) := by decide +kernel
theorem dX12_begins_37 : decode cX12_begins 37 = .ok (.aload_n 0, 1) := by decide +kernel
theorem dX12_begins_38 : decode cX12_begins 38 = .ok (.getfield 77, 3) := by decide +kernel
theorem dX12_begins_41 : decode cX12_begins 41 = .ok (.ldc 242, 2) := by decide +kernel
theorem dX12_begins_43 : decode cX12_begins 43 = .ok (.iload_n 2, 1) := by decide +kernel
theorem dX12_begins_44 : decode cX12_begins 44 = .ok (.iadd, 1) := by decide +kernel
theorem dX12_begins_45 : decode cX12_begins 45 = .ok (.iconst (-1), 1) := by decide +kernel
theorem dX12_begins_46 : decode cX12_begins 46 = .ok (.iastore, 1) := by decide +kernel
theorem dX12_begins_47 : decode cX12_begins 47 = .ok (.iinc 2 1, 3) := by decide +kernel
theorem dX12_begins_50 : decode cX12_begins 50 = .ok (.goto (-20), 3) := by decide +kernel
theorem dX12_begins_53 : decode cX12_begins 53 = .ok (.aload_n 0, 1) := by decide +kernel
theorem dX12_begins_54 : decode cX12_begins 54 = .ok (.iconst 1, 1) := by decide +kernel
theorem dX12_begins_55 : decode cX12_begins 55 = .ok (.invokevirtual 243, 3) := by decide +kernel
theorem dX12_begins_58 : decode cX12_begins 58 = .ok (.pop, 1) := by decide +kernel
theorem dX12_begins_59 : decode cX12_begins 59 = .ok (.aload_n 0, 1) := by decide +kernel
theorem dX12_begins_60 : decode cX12_begins 60 = .ok (.iconst 0, 1) := by decide +kernel
theorem dX12_begins_61 : decode cX12_begins 61 = .ok (.invokevirtual 246, 3) := by decide +kernel
theorem dX12_begins_64 : decode cX12_begins 64 = .ok (.return_, 1) := by decide +kernel
theorem dX12_weak_0 : decode cX12_weak 0 = .ok (.aload_n 0, 1) := by decide +kernel
theorem dX12_weak_1 : decode cX12_weak 1 = .ok (.getfield 77, 3) := by decide +kernel
theorem dX12_weak_4 : decode cX12_weak 4 = .ok (.iconst 1, 1) := by decide +kernel
theorem dX12_weak_5 : decode cX12_weak 5 = .ok (.iaload, 1) := by decide +kernel
theorem dX12_weak_6 : decode cX12_weak 6 = .ok (.iconst 4, 1) := by decide +kernel
theorem dX12_weak_7 : decode cX12_weak 7 = .ok (.idiv, 1) := by decide +kernel
theorem dX12_weak_8 : decode cX12_weak 8 = .ok (.ireturn, 1) := by decide +kernel
theorem dX12_becomesRoot_0 : decode cX12_becomesRoot 0 = .ok (.aload_n 0, 1) := by decide +kernel
theorem dX12_becomesRoot_1 : decode cX12_becomesRoot 1 = .ok (.getfield 77, 3) := by decide +kernel
theorem dX12_becomesRoot_4 : decode cX12_becomesRoot 4 = .ok (.bipush 10, 2) := by decide +kernel
theorem dX12_becomesRoot_6 : decode cX12_becomesRoot 6 = .ok (.aload_n 0, 1) := by decide +kernel
theorem dX12_becomesRoot_7 : decode cX12_becomesRoot 7 = .ok (.getfield 77, 3) := by decide +kernel
theorem dX12_becomesRoot_10 : decode cX12_becomesRoot 10 = .ok (.iconst 2, 1) := by decide +kernel
theorem dX12_becomesRoot_11 : decode cX12_becomesRoot 11 = .ok (.iaload, 1) := by decide +kernel
theorem dX12_becomesRoot_12 : decode cX12_becomesRoot 12 = .ok (.iadd, 1) := by decide +kernel
theorem dX12_becomesRoot_13 : decode cX12_becomesRoot 13 = .ok (.aload_n 0, 1) := by decide +kernel
theorem dX12_becomesRoot_14 : decode cX12_becomesRoot 14 = .ok (.getfield 77, 3) := by decide +kernel
theorem dX12_becomesRoot_17 : decode cX12_becomesRoot 17 = .ok (.iconst 0, 1) := by decide +kernel
theorem dX12_becomesRoot_18 : decode cX12_becomesRoot 18 = .ok (.iaload, 1) := by decide +kernel
theorem dX12_becomesRoot_19 : decode cX12_becomesRoot 19 = .ok (.iastore, 1) := by decide +kernel
theorem dX12_becomesRoot_20 : decode cX12_becomesRoot 20 = .ok (.aload_n 0, 1) := by decide +kernel
theorem dX12_becomesRoot_21 : decode cX12_becomesRoot 21 = .ok (.getfield 77, 3) := by decide +kernel
theorem dX12_becomesRoot_24 : decode cX12_becomesRoot 24 = .ok (.sipush 710, 3) := by decide +kernel
theorem dX12_becomesRoot_27 : decode cX12_becomesRoot 27 = .ok (.aload_n 0, 1) := by decide +kernel
theorem dX12_becomesRoot_28 : decode cX12_becomesRoot 28 = .ok (.getfield 77, 3) := by decide +kernel
theorem dX12_becomesRoot_31 : decode cX12_becomesRoot 31 = .ok (.iconst 2, 1) := by decide +kernel
theorem dX12_becomesRoot_32 : decode cX12_becomesRoot 32 = .ok (.iaload, 1) := by decide +kernel
theorem dX12_becomesRoot_33 : decode cX12_becomesRoot 33 = .ok (.iadd, 1) := by decide +kernel
theorem dX12_becomesRoot_34 : decode cX12_becomesRoot 34 = .ok (.iload_n 1, 1) := by decide +kernel
theorem dX12_becomesRoot_35 : decode cX12_becomesRoot 35 = .ok (.iastore, 1) := by decide +kernel
theorem dX12_becomesRoot_36 : decode cX12_becomesRoot 36 = .ok (.aload_n 0, 1) := by decide +kernel
theorem dX12_becomesRoot_37 : decode cX12_becomesRoot 37 = .ok (.getfield 77, 3) := by decide +kernel
theorem dX12_becomesRoot_40 : decode cX12_becomesRoot 40 = .ok (.iconst 2, 1) := by decide +kernel
theorem dX12_becomesRoot_41 : decode cX12_becomesRoot 41 = .ok (.dup2, 1) := by decide +kernel
theorem dX12_becomesRoot_42 : decode cX12_becomesRoot 42 = .ok (.iaload, 1) := by decide +kernel
theorem dX12_becomesRoot_43 : decode cX12_becomesRoot 43 = .ok (.iconst 1, 1) := by decide +kernel
theorem dX12_becomesRoot_44 : decode cX12_becomesRoot 44 = .ok (.iadd, 1) := by decide +kernel
theorem dX12_becomesRoot_45 : decode cX12_becomesRoot 45 = .ok (.iastore, 1) := by decide +kernel
theorem dX12_becomesRoot_46 : decode cX12_becomesRoot 46 = .ok (.return_, 1) := by decide +kernel
theorem dX12_rootNow_0 : decode cX12_rootNow 0 = .ok (.aload_n 0, 1) := by decide +kernel
theorem dX12_rootNow_1 : decode cX12_rootNow 1 = .ok (.getfield 77, 3) := by decide +kernel
theorem dX12_rootNow_4 : decode cX12_rootNow 4 = .ok (.sipush 710, 3) := by decide +kernel
theorem dX12_rootNow_7 : decode cX12_rootNow 7 = .ok (.aload_n 0, 1) := by decide +kernel
theorem dX12_rootNow_8 : decode cX12_rootNow 8 = .ok (.getfield 77, 3) := by decide +kernel
theorem dX12_rootNow_11 : decode cX12_rootNow 11 = .ok (.iconst 2, 1) := by decide +kernel
theorem dX12_rootNow_12 : decode cX12_rootNow 12 = .ok (.iaload, 1) := by decide +kernel
theorem dX12_rootNow_13 : decode cX12_rootNow 13 = .ok (.iadd, 1) := by decide +kernel
theorem dX12_rootNow_14 : decode cX12_rootNow 14 = .ok (.iconst 1, 1) := by decide +kernel
theorem dX12_rootNow_15 : decode cX12_rootNow 15 = .ok (.isub, 1) := by decide +kernel
theorem dX12_rootNow_16 : decode cX12_rootNow 16 = .ok (.iaload, 1) := by decide +kernel
theorem dX12_rootNow_17 : decode cX12_rootNow 17 = .ok (.ireturn, 1) := by decide +kernel
theorem dX12_makes_0 : decode cX12_makes 0 = .ok (.aload_n 0, 1) := by decide +kernel
theorem dX12_makes_1 : decode cX12_makes 1 = .ok (.getfield 77, 3) := by decide +kernel
theorem dX12_makes_4 : decode cX12_makes 4 = .ok (.iconst 3, 1) := by decide +kernel
theorem dX12_makes_5 : decode cX12_makes 5 = .ok (.iaload, 1) := by decide +kernel
theorem dX12_makes_6 : decode cX12_makes 6 = .ok (.istore_n 2, 1) := by decide +kernel
theorem dX12_makes_7 : decode cX12_makes 7 = .ok (.aload_n 0, 1) := by decide +kernel
theorem dX12_makes_8 : decode cX12_makes 8 = .ok (.getfield 77, 3) := by decide +kernel
theorem dX12_makes_11 : decode cX12_makes 11 = .ok (.sipush 1410, 3) := by decide +kernel
theorem dX12_makes_14 : decode cX12_makes 14 = .ok (.iconst 4, 1) := by decide +kernel
theorem dX12_makes_15 : decode cX12_makes 15 = .ok (.iload_n 2, 1) := by decide +kernel
theorem dX12_makes_16 : decode cX12_makes 16 = .ok (.imul, 1) := by decide +kernel
theorem dX12_makes_17 : decode cX12_makes 17 = .ok (.iadd, 1) := by decide +kernel
theorem dX12_makes_18 : decode cX12_makes 18 = .ok (.iload_n 1, 1) := by decide +kernel
theorem dX12_makes_19 : decode cX12_makes 19 = .ok (.iastore, 1) := by decide +kernel
theorem dX12_makes_20 : decode cX12_makes 20 = .ok (.aload_n 0, 1) := by decide +kernel
theorem dX12_makes_21 : decode cX12_makes 21 = .ok (.getfield 77, 3) := by decide +kernel
theorem dX12_makes_24 : decode cX12_makes 24 = .ok (.sipush 1410, 3) := by decide +kernel
theorem dX12_makes_27 : decode cX12_makes 27 = .ok (.iconst 4, 1) := by decide +kernel
theorem dX12_makes_28 : decode cX12_makes 28 = .ok (.iload_n 2, 1) := by decide +kernel
theorem dX12_makes_29 : decode cX12_makes 29 = .ok (.imul, 1) := by decide +kernel
theorem dX12_makes_30 : decode cX12_makes 30 = .ok (.iadd, 1) := by decide +kernel
theorem dX12_makes_31 : decode cX12_makes 31 = .ok (.iconst 1, 1) := by decide +kernel
theorem dX12_makes_32 : decode cX12_makes 32 = .ok (.iadd, 1) := by decide +kernel
theorem dX12_makes_33 : decode cX12_makes 33 = .ok (.iconst 0, 1) := by decide +kernel
theorem dX12_makes_34 : decode cX12_makes 34 = .ok (.iastore, 1) := by decide +kernel
theorem dX12_makes_35 : decode cX12_makes 35 = .ok (.aload_n 0, 1) := by decide +kernel
theorem dX12_makes_36 : decode cX12_makes 36 = .ok (.getfield 77, 3) := by decide +kernel
theorem dX12_makes_39 : decode cX12_makes 39 = .ok (.sipush 1410, 3) := by decide +kernel
theorem dX12_makes_42 : decode cX12_makes 42 = .ok (.iconst 4, 1) := by decide +kernel
theorem dX12_makes_43 : decode cX12_makes 43 = .ok (.iload_n 2, 1) := by decide +kernel
theorem dX12_makes_44 : decode cX12_makes 44 = .ok (.imul, 1) := by decide +kernel
theorem dX12_makes_45 : decode cX12_makes 45 = .ok (.iadd, 1) := by decide +kernel
theorem dX12_makes_46 : decode cX12_makes 46 = .ok (.iconst 2, 1) := by decide +kernel
theorem dX12_makes_47 : decode cX12_makes 47 = .ok (.iadd, 1) := by decide +kernel
theorem dX12_makes_48 : decode cX12_makes 48 = .ok (.aload_n 0, 1) := by decide +kernel
theorem dX12_makes_49 : decode cX12_makes 49 = .ok (.getfield 77, 3) := by decide +kernel
theorem dX12_makes_52 : decode cX12_makes 52 = .ok (.iconst 0, 1) := by decide +kernel
theorem dX12_makes_53 : decode cX12_makes 53 = .ok (.iaload, 1) := by decide +kernel
theorem dX12_makes_54 : decode cX12_makes 54 = .ok (.iastore, 1) := by decide +kernel
theorem dX12_makes_55 : decode cX12_makes 55 = .ok (.aload_n 0, 1) := by decide +kernel
theorem dX12_makes_56 : decode cX12_makes 56 = .ok (.getfield 77, 3) := by decide +kernel
theorem dX12_makes_59 : decode cX12_makes 59 = .ok (.sipush 1410, 3) := by decide +kernel
theorem dX12_makes_62 : decode cX12_makes 62 = .ok (.iconst 4, 1) := by decide +kernel
theorem dX12_makes_63 : decode cX12_makes 63 = .ok (.iload_n 2, 1) := by decide +kernel
theorem dX12_makes_64 : decode cX12_makes 64 = .ok (.imul, 1) := by decide +kernel
theorem dX12_makes_65 : decode cX12_makes 65 = .ok (.iadd, 1) := by decide +kernel
theorem dX12_makes_66 : decode cX12_makes 66 = .ok (.iconst 3, 1) := by decide +kernel
theorem dX12_makes_67 : decode cX12_makes 67 = .ok (.iadd, 1) := by decide +kernel
theorem dX12_makes_68 : decode cX12_makes 68 = .ok (.bipush (-2), 2) := by decide +kernel
theorem dX12_makes_70 : decode cX12_makes 70 = .ok (.iastore, 1) := by decide +kernel
theorem dX12_makes_71 : decode cX12_makes 71 = .ok (.aload_n 0, 1) := by decide +kernel
theorem dX12_makes_72 : decode cX12_makes 72 = .ok (.getfield 77, 3) := by decide +kernel
theorem dX12_makes_75 : decode cX12_makes 75 = .ok (.iconst 3, 1) := by decide +kernel
theorem dX12_makes_76 : decode cX12_makes 76 = .ok (.dup2, 1) := by decide +kernel
theorem dX12_makes_77 : decode cX12_makes 77 = .ok (.iaload, 1) := by decide +kernel
theorem dX12_makes_78 : decode cX12_makes 78 = .ok (.iconst 1, 1) := by decide +kernel
theorem dX12_makes_79 : decode cX12_makes 79 = .ok (.iadd, 1) := by decide +kernel
theorem dX12_makes_80 : decode cX12_makes 80 = .ok (.iastore, 1) := by decide +kernel
theorem dX12_makes_81 : decode cX12_makes 81 = .ok (.iload_n 2, 1) := by decide +kernel
theorem dX12_makes_82 : decode cX12_makes 82 = .ok (.ireturn, 1) := by decide +kernel
theorem dX12_isLeaf_0 : decode cX12_isLeaf 0 = .ok (.aload_n 0, 1) := by decide +kernel
theorem dX12_isLeaf_1 : decode cX12_isLeaf 1 = .ok (.getfield 77, 3) := by decide +kernel
theorem dX12_isLeaf_4 : decode cX12_isLeaf 4 = .ok (.sipush 1410, 3) := by decide +kernel
theorem dX12_isLeaf_7 : decode cX12_isLeaf 7 = .ok (.iconst 4, 1) := by decide +kernel
theorem dX12_isLeaf_8 : decode cX12_isLeaf 8 = .ok (.iload_n 1, 1) := by decide +kernel
theorem dX12_isLeaf_9 : decode cX12_isLeaf 9 = .ok (.imul, 1) := by decide +kernel
theorem dX12_isLeaf_10 : decode cX12_isLeaf 10 = .ok (.iadd, 1) := by decide +kernel
theorem dX12_isLeaf_11 : decode cX12_isLeaf 11 = .ok (.iaload, 1) := by decide +kernel
theorem dX12_isLeaf_12 : decode cX12_isLeaf 12 = .ok (.iconst 1, 1) := by decide +kernel
theorem dX12_isLeaf_13 : decode cX12_isLeaf 13 = .ok (.if_icmp .ne 7, 3) := by decide +kernel
theorem dX12_isLeaf_16 : decode cX12_isLeaf 16 = .ok (.iconst 1, 1) := by decide +kernel
theorem dX12_isLeaf_17 : decode cX12_isLeaf 17 = .ok (.goto 4, 3) := by decide +kernel
theorem dX12_isLeaf_20 : decode cX12_isLeaf 20 = .ok (.iconst 0, 1) := by decide +kernel
theorem dX12_isLeaf_21 : decode cX12_isLeaf 21 = .ok (.ireturn, 1) := by decide +kernel
theorem dX12_entriesOf_0 : decode cX12_entriesOf 0 = .ok (.aload_n 0, 1) := by decide +kernel
theorem dX12_entriesOf_1 : decode cX12_entriesOf 1 = .ok (.getfield 77, 3) := by decide +kernel
theorem dX12_entriesOf_4 : decode cX12_entriesOf 4 = .ok (.sipush 1410, 3) := by decide +kernel
theorem dX12_entriesOf_7 : decode cX12_entriesOf 7 = .ok (.iconst 4, 1) := by decide +kernel
theorem dX12_entriesOf_8 : decode cX12_entriesOf 8 = .ok (.iload_n 1, 1) := by decide +kernel
theorem dX12_entriesOf_9 : decode cX12_entriesOf 9 = .ok (.imul, 1) := by decide +kernel
theorem dX12_entriesOf_10 : decode cX12_entriesOf 10 = .ok (.iadd, 1) := by decide +kernel
theorem dX12_entriesOf_11 : decode cX12_entriesOf 11 = .ok (.iconst 1, 1) := by decide +kernel
theorem dX12_entriesOf_12 : decode cX12_entriesOf 12 = .ok (.iadd, 1) := by decide +kernel
theorem dX12_entriesOf_13 : decode cX12_entriesOf 13 = .ok (.iaload, 1) := by decide +kernel
theorem dX12_entriesOf_14 : decode cX12_entriesOf 14 = .ok (.ireturn, 1) := by decide +kernel
theorem dX12_entryAt_0 : decode cX12_entryAt 0 = .ok (.sipush 2700, 3) := by decide +kernel
theorem dX12_entryAt_3 : decode cX12_entryAt 3 = .ok (.bipush 48, 2) := by decide +kernel
theorem dX12_entryAt_5 : decode cX12_entryAt 5 = .ok (.iload_n 0, 1) := by decide +kernel
theorem dX12_entryAt_6 : decode cX12_entryAt 6 = .ok (.imul, 1) := by decide +kernel
theorem dX12_entryAt_7 : decode cX12_entryAt 7 = .ok (.iadd, 1) := by decide +kernel
theorem dX12_entryAt_8 : decode cX12_entryAt 8 = .ok (.iconst 4, 1) := by decide +kernel
theorem dX12_entryAt_9 : decode cX12_entryAt 9 = .ok (.iload_n 1, 1) := by decide +kernel
theorem dX12_entryAt_10 : decode cX12_entryAt 10 = .ok (.imul, 1) := by decide +kernel
theorem dX12_entryAt_11 : decode cX12_entryAt 11 = .ok (.iadd, 1) := by decide +kernel
theorem dX12_entryAt_12 : decode cX12_entryAt 12 = .ok (.ireturn, 1) := by decide +kernel
theorem dX12_comes_0 : decode cX12_comes 0 = .ok (.iload_n 1, 1) := by decide +kernel
theorem dX12_comes_1 : decode cX12_comes 1 = .ok (.aload_n 0, 1) := by decide +kernel
theorem dX12_comes_2 : decode cX12_comes 2 = .ok (.iload_n 1, 1) := by decide +kernel
theorem dX12_comes_3 : decode cX12_comes 3 = .ok (.invokevirtual 249, 3) := by decide +kernel
theorem dX12_comes_6 : decode cX12_comes 6 = .ok (.invokestatic 252, 3) := by decide +kernel
theorem dX12_comes_9 : decode cX12_comes 9 = .ok (.istore 5, 2) := by decide +kernel
theorem dX12_comes_11 : decode cX12_comes 11 = .ok (.aload_n 0, 1) := by decide +kernel
theorem dX12_comes_12 : decode cX12_comes 12 = .ok (.getfield 77, 3) := by decide +kernel
theorem dX12_comes_15 : decode cX12_comes 15 = .ok (.iload 5, 2) := by decide +kernel
theorem dX12_comes_17 : decode cX12_comes 17 = .ok (.iload_n 2, 1) := by decide +kernel
theorem dX12_comes_18 : decode cX12_comes 18 = .ok (.iastore, 1) := by decide +kernel
theorem dX12_comes_19 : decode cX12_comes 19 = .ok (.aload_n 0, 1) := by decide +kernel
theorem dX12_comes_20 : decode cX12_comes 20 = .ok (.getfield 77, 3) := by decide +kernel
theorem dX12_comes_23 : decode cX12_comes 23 = .ok (.iload 5, 2) := by decide +kernel
theorem dX12_comes_25 : decode cX12_comes 25 = .ok (.iconst 1, 1) := by decide +kernel
theorem dX12_comes_26 : decode cX12_comes 26 = .ok (.iadd, 1) := by decide +kernel
theorem dX12_comes_27 : decode cX12_comes 27 = .ok (.iload_n 3, 1) := by decide +kernel
theorem dX12_comes_28 : decode cX12_comes 28 = .ok (.iastore, 1) := by decide +kernel
theorem dX12_comes_29 : decode cX12_comes 29 = .ok (.aload_n 0, 1) := by decide +kernel
theorem dX12_comes_30 : decode cX12_comes 30 = .ok (.getfield 77, 3) := by decide +kernel
theorem dX12_comes_33 : decode cX12_comes 33 = .ok (.iload 5, 2) := by decide +kernel
theorem dX12_comes_35 : decode cX12_comes 35 = .ok (.iconst 2, 1) := by decide +kernel
theorem dX12_comes_36 : decode cX12_comes 36 = .ok (.iadd, 1) := by decide +kernel
theorem dX12_comes_37 : decode cX12_comes 37 = .ok (.bipush (-2), 2) := by decide +kernel
theorem dX12_comes_39 : decode cX12_comes 39 = .ok (.iastore, 1) := by decide +kernel
theorem dX12_comes_40 : decode cX12_comes 40 = .ok (.aload_n 0, 1) := by decide +kernel
theorem dX12_comes_41 : decode cX12_comes 41 = .ok (.getfield 77, 3) := by decide +kernel
theorem dX12_comes_44 : decode cX12_comes 44 = .ok (.iload 5, 2) := by decide +kernel
theorem dX12_comes_46 : decode cX12_comes 46 = .ok (.iconst 3, 1) := by decide +kernel
theorem dX12_comes_47 : decode cX12_comes 47 = .ok (.iadd, 1) := by decide +kernel
theorem dX12_comes_48 : decode cX12_comes 48 = .ok (.iload 4, 2) := by decide +kernel
theorem dX12_comes_50 : decode cX12_comes 50 = .ok (.iastore, 1) := by decide +kernel
theorem dX12_comes_51 : decode cX12_comes 51 = .ok (.aload_n 0, 1) := by decide +kernel
theorem dX12_comes_52 : decode cX12_comes 52 = .ok (.getfield 77, 3) := by decide +kernel
theorem dX12_comes_55 : decode cX12_comes 55 = .ok (.sipush 1410, 3) := by decide +kernel
theorem dX12_comes_58 : decode cX12_comes 58 = .ok (.iconst 4, 1) := by decide +kernel
theorem dX12_comes_59 : decode cX12_comes 59 = .ok (.iload_n 1, 1) := by decide +kernel
theorem dX12_comes_60 : decode cX12_comes 60 = .ok (.imul, 1) := by decide +kernel
theorem dX12_comes_61 : decode cX12_comes 61 = .ok (.iadd, 1) := by decide +kernel
theorem dX12_comes_62 : decode cX12_comes 62 = .ok (.iconst 1, 1) := by decide +kernel
theorem dX12_comes_63 : decode cX12_comes 63 = .ok (.iadd, 1) := by decide +kernel
theorem dX12_comes_64 : decode cX12_comes 64 = .ok (.dup2, 1) := by decide +kernel
theorem dX12_comes_65 : decode cX12_comes 65 = .ok (.iaload, 1) := by decide +kernel
theorem dX12_comes_66 : decode cX12_comes 66 = .ok (.iconst 1, 1) := by decide +kernel
theorem dX12_comes_67 : decode cX12_comes 67 = .ok (.iadd, 1) := by decide +kernel
theorem dX12_comes_68 : decode cX12_comes 68 = .ok (.iastore, 1) := by decide +kernel
theorem dX12_comes_69 : decode cX12_comes 69 = .ok (.return_, 1) := by decide +kernel
theorem dX12_isLiving_0 : decode cX12_isLiving 0 = .ok (.aload_n 0, 1) := by decide +kernel
theorem dX12_isLiving_1 : decode cX12_isLiving 1 = .ok (.getfield 77, 3) := by decide +kernel
theorem dX12_isLiving_4 : decode cX12_isLiving 4 = .ok (.iload_n 1, 1) := by decide +kernel
theorem dX12_isLiving_5 : decode cX12_isLiving 5 = .ok (.iconst 2, 1) := by decide +kernel
theorem dX12_isLiving_6 : decode cX12_isLiving 6 = .ok (.iadd, 1) := by decide +kernel
theorem dX12_isLiving_7 : decode cX12_isLiving 7 = .ok (.iaload, 1) := by decide +kernel
theorem dX12_isLiving_8 : decode cX12_isLiving 8 = .ok (.bipush (-2), 2) := by decide +kernel
theorem dX12_isLiving_10 : decode cX12_isLiving 10 = .ok (.if_icmp .ne 7, 3) := by decide +kernel
theorem dX12_isLiving_13 : decode cX12_isLiving 13 = .ok (.iconst 1, 1) := by decide +kernel
theorem dX12_isLiving_14 : decode cX12_isLiving 14 = .ok (.goto 4, 3) := by decide +kernel
theorem dX12_isLiving_17 : decode cX12_isLiving 17 = .ok (.iconst 0, 1) := by decide +kernel
theorem dX12_isLiving_18 : decode cX12_isLiving 18 = .ok (.ireturn, 1) := by decide +kernel
theorem dX12_livingIn_0 : decode cX12_livingIn 0 = .ok (.iconst 0, 1) := by decide +kernel
theorem dX12_livingIn_1 : decode cX12_livingIn 1 = .ok (.istore_n 2, 1) := by decide +kernel
theorem dX12_livingIn_2 : decode cX12_livingIn 2 = .ok (.iconst 0, 1) := by decide +kernel
theorem dX12_livingIn_3 : decode cX12_livingIn 3 = .ok (.istore_n 3, 1) := by decide +kernel
theorem dX12_livingIn_4 : decode cX12_livingIn 4 = .ok (.iload_n 3, 1) := by decide +kernel
theorem dX12_livingIn_5 : decode cX12_livingIn 5 = .ok (.aload_n 0, 1) := by decide +kernel
theorem dX12_livingIn_6 : decode cX12_livingIn 6 = .ok (.iload_n 1, 1) := by decide +kernel
theorem dX12_livingIn_7 : decode cX12_livingIn 7 = .ok (.invokevirtual 249, 3) := by decide +kernel
theorem dX12_livingIn_10 : decode cX12_livingIn 10 = .ok (.if_icmp .ge 24, 3) := by decide +kernel
theorem dX12_livingIn_13 : decode cX12_livingIn 13 = .ok (.aload_n 0, 1) := by decide +kernel
theorem dX12_livingIn_14 : decode cX12_livingIn 14 = .ok (.iload_n 1, 1) := by decide +kernel
theorem dX12_livingIn_15 : decode cX12_livingIn 15 = .ok (.iload_n 3, 1) := by decide +kernel
theorem dX12_livingIn_16 : decode cX12_livingIn 16 = .ok (.invokestatic 252, 3) := by decide +kernel
theorem dX12_livingIn_19 : decode cX12_livingIn 19 = .ok (.invokevirtual 255, 3) := by decide +kernel
theorem dX12_livingIn_22 : decode cX12_livingIn 22 = .ok (.ifCond .eq 6, 3) := by decide +kernel
theorem dX12_livingIn_25 : decode cX12_livingIn 25 = .ok (.iinc 2 1, 3) := by decide +kernel
theorem dX12_livingIn_28 : decode cX12_livingIn 28 = .ok (.iinc 3 1, 3) := by decide +kernel
theorem dX12_livingIn_31 : decode cX12_livingIn 31 = .ok (.goto (-27), 3) := by decide +kernel
theorem dX12_livingIn_34 : decode cX12_livingIn 34 = .ok (.iload_n 2, 1) := by decide +kernel
theorem dX12_livingIn_35 : decode cX12_livingIn 35 = .ok (.ireturn, 1) := by decide +kernel
theorem dX12_childOf_0 : decode cX12_childOf 0 = .ok (.iconst (-1), 1) := by decide +kernel
theorem dX12_childOf_1 : decode cX12_childOf 1 = .ok (.istore_n 3, 1) := by decide +kernel
theorem dX12_childOf_2 : decode cX12_childOf 2 = .ok (.iconst 0, 1) := by decide +kernel
theorem dX12_childOf_3 : decode cX12_childOf 3 = .ok (.istore 4, 2) := by decide +kernel
theorem dX12_childOf_5 : decode cX12_childOf 5 = .ok (.iload 4, 2) := by decide +kernel
theorem dX12_childOf_7 : decode cX12_childOf 7 = .ok (.aload_n 0, 1) := by decide +kernel
theorem dX12_childOf_8 : decode cX12_childOf 8 = .ok (.iload_n 1, 1) := by decide +kernel
theorem dX12_childOf_9 : decode cX12_childOf 9 = .ok (.invokevirtual 249, 3) := by decide +kernel
theorem dX12_childOf_12 : decode cX12_childOf 12 = .ok (.if_icmp .ge 60, 3) := by decide +kernel
theorem dX12_childOf_15 : decode cX12_childOf 15 = .ok (.iload_n 1, 1) := by decide +kernel
theorem dX12_childOf_16 : decode cX12_childOf 16 = .ok (.iload 4, 2) := by decide +kernel
theorem dX12_childOf_18 : decode cX12_childOf 18 = .ok (.invokestatic 252, 3) := by decide +kernel
theorem dX12_childOf_21 : decode cX12_childOf 21 = .ok (.istore 5, 2) := by decide +kernel
theorem dX12_childOf_23 : decode cX12_childOf 23 = .ok (.aload_n 0, 1) := by decide +kernel
theorem dX12_childOf_24 : decode cX12_childOf 24 = .ok (.iload 5, 2) := by decide +kernel
theorem dX12_childOf_26 : decode cX12_childOf 26 = .ok (.invokevirtual 255, 3) := by decide +kernel
theorem dX12_childOf_29 : decode cX12_childOf 29 = .ok (.ifCond .eq 37, 3) := by decide +kernel
theorem dX12_childOf_32 : decode cX12_childOf 32 = .ok (.aload_n 0, 1) := by decide +kernel
theorem dX12_childOf_33 : decode cX12_childOf 33 = .ok (.getfield 77, 3) := by decide +kernel
theorem dX12_childOf_36 : decode cX12_childOf 36 = .ok (.iload 5, 2) := by decide +kernel
theorem dX12_childOf_38 : decode cX12_childOf 38 = .ok (.iaload, 1) := by decide +kernel
theorem dX12_childOf_39 : decode cX12_childOf 39 = .ok (.iload_n 2, 1) := by decide +kernel
theorem dX12_childOf_40 : decode cX12_childOf 40 = .ok (.if_icmp .gt 26, 3) := by decide +kernel
theorem dX12_childOf_43 : decode cX12_childOf 43 = .ok (.iload_n 3, 1) := by decide +kernel
theorem dX12_childOf_44 : decode cX12_childOf 44 = .ok (.ifCond .lt 19, 3) := by decide +kernel
theorem dX12_childOf_47 : decode cX12_childOf 47 = .ok (.aload_n 0, 1) := by decide +kernel
theorem dX12_childOf_48 : decode cX12_childOf 48 = .ok (.getfield 77, 3) := by decide +kernel
theorem dX12_childOf_51 : decode cX12_childOf 51 = .ok (.iload 5, 2) := by decide +kernel
theorem dX12_childOf_53 : decode cX12_childOf 53 = .ok (.iaload, 1) := by decide +kernel
theorem dX12_childOf_54 : decode cX12_childOf 54 = .ok (.aload_n 0, 1) := by decide +kernel
theorem dX12_childOf_55 : decode cX12_childOf 55 = .ok (.getfield 77, 3) := by decide +kernel
theorem dX12_childOf_58 : decode cX12_childOf 58 = .ok (.iload_n 3, 1) := by decide +kernel
theorem dX12_childOf_59 : decode cX12_childOf 59 = .ok (.iaload, 1) := by decide +kernel
theorem dX12_childOf_60 : decode cX12_childOf 60 = .ok (.if_icmp .le 6, 3) := by decide +kernel
theorem dX12_childOf_63 : decode cX12_childOf 63 = .ok (.iload 5, 2) := by decide +kernel
theorem dX12_childOf_65 : decode cX12_childOf 65 = .ok (.istore_n 3, 1) := by decide +kernel
theorem dX12_childOf_66 : decode cX12_childOf 66 = .ok (.iinc 4 1, 3) := by decide +kernel
theorem dX12_childOf_69 : decode cX12_childOf 69 = .ok (.goto (-64), 3) := by decide +kernel
theorem dX12_childOf_72 : decode cX12_childOf 72 = .ok (.aload_n 0, 1) := by decide +kernel
theorem dX12_childOf_73 : decode cX12_childOf 73 = .ok (.getfield 77, 3) := by decide +kernel
theorem dX12_childOf_76 : decode cX12_childOf 76 = .ok (.iload_n 3, 1) := by decide +kernel
theorem dX12_childOf_77 : decode cX12_childOf 77 = .ok (.iconst 3, 1) := by decide +kernel
theorem dX12_childOf_78 : decode cX12_childOf 78 = .ok (.iadd, 1) := by decide +kernel
theorem dX12_childOf_79 : decode cX12_childOf 79 = .ok (.iaload, 1) := by decide +kernel
theorem dX12_childOf_80 : decode cX12_childOf 80 = .ok (.ireturn, 1) := by decide +kernel
theorem dX12_goesDown_0 : decode cX12_goesDown 0 = .ok (.aload_n 0, 1) := by decide +kernel
theorem dX12_goesDown_1 : decode cX12_goesDown 1 = .ok (.invokevirtual 258, 3) := by decide +kernel
theorem dX12_goesDown_4 : decode cX12_goesDown 4 = .ok (.istore_n 2, 1) := by decide +kernel
theorem dX12_goesDown_5 : decode cX12_goesDown 5 = .ok (.aload_n 0, 1) := by decide +kernel
theorem dX12_goesDown_6 : decode cX12_goesDown 6 = .ok (.getfield 80, 3) := by decide +kernel
theorem dX12_goesDown_9 : decode cX12_goesDown 9 = .ok (.iconst 0, 1) := by decide +kernel
theorem dX12_goesDown_10 : decode cX12_goesDown 10 = .ok (.iload_n 2, 1) := by decide +kernel
theorem dX12_goesDown_11 : decode cX12_goesDown 11 = .ok (.iastore, 1) := by decide +kernel
theorem dX12_goesDown_12 : decode cX12_goesDown 12 = .ok (.aload_n 0, 1) := by decide +kernel
theorem dX12_goesDown_13 : decode cX12_goesDown 13 = .ok (.iconst 1, 1) := by decide +kernel
theorem dX12_goesDown_14 : decode cX12_goesDown 14 = .ok (.putfield 262, 3) := by decide +kernel
theorem dX12_goesDown_17 : decode cX12_goesDown 17 = .ok (.aload_n 0, 1) := by decide +kernel
theorem dX12_goesDown_18 : decode cX12_goesDown 18 = .ok (.iload_n 2, 1) := by decide +kernel
theorem dX12_goesDown_19 : decode cX12_goesDown 19 = .ok (.invokevirtual 265, 3) := by decide +kernel
theorem dX12_goesDown_22 : decode cX12_goesDown 22 = .ok (.ifCond .ne 33, 3) := by decide +kernel
theorem dX12_goesDown_25 : decode cX12_goesDown 25 = .ok (.aload_n 0, 1) := by decide +kernel
theorem dX12_goesDown_26 : decode cX12_goesDown 26 = .ok (.iload_n 2, 1) := by decide +kernel
theorem dX12_goesDown_27 : decode cX12_goesDown 27 = .ok (.iload_n 1, 1) := by decide +kernel
theorem dX12_goesDown_28 : decode cX12_goesDown 28 = .ok (.invokevirtual 268, 3) := by decide +kernel
theorem dX12_goesDown_31 : decode cX12_goesDown 31 = .ok (.istore_n 2, 1) := by decide +kernel
theorem dX12_goesDown_32 : decode cX12_goesDown 32 = .ok (.aload_n 0, 1) := by decide +kernel
theorem dX12_goesDown_33 : decode cX12_goesDown 33 = .ok (.getfield 80, 3) := by decide +kernel
theorem dX12_goesDown_36 : decode cX12_goesDown 36 = .ok (.aload_n 0, 1) := by decide +kernel
theorem dX12_goesDown_37 : decode cX12_goesDown 37 = .ok (.getfield 262, 3) := by decide +kernel
theorem dX12_goesDown_40 : decode cX12_goesDown 40 = .ok (.iload_n 2, 1) := by decide +kernel
theorem dX12_goesDown_41 : decode cX12_goesDown 41 = .ok (.iastore, 1) := by decide +kernel
theorem dX12_goesDown_42 : decode cX12_goesDown 42 = .ok (.aload_n 0, 1) := by decide +kernel
theorem dX12_goesDown_43 : decode cX12_goesDown 43 = .ok (.dup, 1) := by decide +kernel
theorem dX12_goesDown_44 : decode cX12_goesDown 44 = .ok (.getfield 262, 3) := by decide +kernel
theorem dX12_goesDown_47 : decode cX12_goesDown 47 = .ok (.iconst 1, 1) := by decide +kernel
theorem dX12_goesDown_48 : decode cX12_goesDown 48 = .ok (.iadd, 1) := by decide +kernel
theorem dX12_goesDown_49 : decode cX12_goesDown 49 = .ok (.putfield 262, 3) := by decide +kernel
theorem dX12_goesDown_52 : decode cX12_goesDown 52 = .ok (.goto (-35), 3) := by decide +kernel
theorem dX12_goesDown_55 : decode cX12_goesDown 55 = .ok (.return_, 1) := by decide +kernel
theorem dX12_joins_0 : decode cX12_joins 0 = .ok (.aload_n 0, 1) := by decide +kernel
theorem dX12_joins_1 : decode cX12_joins 1 = .ok (.getfield 271, 3) := by decide +kernel
theorem dX12_joins_4 : decode cX12_joins 4 = .ok (.istore 4, 2) := by decide +kernel
theorem dX12_joins_6 : decode cX12_joins 6 = .ok (.iload 4, 2) := by decide +kernel
theorem dX12_joins_8 : decode cX12_joins 8 = .ok (.ifCond .le 70, 3) := by decide +kernel
theorem dX12_joins_11 : decode cX12_joins 11 = .ok (.aload_n 0, 1) := by decide +kernel
theorem dX12_joins_12 : decode cX12_joins 12 = .ok (.getfield 83, 3) := by decide +kernel
theorem dX12_joins_15 : decode cX12_joins 15 = .ok (.iload 4, 2) := by decide +kernel
theorem dX12_joins_17 : decode cX12_joins 17 = .ok (.iconst 1, 1) := by decide +kernel
theorem dX12_joins_18 : decode cX12_joins 18 = .ok (.isub, 1) := by decide +kernel
theorem dX12_joins_19 : decode cX12_joins 19 = .ok (.iaload, 1) := by decide +kernel
theorem dX12_joins_20 : decode cX12_joins 20 = .ok (.iload_n 1, 1) := by decide +kernel
theorem dX12_joins_21 : decode cX12_joins 21 = .ok (.if_icmp .le 57, 3) := by decide +kernel
theorem dX12_joins_24 : decode cX12_joins 24 = .ok (.aload_n 0, 1) := by decide +kernel
theorem dX12_joins_25 : decode cX12_joins 25 = .ok (.getfield 83, 3) := by decide +kernel
theorem dX12_joins_28 : decode cX12_joins 28 = .ok (.iload 4, 2) := by decide +kernel
theorem dX12_joins_30 : decode cX12_joins 30 = .ok (.aload_n 0, 1) := by decide +kernel
theorem dX12_joins_31 : decode cX12_joins 31 = .ok (.getfield 83, 3) := by decide +kernel
theorem dX12_joins_34 : decode cX12_joins 34 = .ok (.iload 4, 2) := by decide +kernel
theorem dX12_joins_36 : decode cX12_joins 36 = .ok (.iconst 1, 1) := by decide +kernel
theorem dX12_joins_37 : decode cX12_joins 37 = .ok (.isub, 1) := by decide +kernel
theorem dX12_joins_38 : decode cX12_joins 38 = .ok (.iaload, 1) := by decide +kernel
theorem dX12_joins_39 : decode cX12_joins 39 = .ok (.iastore, 1) := by decide +kernel
theorem dX12_joins_40 : decode cX12_joins 40 = .ok (.aload_n 0, 1) := by decide +kernel
theorem dX12_joins_41 : decode cX12_joins 41 = .ok (.getfield 86, 3) := by decide +kernel
theorem dX12_joins_44 : decode cX12_joins 44 = .ok (.iload 4, 2) := by decide +kernel
theorem dX12_joins_46 : decode cX12_joins 46 = .ok (.aload_n 0, 1) := by decide +kernel
theorem dX12_joins_47 : decode cX12_joins 47 = .ok (.getfield 86, 3) := by decide +kernel
theorem dX12_joins_50 : decode cX12_joins 50 = .ok (.iload 4, 2) := by decide +kernel
theorem dX12_joins_52 : decode cX12_joins 52 = .ok (.iconst 1, 1) := by decide +kernel
theorem dX12_joins_53 : decode cX12_joins 53 = .ok (.isub, 1) := by decide +kernel
theorem dX12_joins_54 : decode cX12_joins 54 = .ok (.iaload, 1) := by decide +kernel
theorem dX12_joins_55 : decode cX12_joins 55 = .ok (.iastore, 1) := by decide +kernel
theorem dX12_joins_56 : decode cX12_joins 56 = .ok (.aload_n 0, 1) := by decide +kernel
theorem dX12_joins_57 : decode cX12_joins 57 = .ok (.getfield 89, 3) := by decide +kernel
theorem dX12_joins_60 : decode cX12_joins 60 = .ok (.iload 4, 2) := by decide +kernel
theorem dX12_joins_62 : decode cX12_joins 62 = .ok (.aload_n 0, 1) := by decide +kernel
theorem dX12_joins_63 : decode cX12_joins 63 = .ok (.getfield 89, 3) := by decide +kernel
theorem dX12_joins_66 : decode cX12_joins 66 = .ok (.iload 4, 2) := by decide +kernel
theorem dX12_joins_68 : decode cX12_joins 68 = .ok (.iconst 1, 1) := by decide +kernel
theorem dX12_joins_69 : decode cX12_joins 69 = .ok (.isub, 1) := by decide +kernel
theorem dX12_joins_70 : decode cX12_joins 70 = .ok (.iaload, 1) := by decide +kernel
theorem dX12_joins_71 : decode cX12_joins 71 = .ok (.iastore, 1) := by decide +kernel
theorem dX12_joins_72 : decode cX12_joins 72 = .ok (.iinc 4 (-1), 3) := by decide +kernel
theorem dX12_joins_75 : decode cX12_joins 75 = .ok (.goto (-69), 3) := by decide +kernel
theorem dX12_joins_78 : decode cX12_joins 78 = .ok (.aload_n 0, 1) := by decide +kernel
theorem dX12_joins_79 : decode cX12_joins 79 = .ok (.getfield 83, 3) := by decide +kernel
theorem dX12_joins_82 : decode cX12_joins 82 = .ok (.iload 4, 2) := by decide +kernel
theorem dX12_joins_84 : decode cX12_joins 84 = .ok (.iload_n 1, 1) := by decide +kernel
theorem dX12_joins_85 : decode cX12_joins 85 = .ok (.iastore, 1) := by decide +kernel
theorem dX12_joins_86 : decode cX12_joins 86 = .ok (.aload_n 0, 1) := by decide +kernel
theorem dX12_joins_87 : decode cX12_joins 87 = .ok (.getfield 86, 3) := by decide +kernel
theorem dX12_joins_90 : decode cX12_joins 90 = .ok (.iload 4, 2) := by decide +kernel
theorem dX12_joins_92 : decode cX12_joins 92 = .ok (.iload_n 2, 1) := by decide +kernel
theorem dX12_joins_93 : decode cX12_joins 93 = .ok (.iastore, 1) := by decide +kernel
theorem dX12_joins_94 : decode cX12_joins 94 = .ok (.aload_n 0, 1) := by decide +kernel
theorem dX12_joins_95 : decode cX12_joins 95 = .ok (.getfield 89, 3) := by decide +kernel
theorem dX12_joins_98 : decode cX12_joins 98 = .ok (.iload 4, 2) := by decide +kernel
theorem dX12_joins_100 : decode cX12_joins 100 = .ok (.iload_n 3, 1) := by decide +kernel
theorem dX12_joins_101 : decode cX12_joins 101 = .ok (.iastore, 1) := by decide +kernel
theorem dX12_joins_102 : decode cX12_joins 102 = .ok (.aload_n 0, 1) := by decide +kernel
theorem dX12_joins_103 : decode cX12_joins 103 = .ok (.dup, 1) := by decide +kernel
theorem dX12_joins_104 : decode cX12_joins 104 = .ok (.getfield 271, 3) := by decide +kernel
theorem dX12_joins_107 : decode cX12_joins 107 = .ok (.iconst 1, 1) := by decide +kernel
theorem dX12_joins_108 : decode cX12_joins 108 = .ok (.iadd, 1) := by decide +kernel
theorem dX12_joins_109 : decode cX12_joins 109 = .ok (.putfield 271, 3) := by decide +kernel
theorem dX12_joins_112 : decode cX12_joins 112 = .ok (.return_, 1) := by decide +kernel
theorem dX12_joinsAll_0 : decode cX12_joinsAll 0 = .ok (.iconst 0, 1) := by decide +kernel
theorem dX12_joinsAll_1 : decode cX12_joinsAll 1 = .ok (.istore_n 2, 1) := by decide +kernel
theorem dX12_joinsAll_2 : decode cX12_joinsAll 2 = .ok (.iload_n 2, 1) := by decide +kernel
theorem dX12_joinsAll_3 : decode cX12_joinsAll 3 = .ok (.aload_n 0, 1) := by decide +kernel
theorem dX12_joinsAll_4 : decode cX12_joinsAll 4 = .ok (.iload_n 1, 1) := by decide +kernel
theorem dX12_joinsAll_5 : decode cX12_joinsAll 5 = .ok (.invokevirtual 249, 3) := by decide +kernel
theorem dX12_joinsAll_8 : decode cX12_joinsAll 8 = .ok (.if_icmp .ge 49, 3) := by decide +kernel
theorem dX12_joinsAll_11 : decode cX12_joinsAll 11 = .ok (.iload_n 1, 1) := by decide +kernel
theorem dX12_joinsAll_12 : decode cX12_joinsAll 12 = .ok (.iload_n 2, 1) := by decide +kernel
theorem dX12_joinsAll_13 : decode cX12_joinsAll 13 = .ok (.invokestatic 252, 3) := by decide +kernel
theorem dX12_joinsAll_16 : decode cX12_joinsAll 16 = .ok (.istore_n 3, 1) := by decide +kernel
theorem dX12_joinsAll_17 : decode cX12_joinsAll 17 = .ok (.aload_n 0, 1) := by decide +kernel
theorem dX12_joinsAll_18 : decode cX12_joinsAll 18 = .ok (.iload_n 3, 1) := by decide +kernel
theorem dX12_joinsAll_19 : decode cX12_joinsAll 19 = .ok (.invokevirtual 255, 3) := by decide +kernel
theorem dX12_joinsAll_22 : decode cX12_joinsAll 22 = .ok (.ifCond .eq 29, 3) := by decide +kernel
theorem dX12_joinsAll_25 : decode cX12_joinsAll 25 = .ok (.aload_n 0, 1) := by decide +kernel
theorem dX12_joinsAll_26 : decode cX12_joinsAll 26 = .ok (.aload_n 0, 1) := by decide +kernel
theorem dX12_joinsAll_27 : decode cX12_joinsAll 27 = .ok (.getfield 77, 3) := by decide +kernel
theorem dX12_joinsAll_30 : decode cX12_joinsAll 30 = .ok (.iload_n 3, 1) := by decide +kernel
theorem dX12_joinsAll_31 : decode cX12_joinsAll 31 = .ok (.iaload, 1) := by decide +kernel
theorem dX12_joinsAll_32 : decode cX12_joinsAll 32 = .ok (.aload_n 0, 1) := by decide +kernel
theorem dX12_joinsAll_33 : decode cX12_joinsAll 33 = .ok (.getfield 77, 3) := by decide +kernel
theorem dX12_joinsAll_36 : decode cX12_joinsAll 36 = .ok (.iload_n 3, 1) := by decide +kernel
theorem dX12_joinsAll_37 : decode cX12_joinsAll 37 = .ok (.iconst 1, 1) := by decide +kernel
theorem dX12_joinsAll_38 : decode cX12_joinsAll 38 = .ok (.iadd, 1) := by decide +kernel
theorem dX12_joinsAll_39 : decode cX12_joinsAll 39 = .ok (.iaload, 1) := by decide +kernel
theorem dX12_joinsAll_40 : decode cX12_joinsAll 40 = .ok (.aload_n 0, 1) := by decide +kernel
theorem dX12_joinsAll_41 : decode cX12_joinsAll 41 = .ok (.getfield 77, 3) := by decide +kernel
theorem dX12_joinsAll_44 : decode cX12_joinsAll 44 = .ok (.iload_n 3, 1) := by decide +kernel
theorem dX12_joinsAll_45 : decode cX12_joinsAll 45 = .ok (.iconst 3, 1) := by decide +kernel
theorem dX12_joinsAll_46 : decode cX12_joinsAll 46 = .ok (.iadd, 1) := by decide +kernel
theorem dX12_joinsAll_47 : decode cX12_joinsAll 47 = .ok (.iaload, 1) := by decide +kernel
theorem dX12_joinsAll_48 : decode cX12_joinsAll 48 = .ok (.invokevirtual 274, 3) := by decide +kernel
theorem dX12_joinsAll_51 : decode cX12_joinsAll 51 = .ok (.iinc 2 1, 3) := by decide +kernel
theorem dX12_joinsAll_54 : decode cX12_joinsAll 54 = .ok (.goto (-52), 3) := by decide +kernel
theorem dX12_joinsAll_57 : decode cX12_joinsAll 57 = .ok (.return_, 1) := by decide +kernel
theorem dX12_entryFor_0 : decode cX12_entryFor 0 = .ok (.iconst 0, 1) := by decide +kernel
theorem dX12_entryFor_1 : decode cX12_entryFor 1 = .ok (.istore_n 3, 1) := by decide +kernel
theorem dX12_entryFor_2 : decode cX12_entryFor 2 = .ok (.iload_n 3, 1) := by decide +kernel
theorem dX12_entryFor_3 : decode cX12_entryFor 3 = .ok (.aload_n 0, 1) := by decide +kernel
theorem dX12_entryFor_4 : decode cX12_entryFor 4 = .ok (.iload_n 1, 1) := by decide +kernel
theorem dX12_entryFor_5 : decode cX12_entryFor 5 = .ok (.invokevirtual 249, 3) := by decide +kernel
theorem dX12_entryFor_8 : decode cX12_entryFor 8 = .ok (.if_icmp .ge 43, 3) := by decide +kernel
theorem dX12_entryFor_11 : decode cX12_entryFor 11 = .ok (.aload_n 0, 1) := by decide +kernel
theorem dX12_entryFor_12 : decode cX12_entryFor 12 = .ok (.iload_n 1, 1) := by decide +kernel
theorem dX12_entryFor_13 : decode cX12_entryFor 13 = .ok (.iload_n 3, 1) := by decide +kernel
theorem dX12_entryFor_14 : decode cX12_entryFor 14 = .ok (.invokestatic 252, 3) := by decide +kernel
theorem dX12_entryFor_17 : decode cX12_entryFor 17 = .ok (.invokevirtual 255, 3) := by decide +kernel
theorem dX12_entryFor_20 : decode cX12_entryFor 20 = .ok (.ifCond .eq 25, 3) := by decide +kernel
theorem dX12_entryFor_23 : decode cX12_entryFor 23 = .ok (.aload_n 0, 1) := by decide +kernel
theorem dX12_entryFor_24 : decode cX12_entryFor 24 = .ok (.getfield 77, 3) := by decide +kernel
theorem dX12_entryFor_27 : decode cX12_entryFor 27 = .ok (.iload_n 1, 1) := by decide +kernel
theorem dX12_entryFor_28 : decode cX12_entryFor 28 = .ok (.iload_n 3, 1) := by decide +kernel
theorem dX12_entryFor_29 : decode cX12_entryFor 29 = .ok (.invokestatic 252, 3) := by decide +kernel
theorem dX12_entryFor_32 : decode cX12_entryFor 32 = .ok (.iconst 3, 1) := by decide +kernel
theorem dX12_entryFor_33 : decode cX12_entryFor 33 = .ok (.iadd, 1) := by decide +kernel
theorem dX12_entryFor_34 : decode cX12_entryFor 34 = .ok (.iaload, 1) := by decide +kernel
theorem dX12_entryFor_35 : decode cX12_entryFor 35 = .ok (.iload_n 2, 1) := by decide +kernel
theorem dX12_entryFor_36 : decode cX12_entryFor 36 = .ok (.if_icmp .ne 9, 3) := by decide +kernel
theorem dX12_entryFor_39 : decode cX12_entryFor 39 = .ok (.iload_n 1, 1) := by decide +kernel
theorem dX12_entryFor_40 : decode cX12_entryFor 40 = .ok (.iload_n 3, 1) := by decide +kernel
theorem dX12_entryFor_41 : decode cX12_entryFor 41 = .ok (.invokestatic 252, 3) := by decide +kernel
theorem dX12_entryFor_44 : decode cX12_entryFor 44 = .ok (.ireturn, 1) := by decide +kernel
theorem dX12_entryFor_45 : decode cX12_entryFor 45 = .ok (.iinc 3 1, 3) := by decide +kernel
theorem dX12_entryFor_48 : decode cX12_entryFor 48 = .ok (.goto (-46), 3) := by decide +kernel
theorem dX12_entryFor_51 : decode cX12_entryFor 51 = .ok (.iconst (-1), 1) := by decide +kernel
theorem dX12_entryFor_52 : decode cX12_entryFor 52 = .ok (.ireturn, 1) := by decide +kernel
theorem dX12_siblingOf_0 : decode cX12_siblingOf 0 = .ok (.aload_n 0, 1) := by decide +kernel
theorem dX12_siblingOf_1 : decode cX12_siblingOf 1 = .ok (.getfield 77, 3) := by decide +kernel
theorem dX12_siblingOf_4 : decode cX12_siblingOf 4 = .ok (.aload_n 0, 1) := by decide +kernel
theorem dX12_siblingOf_5 : decode cX12_siblingOf 5 = .ok (.iload_n 1, 1) := by decide +kernel
theorem dX12_siblingOf_6 : decode cX12_siblingOf 6 = .ok (.iload_n 2, 1) := by decide +kernel
theorem dX12_siblingOf_7 : decode cX12_siblingOf 7 = .ok (.invokevirtual 278, 3) := by decide +kernel
theorem dX12_siblingOf_10 : decode cX12_siblingOf 10 = .ok (.iaload, 1) := by decide +kernel
theorem dX12_siblingOf_11 : decode cX12_siblingOf 11 = .ok (.istore_n 3, 1) := by decide +kernel
theorem dX12_siblingOf_12 : decode cX12_siblingOf 12 = .ok (.iconst (-1), 1) := by decide +kernel
theorem dX12_siblingOf_13 : decode cX12_siblingOf 13 = .ok (.istore 4, 2) := by decide +kernel
theorem dX12_siblingOf_15 : decode cX12_siblingOf 15 = .ok (.iconst (-1), 1) := by decide +kernel
theorem dX12_siblingOf_16 : decode cX12_siblingOf 16 = .ok (.istore 5, 2) := by decide +kernel
theorem dX12_siblingOf_18 : decode cX12_siblingOf 18 = .ok (.iconst 0, 1) := by decide +kernel
theorem dX12_siblingOf_19 : decode cX12_siblingOf 19 = .ok (.istore 6, 2) := by decide +kernel
theorem dX12_siblingOf_21 : decode cX12_siblingOf 21 = .ok (.iload 6, 2) := by decide +kernel
theorem dX12_siblingOf_23 : decode cX12_siblingOf 23 = .ok (.aload_n 0, 1) := by decide +kernel
theorem dX12_siblingOf_24 : decode cX12_siblingOf 24 = .ok (.iload_n 1, 1) := by decide +kernel
theorem dX12_siblingOf_25 : decode cX12_siblingOf 25 = .ok (.invokevirtual 249, 3) := by decide +kernel
theorem dX12_siblingOf_28 : decode cX12_siblingOf 28 = .ok (.if_icmp .ge 103, 3) := by decide +kernel
theorem dX12_siblingOf_31 : decode cX12_siblingOf 31 = .ok (.iload_n 1, 1) := by decide +kernel
theorem dX12_siblingOf_32 : decode cX12_siblingOf 32 = .ok (.iload 6, 2) := by decide +kernel
theorem dX12_siblingOf_34 : decode cX12_siblingOf 34 = .ok (.invokestatic 252, 3) := by decide +kernel
theorem dX12_siblingOf_37 : decode cX12_siblingOf 37 = .ok (.istore 7, 2) := by decide +kernel
theorem dX12_siblingOf_39 : decode cX12_siblingOf 39 = .ok (.aload_n 0, 1) := by decide +kernel
theorem dX12_siblingOf_40 : decode cX12_siblingOf 40 = .ok (.iload 7, 2) := by decide +kernel
theorem dX12_siblingOf_42 : decode cX12_siblingOf 42 = .ok (.invokevirtual 255, 3) := by decide +kernel
theorem dX12_siblingOf_45 : decode cX12_siblingOf 45 = .ok (.ifCond .ne 6, 3) := by decide +kernel
theorem dX12_siblingOf_48 : decode cX12_siblingOf 48 = .ok (.goto 77, 3) := by decide +kernel
theorem dX12_siblingOf_51 : decode cX12_siblingOf 51 = .ok (.aload_n 0, 1) := by decide +kernel
theorem dX12_siblingOf_52 : decode cX12_siblingOf 52 = .ok (.getfield 77, 3) := by decide +kernel
theorem dX12_siblingOf_55 : decode cX12_siblingOf 55 = .ok (.iload 7, 2) := by decide +kernel
theorem dX12_siblingOf_57 : decode cX12_siblingOf 57 = .ok (.iaload, 1) := by decide +kernel
theorem dX12_siblingOf_58 : decode cX12_siblingOf 58 = .ok (.iload_n 3, 1) := by decide +kernel
theorem dX12_siblingOf_59 : decode cX12_siblingOf 59 = .ok (.if_icmp .le 29, 3) := by decide +kernel
theorem dX12_siblingOf_62 : decode cX12_siblingOf 62 = .ok (.iload 4, 2) := by decide +kernel
theorem dX12_siblingOf_64 : decode cX12_siblingOf 64 = .ok (.ifCond .lt 20, 3) := by decide +kernel
theorem dX12_siblingOf_67 : decode cX12_siblingOf 67 = .ok (.aload_n 0, 1) := by decide +kernel
theorem dX12_siblingOf_68 : decode cX12_siblingOf 68 = .ok (.getfield 77, 3) := by decide +kernel
theorem dX12_siblingOf_71 : decode cX12_siblingOf 71 = .ok (.iload 7, 2) := by decide +kernel
theorem dX12_siblingOf_73 : decode cX12_siblingOf 73 = .ok (.iaload, 1) := by decide +kernel
theorem dX12_siblingOf_74 : decode cX12_siblingOf 74 = .ok (.aload_n 0, 1) := by decide +kernel
theorem dX12_siblingOf_75 : decode cX12_siblingOf 75 = .ok (.getfield 77, 3) := by decide +kernel
theorem dX12_siblingOf_78 : decode cX12_siblingOf 78 = .ok (.iload 4, 2) := by decide +kernel
theorem dX12_siblingOf_80 : decode cX12_siblingOf 80 = .ok (.iaload, 1) := by decide +kernel
theorem dX12_siblingOf_81 : decode cX12_siblingOf 81 = .ok (.if_icmp .ge 7, 3) := by decide +kernel
theorem dX12_siblingOf_84 : decode cX12_siblingOf 84 = .ok (.iload 7, 2) := by decide +kernel
theorem dX12_siblingOf_86 : decode cX12_siblingOf 86 = .ok (.istore 4, 2) := by decide +kernel
theorem dX12_siblingOf_88 : decode cX12_siblingOf 88 = .ok (.aload_n 0, 1) := by decide +kernel
theorem dX12_siblingOf_89 : decode cX12_siblingOf 89 = .ok (.getfield 77, 3) := by decide +kernel
theorem dX12_siblingOf_92 : decode cX12_siblingOf 92 = .ok (.iload 7, 2) := by decide +kernel
theorem dX12_siblingOf_94 : decode cX12_siblingOf 94 = .ok (.iaload, 1) := by decide +kernel
theorem dX12_siblingOf_95 : decode cX12_siblingOf 95 = .ok (.iload_n 3, 1) := by decide +kernel
theorem dX12_siblingOf_96 : decode cX12_siblingOf 96 = .ok (.if_icmp .ge 29, 3) := by decide +kernel
theorem dX12_siblingOf_99 : decode cX12_siblingOf 99 = .ok (.iload 5, 2) := by decide +kernel
theorem dX12_siblingOf_101 : decode cX12_siblingOf 101 = .ok (.ifCond .lt 20, 3) := by decide +kernel
theorem dX12_siblingOf_104 : decode cX12_siblingOf 104 = .ok (.aload_n 0, 1) := by decide +kernel
theorem dX12_siblingOf_105 : decode cX12_siblingOf 105 = .ok (.getfield 77, 3) := by decide +kernel
theorem dX12_siblingOf_108 : decode cX12_siblingOf 108 = .ok (.iload 7, 2) := by decide +kernel
theorem dX12_siblingOf_110 : decode cX12_siblingOf 110 = .ok (.iaload, 1) := by decide +kernel
theorem dX12_siblingOf_111 : decode cX12_siblingOf 111 = .ok (.aload_n 0, 1) := by decide +kernel
theorem dX12_siblingOf_112 : decode cX12_siblingOf 112 = .ok (.getfield 77, 3) := by decide +kernel
theorem dX12_siblingOf_115 : decode cX12_siblingOf 115 = .ok (.iload 5, 2) := by decide +kernel
theorem dX12_siblingOf_117 : decode cX12_siblingOf 117 = .ok (.iaload, 1) := by decide +kernel
theorem dX12_siblingOf_118 : decode cX12_siblingOf 118 = .ok (.if_icmp .le 7, 3) := by decide +kernel
theorem dX12_siblingOf_121 : decode cX12_siblingOf 121 = .ok (.iload 7, 2) := by decide +kernel
theorem dX12_siblingOf_123 : decode cX12_siblingOf 123 = .ok (.istore 5, 2) := by decide +kernel
theorem dX12_siblingOf_125 : decode cX12_siblingOf 125 = .ok (.iinc 6 1, 3) := by decide +kernel
theorem dX12_siblingOf_128 : decode cX12_siblingOf 128 = .ok (.goto (-107), 3) := by decide +kernel
theorem dX12_siblingOf_131 : decode cX12_siblingOf 131 = .ok (.iload 4, 2) := by decide +kernel
theorem dX12_siblingOf_133 : decode cX12_siblingOf 133 = .ok (.ifCond .lt 15, 3) := by decide +kernel
theorem dX12_siblingOf_136 : decode cX12_siblingOf 136 = .ok (.aload_n 0, 1) := by decide +kernel
theorem dX12_siblingOf_137 : decode cX12_siblingOf 137 = .ok (.getfield 77, 3) := by decide +kernel
theorem dX12_siblingOf_140 : decode cX12_siblingOf 140 = .ok (.iload 4, 2) := by decide +kernel
theorem dX12_siblingOf_142 : decode cX12_siblingOf 142 = .ok (.iconst 3, 1) := by decide +kernel
theorem dX12_siblingOf_143 : decode cX12_siblingOf 143 = .ok (.iadd, 1) := by decide +kernel
theorem dX12_siblingOf_144 : decode cX12_siblingOf 144 = .ok (.iaload, 1) := by decide +kernel
theorem dX12_siblingOf_145 : decode cX12_siblingOf 145 = .ok (.goto 21, 3) := by decide +kernel
theorem dX12_siblingOf_148 : decode cX12_siblingOf 148 = .ok (.iload 5, 2) := by decide +kernel
theorem dX12_siblingOf_150 : decode cX12_siblingOf 150 = .ok (.ifCond .lt 15, 3) := by decide +kernel
theorem dX12_siblingOf_153 : decode cX12_siblingOf 153 = .ok (.aload_n 0, 1) := by decide +kernel
theorem dX12_siblingOf_154 : decode cX12_siblingOf 154 = .ok (.getfield 77, 3) := by decide +kernel
theorem dX12_siblingOf_157 : decode cX12_siblingOf 157 = .ok (.iload 5, 2) := by decide +kernel
theorem dX12_siblingOf_159 : decode cX12_siblingOf 159 = .ok (.iconst 3, 1) := by decide +kernel
theorem dX12_siblingOf_160 : decode cX12_siblingOf 160 = .ok (.iadd, 1) := by decide +kernel
theorem dX12_siblingOf_161 : decode cX12_siblingOf 161 = .ok (.iaload, 1) := by decide +kernel
theorem dX12_siblingOf_162 : decode cX12_siblingOf 162 = .ok (.goto 4, 3) := by decide +kernel
theorem dX12_siblingOf_165 : decode cX12_siblingOf 165 = .ok (.iconst (-1), 1) := by decide +kernel
theorem dX12_siblingOf_166 : decode cX12_siblingOf 166 = .ok (.ireturn, 1) := by decide +kernel
theorem dX12_newPage_0 : decode cX12_newPage 0 = .ok (.aload_n 0, 1) := by decide +kernel
theorem dX12_newPage_1 : decode cX12_newPage 1 = .ok (.iload_n 1, 1) := by decide +kernel
theorem dX12_newPage_2 : decode cX12_newPage 2 = .ok (.invokevirtual 243, 3) := by decide +kernel
theorem dX12_newPage_5 : decode cX12_newPage 5 = .ok (.istore 4, 2) := by decide +kernel
theorem dX12_newPage_7 : decode cX12_newPage 7 = .ok (.iload_n 2, 1) := by decide +kernel
theorem dX12_newPage_8 : decode cX12_newPage 8 = .ok (.istore 5, 2) := by decide +kernel
theorem dX12_newPage_10 : decode cX12_newPage 10 = .ok (.iload 5, 2) := by decide +kernel
theorem dX12_newPage_12 : decode cX12_newPage 12 = .ok (.iload_n 3, 1) := by decide +kernel
theorem dX12_newPage_13 : decode cX12_newPage 13 = .ok (.if_icmp .ge 36, 3) := by decide +kernel
theorem dX12_newPage_16 : decode cX12_newPage 16 = .ok (.aload_n 0, 1) := by decide +kernel
theorem dX12_newPage_17 : decode cX12_newPage 17 = .ok (.iload 4, 2) := by decide +kernel
theorem dX12_newPage_19 : decode cX12_newPage 19 = .ok (.aload_n 0, 1) := by decide +kernel
theorem dX12_newPage_20 : decode cX12_newPage 20 = .ok (.getfield 83, 3) := by decide +kernel
theorem dX12_newPage_23 : decode cX12_newPage 23 = .ok (.iload 5, 2) := by decide +kernel
theorem dX12_newPage_25 : decode cX12_newPage 25 = .ok (.iaload, 1) := by decide +kernel
theorem dX12_newPage_26 : decode cX12_newPage 26 = .ok (.aload_n 0, 1) := by decide +kernel
theorem dX12_newPage_27 : decode cX12_newPage 27 = .ok (.getfield 86, 3) := by decide +kernel
theorem dX12_newPage_30 : decode cX12_newPage 30 = .ok (.iload 5, 2) := by decide +kernel
theorem dX12_newPage_32 : decode cX12_newPage 32 = .ok (.iaload, 1) := by decide +kernel
theorem dX12_newPage_33 : decode cX12_newPage 33 = .ok (.aload_n 0, 1) := by decide +kernel
theorem dX12_newPage_34 : decode cX12_newPage 34 = .ok (.getfield 89, 3) := by decide +kernel
theorem dX12_newPage_37 : decode cX12_newPage 37 = .ok (.iload 5, 2) := by decide +kernel
theorem dX12_newPage_39 : decode cX12_newPage 39 = .ok (.iaload, 1) := by decide +kernel
theorem dX12_newPage_40 : decode cX12_newPage 40 = .ok (.invokevirtual 281, 3) := by decide +kernel
theorem dX12_newPage_43 : decode cX12_newPage 43 = .ok (.iinc 5 1, 3) := by decide +kernel
theorem dX12_newPage_46 : decode cX12_newPage 46 = .ok (.goto (-36), 3) := by decide +kernel
theorem dX12_newPage_49 : decode cX12_newPage 49 = .ok (.iload 4, 2) := by decide +kernel
theorem dX12_newPage_51 : decode cX12_newPage 51 = .ok (.ireturn, 1) := by decide +kernel
theorem dX12_ends_0 : decode cX12_ends 0 = .ok (.aload_n 0, 1) := by decide +kernel
theorem dX12_ends_1 : decode cX12_ends 1 = .ok (.getfield 77, 3) := by decide +kernel
theorem dX12_ends_4 : decode cX12_ends 4 = .ok (.sipush 1410, 3) := by decide +kernel
theorem dX12_ends_7 : decode cX12_ends 7 = .ok (.iconst 4, 1) := by decide +kernel
theorem dX12_ends_8 : decode cX12_ends 8 = .ok (.iload_n 1, 1) := by decide +kernel
theorem dX12_ends_9 : decode cX12_ends 9 = .ok (.imul, 1) := by decide +kernel
theorem dX12_ends_10 : decode cX12_ends 10 = .ok (.iadd, 1) := by decide +kernel
theorem dX12_ends_11 : decode cX12_ends 11 = .ok (.iconst 3, 1) := by decide +kernel
theorem dX12_ends_12 : decode cX12_ends 12 = .ok (.iadd, 1) := by decide +kernel
theorem dX12_ends_13 : decode cX12_ends 13 = .ok (.aload_n 0, 1) := by decide +kernel
theorem dX12_ends_14 : decode cX12_ends 14 = .ok (.getfield 77, 3) := by decide +kernel
theorem dX12_ends_17 : decode cX12_ends 17 = .ok (.iconst 0, 1) := by decide +kernel
theorem dX12_ends_18 : decode cX12_ends 18 = .ok (.iaload, 1) := by decide +kernel
theorem dX12_ends_19 : decode cX12_ends 19 = .ok (.iastore, 1) := by decide +kernel
theorem dX12_ends_20 : decode cX12_ends 20 = .ok (.return_, 1) := by decide +kernel
theorem dX12_endsAbove_0 : decode cX12_endsAbove 0 = .ok (.aload_n 0, 1) := by decide +kernel
theorem dX12_endsAbove_1 : decode cX12_endsAbove 1 = .ok (.iload_n 1, 1) := by decide +kernel
theorem dX12_endsAbove_2 : decode cX12_endsAbove 2 = .ok (.iload_n 2, 1) := by decide +kernel
theorem dX12_endsAbove_3 : decode cX12_endsAbove 3 = .ok (.invokevirtual 278, 3) := by decide +kernel
theorem dX12_endsAbove_6 : decode cX12_endsAbove 6 = .ok (.istore_n 3, 1) := by decide +kernel
theorem dX12_endsAbove_7 : decode cX12_endsAbove 7 = .ok (.aload_n 0, 1) := by decide +kernel
theorem dX12_endsAbove_8 : decode cX12_endsAbove 8 = .ok (.getfield 77, 3) := by decide +kernel
theorem dX12_endsAbove_11 : decode cX12_endsAbove 11 = .ok (.iload_n 3, 1) := by decide +kernel
theorem dX12_endsAbove_12 : decode cX12_endsAbove 12 = .ok (.iconst 2, 1) := by decide +kernel
theorem dX12_endsAbove_13 : decode cX12_endsAbove 13 = .ok (.iadd, 1) := by decide +kernel
theorem dX12_endsAbove_14 : decode cX12_endsAbove 14 = .ok (.aload_n 0, 1) := by decide +kernel
theorem dX12_endsAbove_15 : decode cX12_endsAbove 15 = .ok (.getfield 77, 3) := by decide +kernel
theorem dX12_endsAbove_18 : decode cX12_endsAbove 18 = .ok (.iconst 0, 1) := by decide +kernel
theorem dX12_endsAbove_19 : decode cX12_endsAbove 19 = .ok (.iaload, 1) := by decide +kernel
theorem dX12_endsAbove_20 : decode cX12_endsAbove 20 = .ok (.iastore, 1) := by decide +kernel
theorem dX12_endsAbove_21 : decode cX12_endsAbove 21 = .ok (.aload_n 0, 1) := by decide +kernel
theorem dX12_endsAbove_22 : decode cX12_endsAbove 22 = .ok (.getfield 77, 3) := by decide +kernel
theorem dX12_endsAbove_25 : decode cX12_endsAbove 25 = .ok (.iload_n 3, 1) := by decide +kernel
theorem dX12_endsAbove_26 : decode cX12_endsAbove 26 = .ok (.iaload, 1) := by decide +kernel
theorem dX12_endsAbove_27 : decode cX12_endsAbove 27 = .ok (.ireturn, 1) := by decide +kernel
theorem dX12_replaces_0 : decode cX12_replaces 0 = .ok (.iload_n 1, 1) := by decide +kernel
theorem dX12_replaces_1 : decode cX12_replaces 1 = .ok (.istore_n 2, 1) := by decide +kernel
theorem dX12_replaces_2 : decode cX12_replaces 2 = .ok (.iload_n 2, 1) := by decide +kernel
theorem dX12_replaces_3 : decode cX12_replaces 3 = .ok (.ifCond .lt 12, 3) := by decide +kernel
theorem dX12_replaces_6 : decode cX12_replaces 6 = .ok (.aload_n 0, 1) := by decide +kernel
theorem dX12_replaces_7 : decode cX12_replaces 7 = .ok (.iload_n 2, 1) := by decide +kernel
theorem dX12_replaces_8 : decode cX12_replaces 8 = .ok (.invokevirtual 285, 3) := by decide +kernel
theorem dX12_replaces_11 : decode cX12_replaces 11 = .ok (.istore_n 2, 1) := by decide +kernel
theorem dX12_replaces_12 : decode cX12_replaces 12 = .ok (.goto (-10), 3) := by decide +kernel
theorem dX12_replaces_15 : decode cX12_replaces 15 = .ok (.return_, 1) := by decide +kernel
theorem dX12_replacesOne_0 : decode cX12_replacesOne 0 = .ok (.aload_n 0, 1) := by decide +kernel
theorem dX12_replacesOne_1 : decode cX12_replacesOne 1 = .ok (.getfield 80, 3) := by decide +kernel
theorem dX12_replacesOne_4 : decode cX12_replacesOne 4 = .ok (.iload_n 1, 1) := by decide +kernel
theorem dX12_replacesOne_5 : decode cX12_replacesOne 5 = .ok (.iaload, 1) := by decide +kernel
theorem dX12_replacesOne_6 : decode cX12_replacesOne 6 = .ok (.istore_n 2, 1) := by decide +kernel
theorem dX12_replacesOne_7 : decode cX12_replacesOne 7 = .ok (.aload_n 0, 1) := by decide +kernel
theorem dX12_replacesOne_8 : decode cX12_replacesOne 8 = .ok (.getfield 77, 3) := by decide +kernel
theorem dX12_replacesOne_11 : decode cX12_replacesOne 11 = .ok (.sipush 1410, 3) := by decide +kernel
theorem dX12_replacesOne_14 : decode cX12_replacesOne 14 = .ok (.iconst 4, 1) := by decide +kernel
theorem dX12_replacesOne_15 : decode cX12_replacesOne 15 = .ok (.iload_n 2, 1) := by decide +kernel
theorem dX12_replacesOne_16 : decode cX12_replacesOne 16 = .ok (.imul, 1) := by decide +kernel
theorem dX12_replacesOne_17 : decode cX12_replacesOne 17 = .ok (.iadd, 1) := by decide +kernel
theorem dX12_replacesOne_18 : decode cX12_replacesOne 18 = .ok (.iaload, 1) := by decide +kernel
theorem dX12_replacesOne_19 : decode cX12_replacesOne 19 = .ok (.istore_n 3, 1) := by decide +kernel
theorem dX12_replacesOne_20 : decode cX12_replacesOne 20 = .ok (.aload_n 0, 1) := by decide +kernel
theorem dX12_replacesOne_21 : decode cX12_replacesOne 21 = .ok (.getfield 271, 3) := by decide +kernel
theorem dX12_replacesOne_24 : decode cX12_replacesOne 24 = .ok (.aload_n 0, 1) := by decide +kernel
theorem dX12_replacesOne_25 : decode cX12_replacesOne 25 = .ok (.invokevirtual 288, 3) := by decide +kernel
theorem dX12_replacesOne_28 : decode cX12_replacesOne 28 = .ok (.if_icmp .gt 23, 3) := by decide +kernel
theorem dX12_replacesOne_31 : decode cX12_replacesOne 31 = .ok (.iload_n 1, 1) := by decide +kernel
theorem dX12_replacesOne_32 : decode cX12_replacesOne 32 = .ok (.ifCond .le 19, 3) := by decide +kernel
theorem dX12_replacesOne_35 : decode cX12_replacesOne 35 = .ok (.aload_n 0, 1) := by decide +kernel
theorem dX12_replacesOne_36 : decode cX12_replacesOne 36 = .ok (.aload_n 0, 1) := by decide +kernel
theorem dX12_replacesOne_37 : decode cX12_replacesOne 37 = .ok (.getfield 80, 3) := by decide +kernel
theorem dX12_replacesOne_40 : decode cX12_replacesOne 40 = .ok (.iload_n 1, 1) := by decide +kernel
theorem dX12_replacesOne_41 : decode cX12_replacesOne 41 = .ok (.iconst 1, 1) := by decide +kernel
theorem dX12_replacesOne_42 : decode cX12_replacesOne 42 = .ok (.isub, 1) := by decide +kernel
theorem dX12_replacesOne_43 : decode cX12_replacesOne 43 = .ok (.iaload, 1) := by decide +kernel
theorem dX12_replacesOne_44 : decode cX12_replacesOne 44 = .ok (.iload_n 2, 1) := by decide +kernel
theorem dX12_replacesOne_45 : decode cX12_replacesOne 45 = .ok (.invokevirtual 291, 3) := by decide +kernel
theorem dX12_replacesOne_48 : decode cX12_replacesOne 48 = .ok (.goto 4, 3) := by decide +kernel
theorem dX12_replacesOne_51 : decode cX12_replacesOne 51 = .ok (.iconst (-1), 1) := by decide +kernel
theorem dX12_replacesOne_52 : decode cX12_replacesOne 52 = .ok (.istore 4, 2) := by decide +kernel
theorem dX12_replacesOne_54 : decode cX12_replacesOne 54 = .ok (.iload 4, 2) := by decide +kernel
theorem dX12_replacesOne_56 : decode cX12_replacesOne 56 = .ok (.ifCond .lt 15, 3) := by decide +kernel
theorem dX12_replacesOne_59 : decode cX12_replacesOne 59 = .ok (.aload_n 0, 1) := by decide +kernel
theorem dX12_replacesOne_60 : decode cX12_replacesOne 60 = .ok (.iload 4, 2) := by decide +kernel
theorem dX12_replacesOne_62 : decode cX12_replacesOne 62 = .ok (.invokevirtual 294, 3) := by decide +kernel
theorem dX12_replacesOne_65 : decode cX12_replacesOne 65 = .ok (.aload_n 0, 1) := by decide +kernel
theorem dX12_replacesOne_66 : decode cX12_replacesOne 66 = .ok (.iload 4, 2) := by decide +kernel
theorem dX12_replacesOne_68 : decode cX12_replacesOne 68 = .ok (.invokevirtual 297, 3) := by decide +kernel
theorem dX12_replacesOne_71 : decode cX12_replacesOne 71 = .ok (.aload_n 0, 1) := by decide +kernel
theorem dX12_replacesOne_72 : decode cX12_replacesOne 72 = .ok (.iload_n 2, 1) := by decide +kernel
theorem dX12_replacesOne_73 : decode cX12_replacesOne 73 = .ok (.invokevirtual 297, 3) := by decide +kernel
theorem dX12_replacesOne_76 : decode cX12_replacesOne 76 = .ok (.aload_n 0, 1) := by decide +kernel
theorem dX12_replacesOne_77 : decode cX12_replacesOne 77 = .ok (.getfield 271, 3) := by decide +kernel
theorem dX12_replacesOne_80 : decode cX12_replacesOne 80 = .ok (.aload_n 0, 1) := by decide +kernel
theorem dX12_replacesOne_81 : decode cX12_replacesOne 81 = .ok (.getfield 77, 3) := by decide +kernel
theorem dX12_replacesOne_84 : decode cX12_replacesOne 84 = .ok (.iconst 1, 1) := by decide +kernel
theorem dX12_replacesOne_85 : decode cX12_replacesOne 85 = .ok (.iaload, 1) := by decide +kernel
theorem dX12_replacesOne_86 : decode cX12_replacesOne 86 = .ok (.iconst 2, 1) := by decide +kernel
theorem dX12_replacesOne_87 : decode cX12_replacesOne 87 = .ok (.isub, 1) := by decide +kernel
theorem dX12_replacesOne_88 : decode cX12_replacesOne 88 = .ok (.if_icmp .le 7, 3) := by decide +kernel
theorem dX12_replacesOne_91 : decode cX12_replacesOne 91 = .ok (.iconst 1, 1) := by decide +kernel
theorem dX12_replacesOne_92 : decode cX12_replacesOne 92 = .ok (.goto 4, 3) := by decide +kernel
theorem dX12_replacesOne_95 : decode cX12_replacesOne 95 = .ok (.iconst 0, 1) := by decide +kernel
theorem dX12_replacesOne_96 : decode cX12_replacesOne 96 = .ok (.istore 5, 2) := by decide +kernel
theorem dX12_replacesOne_98 : decode cX12_replacesOne 98 = .ok (.iload 5, 2) := by decide +kernel
theorem dX12_replacesOne_100 : decode cX12_replacesOne 100 = .ok (.ifCond .eq 12, 3) := by decide +kernel
theorem dX12_replacesOne_103 : decode cX12_replacesOne 103 = .ok (.aload_n 0, 1) := by decide +kernel
theorem dX12_replacesOne_104 : decode cX12_replacesOne 104 = .ok (.getfield 271, 3) := by decide +kernel
theorem dX12_replacesOne_107 : decode cX12_replacesOne 107 = .ok (.iconst 2, 1) := by decide +kernel
theorem dX12_replacesOne_108 : decode cX12_replacesOne 108 = .ok (.idiv, 1) := by decide +kernel
theorem dX12_replacesOne_109 : decode cX12_replacesOne 109 = .ok (.goto 7, 3) := by decide +kernel
theorem dX12_replacesOne_112 : decode cX12_replacesOne 112 = .ok (.aload_n 0, 1) := by decide +kernel
theorem dX12_replacesOne_113 : decode cX12_replacesOne 113 = .ok (.getfield 271, 3) := by decide +kernel
theorem dX12_replacesOne_116 : decode cX12_replacesOne 116 = .ok (.istore 6, 2) := by decide +kernel
theorem dX12_replacesOne_118 : decode cX12_replacesOne 118 = .ok (.aload_n 0, 1) := by decide +kernel
theorem dX12_replacesOne_119 : decode cX12_replacesOne 119 = .ok (.iload_n 3, 1) := by decide +kernel
theorem dX12_replacesOne_120 : decode cX12_replacesOne 120 = .ok (.iconst 0, 1) := by decide +kernel
theorem dX12_replacesOne_121 : decode cX12_replacesOne 121 = .ok (.iload 6, 2) := by decide +kernel
theorem dX12_replacesOne_123 : decode cX12_replacesOne 123 = .ok (.invokevirtual 300, 3) := by decide +kernel
theorem dX12_replacesOne_126 : decode cX12_replacesOne 126 = .ok (.istore 7, 2) := by decide +kernel
theorem dX12_replacesOne_128 : decode cX12_replacesOne 128 = .ok (.iload 5, 2) := by decide +kernel
theorem dX12_replacesOne_130 : decode cX12_replacesOne 130 = .ok (.ifCond .eq 17, 3) := by decide +kernel
theorem dX12_replacesOne_133 : decode cX12_replacesOne 133 = .ok (.aload_n 0, 1) := by decide +kernel
theorem dX12_replacesOne_134 : decode cX12_replacesOne 134 = .ok (.iload_n 3, 1) := by decide +kernel
theorem dX12_replacesOne_135 : decode cX12_replacesOne 135 = .ok (.iload 6, 2) := by decide +kernel
theorem dX12_replacesOne_137 : decode cX12_replacesOne 137 = .ok (.aload_n 0, 1) := by decide +kernel
theorem dX12_replacesOne_138 : decode cX12_replacesOne 138 = .ok (.getfield 271, 3) := by decide +kernel
theorem dX12_replacesOne_141 : decode cX12_replacesOne 141 = .ok (.invokevirtual 300, 3) := by decide +kernel
theorem dX12_replacesOne_144 : decode cX12_replacesOne 144 = .ok (.goto 4, 3) := by decide +kernel
theorem dX12_replacesOne_147 : decode cX12_replacesOne 147 = .ok (.iconst (-1), 1) := by decide +kernel
theorem dX12_replacesOne_148 : decode cX12_replacesOne 148 = .ok (.istore 8, 2) := by decide +kernel
theorem dX12_replacesOne_150 : decode cX12_replacesOne 150 = .ok (.iload 5, 2) := by decide +kernel
theorem dX12_replacesOne_152 : decode cX12_replacesOne 152 = .ok (.ifCond .eq 13, 3) := by decide +kernel
theorem dX12_replacesOne_155 : decode cX12_replacesOne 155 = .ok (.aload_n 0, 1) := by decide +kernel
theorem dX12_replacesOne_156 : decode cX12_replacesOne 156 = .ok (.getfield 83, 3) := by decide +kernel
theorem dX12_replacesOne_159 : decode cX12_replacesOne 159 = .ok (.iload 6, 2) := by decide +kernel
theorem dX12_replacesOne_161 : decode cX12_replacesOne 161 = .ok (.iaload, 1) := by decide +kernel
theorem dX12_replacesOne_162 : decode cX12_replacesOne 162 = .ok (.goto 4, 3) := by decide +kernel
theorem dX12_replacesOne_165 : decode cX12_replacesOne 165 = .ok (.iconst 0, 1) := by decide +kernel
theorem dX12_replacesOne_166 : decode cX12_replacesOne 166 = .ok (.istore 9, 2) := by decide +kernel
theorem dX12_replacesOne_168 : decode cX12_replacesOne 168 = .ok (.iload_n 1, 1) := by decide +kernel
theorem dX12_replacesOne_169 : decode cX12_replacesOne 169 = .ok (.ifCond .ne 63, 3) := by decide +kernel
theorem dX12_replacesOne_172 : decode cX12_replacesOne 172 = .ok (.aload_n 0, 1) := by decide +kernel
theorem dX12_replacesOne_173 : decode cX12_replacesOne 173 = .ok (.iconst 0, 1) := by decide +kernel
theorem dX12_replacesOne_174 : decode cX12_replacesOne 174 = .ok (.putfield 271, 3) := by decide +kernel
theorem dX12_replacesOne_177 : decode cX12_replacesOne 177 = .ok (.aload_n 0, 1) := by decide +kernel
theorem dX12_replacesOne_178 : decode cX12_replacesOne 178 = .ok (.iconst 0, 1) := by decide +kernel
theorem dX12_replacesOne_179 : decode cX12_replacesOne 179 = .ok (.aload_n 0, 1) := by decide +kernel
theorem dX12_replacesOne_180 : decode cX12_replacesOne 180 = .ok (.getfield 77, 3) := by decide +kernel
theorem dX12_replacesOne_183 : decode cX12_replacesOne 183 = .ok (.iconst 0, 1) := by decide +kernel
theorem dX12_replacesOne_184 : decode cX12_replacesOne 184 = .ok (.iaload, 1) := by decide +kernel
theorem dX12_replacesOne_185 : decode cX12_replacesOne 185 = .ok (.iload 7, 2) := by decide +kernel
theorem dX12_replacesOne_187 : decode cX12_replacesOne 187 = .ok (.invokevirtual 274, 3) := by decide +kernel
theorem dX12_replacesOne_190 : decode cX12_replacesOne 190 = .ok (.iload 5, 2) := by decide +kernel
theorem dX12_replacesOne_192 : decode cX12_replacesOne 192 = .ok (.ifCond .eq 17, 3) := by decide +kernel
theorem dX12_replacesOne_195 : decode cX12_replacesOne 195 = .ok (.aload_n 0, 1) := by decide +kernel
theorem dX12_replacesOne_196 : decode cX12_replacesOne 196 = .ok (.iload 9, 2) := by decide +kernel
theorem dX12_replacesOne_198 : decode cX12_replacesOne 198 = .ok (.aload_n 0, 1) := by decide +kernel
theorem dX12_replacesOne_199 : decode cX12_replacesOne 199 = .ok (.getfield 77, 3) := by decide +kernel
theorem dX12_replacesOne_202 : decode cX12_replacesOne 202 = .ok (.iconst 0, 1) := by decide +kernel
theorem dX12_replacesOne_203 : decode cX12_replacesOne 203 = .ok (.iaload, 1) := by decide +kernel
theorem dX12_replacesOne_204 : decode cX12_replacesOne 204 = .ok (.iload 8, 2) := by decide +kernel
theorem dX12_replacesOne_206 : decode cX12_replacesOne 206 = .ok (.invokevirtual 274, 3) := by decide +kernel
theorem dX12_replacesOne_209 : decode cX12_replacesOne 209 = .ok (.aload_n 0, 1) := by decide +kernel
theorem dX12_replacesOne_210 : decode cX12_replacesOne 210 = .ok (.iload 5, 2) := by decide +kernel
theorem dX12_replacesOne_212 : decode cX12_replacesOne 212 = .ok (.ifCond .eq 13, 3) := by decide +kernel
theorem dX12_replacesOne_215 : decode cX12_replacesOne 215 = .ok (.aload_n 0, 1) := by decide +kernel
theorem dX12_replacesOne_216 : decode cX12_replacesOne 216 = .ok (.iconst 0, 1) := by decide +kernel
theorem dX12_replacesOne_217 : decode cX12_replacesOne 217 = .ok (.iconst 0, 1) := by decide +kernel
theorem dX12_replacesOne_218 : decode cX12_replacesOne 218 = .ok (.iconst 2, 1) := by decide +kernel
theorem dX12_replacesOne_219 : decode cX12_replacesOne 219 = .ok (.invokevirtual 300, 3) := by decide +kernel
theorem dX12_replacesOne_222 : decode cX12_replacesOne 222 = .ok (.goto 5, 3) := by decide +kernel
theorem dX12_replacesOne_225 : decode cX12_replacesOne 225 = .ok (.iload 7, 2) := by decide +kernel
theorem dX12_replacesOne_227 : decode cX12_replacesOne 227 = .ok (.invokevirtual 246, 3) := by decide +kernel
theorem dX12_replacesOne_230 : decode cX12_replacesOne 230 = .ok (.iconst (-1), 1) := by decide +kernel
theorem dX12_replacesOne_231 : decode cX12_replacesOne 231 = .ok (.ireturn, 1) := by decide +kernel
theorem dX12_replacesOne_232 : decode cX12_replacesOne 232 = .ok (.aload_n 0, 1) := by decide +kernel
theorem dX12_replacesOne_233 : decode cX12_replacesOne 233 = .ok (.getfield 80, 3) := by decide +kernel
theorem dX12_replacesOne_236 : decode cX12_replacesOne 236 = .ok (.iload_n 1, 1) := by decide +kernel
theorem dX12_replacesOne_237 : decode cX12_replacesOne 237 = .ok (.iconst 1, 1) := by decide +kernel
theorem dX12_replacesOne_238 : decode cX12_replacesOne 238 = .ok (.isub, 1) := by decide +kernel
theorem dX12_replacesOne_239 : decode cX12_replacesOne 239 = .ok (.iaload, 1) := by decide +kernel
theorem dX12_replacesOne_240 : decode cX12_replacesOne 240 = .ok (.istore 10, 2) := by decide +kernel
theorem dX12_replacesOne_242 : decode cX12_replacesOne 242 = .ok (.aload_n 0, 1) := by decide +kernel
theorem dX12_replacesOne_243 : decode cX12_replacesOne 243 = .ok (.iload 10, 2) := by decide +kernel
theorem dX12_replacesOne_245 : decode cX12_replacesOne 245 = .ok (.iload_n 2, 1) := by decide +kernel
theorem dX12_replacesOne_246 : decode cX12_replacesOne 246 = .ok (.invokevirtual 303, 3) := by decide +kernel
theorem dX12_replacesOne_249 : decode cX12_replacesOne 249 = .ok (.istore 11, 2) := by decide +kernel
theorem dX12_replacesOne_251 : decode cX12_replacesOne 251 = .ok (.iload 4, 2) := by decide +kernel
theorem dX12_replacesOne_253 : decode cX12_replacesOne 253 = .ok (.ifCond .lt 24, 3) := by decide +kernel
theorem dX12_replacesOne_256 : decode cX12_replacesOne 256 = .ok (.aload_n 0, 1) := by decide +kernel
theorem dX12_replacesOne_257 : decode cX12_replacesOne 257 = .ok (.iload 10, 2) := by decide +kernel
theorem dX12_replacesOne_259 : decode cX12_replacesOne 259 = .ok (.iload 4, 2) := by decide +kernel
theorem dX12_replacesOne_261 : decode cX12_replacesOne 261 = .ok (.invokevirtual 303, 3) := by decide +kernel
theorem dX12_replacesOne_264 : decode cX12_replacesOne 264 = .ok (.istore 12, 2) := by decide +kernel
theorem dX12_replacesOne_266 : decode cX12_replacesOne 266 = .ok (.iload 12, 2) := by decide +kernel
theorem dX12_replacesOne_268 : decode cX12_replacesOne 268 = .ok (.iload 11, 2) := by decide +kernel
theorem dX12_replacesOne_270 : decode cX12_replacesOne 270 = .ok (.if_icmp .ge 7, 3) := by decide +kernel
theorem dX12_replacesOne_273 : decode cX12_replacesOne 273 = .ok (.iload 12, 2) := by decide +kernel
theorem dX12_replacesOne_275 : decode cX12_replacesOne 275 = .ok (.istore 11, 2) := by decide +kernel
theorem dX12_replacesOne_277 : decode cX12_replacesOne 277 = .ok (.aload_n 0, 1) := by decide +kernel
theorem dX12_replacesOne_278 : decode cX12_replacesOne 278 = .ok (.iconst 0, 1) := by decide +kernel
theorem dX12_replacesOne_279 : decode cX12_replacesOne 279 = .ok (.putfield 271, 3) := by decide +kernel
theorem dX12_replacesOne_282 : decode cX12_replacesOne 282 = .ok (.aload_n 0, 1) := by decide +kernel
theorem dX12_replacesOne_283 : decode cX12_replacesOne 283 = .ok (.iload 10, 2) := by decide +kernel
theorem dX12_replacesOne_285 : decode cX12_replacesOne 285 = .ok (.invokevirtual 249, 3) := by decide +kernel
theorem dX12_replacesOne_288 : decode cX12_replacesOne 288 = .ok (.iload 5, 2) := by decide +kernel
theorem dX12_replacesOne_290 : decode cX12_replacesOne 290 = .ok (.ifCond .eq 7, 3) := by decide +kernel
theorem dX12_replacesOne_293 : decode cX12_replacesOne 293 = .ok (.iconst 2, 1) := by decide +kernel
theorem dX12_replacesOne_294 : decode cX12_replacesOne 294 = .ok (.goto 4, 3) := by decide +kernel
theorem dX12_replacesOne_297 : decode cX12_replacesOne 297 = .ok (.iconst 1, 1) := by decide +kernel
theorem dX12_replacesOne_298 : decode cX12_replacesOne 298 = .ok (.iadd, 1) := by decide +kernel
theorem dX12_replacesOne_299 : decode cX12_replacesOne 299 = .ok (.aload_n 0, 1) := by decide +kernel
theorem dX12_replacesOne_300 : decode cX12_replacesOne 300 = .ok (.getfield 77, 3) := by decide +kernel
theorem dX12_replacesOne_303 : decode cX12_replacesOne 303 = .ok (.iconst 1, 1) := by decide +kernel
theorem dX12_replacesOne_304 : decode cX12_replacesOne 304 = .ok (.iaload, 1) := by decide +kernel
theorem dX12_replacesOne_305 : decode cX12_replacesOne 305 = .ok (.if_icmp .le 46, 3) := by decide +kernel
theorem dX12_replacesOne_308 : decode cX12_replacesOne 308 = .ok (.aload_n 0, 1) := by decide +kernel
theorem dX12_replacesOne_309 : decode cX12_replacesOne 309 = .ok (.iload 10, 2) := by decide +kernel
theorem dX12_replacesOne_311 : decode cX12_replacesOne 311 = .ok (.invokevirtual 294, 3) := by decide +kernel
theorem dX12_replacesOne_314 : decode cX12_replacesOne 314 = .ok (.aload_n 0, 1) := by decide +kernel
theorem dX12_replacesOne_315 : decode cX12_replacesOne 315 = .ok (.iload 11, 2) := by decide +kernel
theorem dX12_replacesOne_317 : decode cX12_replacesOne 317 = .ok (.aload_n 0, 1) := by decide +kernel
theorem dX12_replacesOne_318 : decode cX12_replacesOne 318 = .ok (.getfield 77, 3) := by decide +kernel
theorem dX12_replacesOne_321 : decode cX12_replacesOne 321 = .ok (.iconst 0, 1) := by decide +kernel
theorem dX12_replacesOne_322 : decode cX12_replacesOne 322 = .ok (.iaload, 1) := by decide +kernel
theorem dX12_replacesOne_323 : decode cX12_replacesOne 323 = .ok (.iload 7, 2) := by decide +kernel
theorem dX12_replacesOne_325 : decode cX12_replacesOne 325 = .ok (.invokevirtual 274, 3) := by decide +kernel
theorem dX12_replacesOne_328 : decode cX12_replacesOne 328 = .ok (.iload 5, 2) := by decide +kernel
theorem dX12_replacesOne_330 : decode cX12_replacesOne 330 = .ok (.ifCond .eq 17, 3) := by decide +kernel
theorem dX12_replacesOne_333 : decode cX12_replacesOne 333 = .ok (.aload_n 0, 1) := by decide +kernel
theorem dX12_replacesOne_334 : decode cX12_replacesOne 334 = .ok (.iload 9, 2) := by decide +kernel
theorem dX12_replacesOne_336 : decode cX12_replacesOne 336 = .ok (.aload_n 0, 1) := by decide +kernel
theorem dX12_replacesOne_337 : decode cX12_replacesOne 337 = .ok (.getfield 77, 3) := by decide +kernel
theorem dX12_replacesOne_340 : decode cX12_replacesOne 340 = .ok (.iconst 0, 1) := by decide +kernel
theorem dX12_replacesOne_341 : decode cX12_replacesOne 341 = .ok (.iaload, 1) := by decide +kernel
theorem dX12_replacesOne_342 : decode cX12_replacesOne 342 = .ok (.iload 8, 2) := by decide +kernel
theorem dX12_replacesOne_344 : decode cX12_replacesOne 344 = .ok (.invokevirtual 274, 3) := by decide +kernel
theorem dX12_replacesOne_347 : decode cX12_replacesOne 347 = .ok (.iload_n 1, 1) := by decide +kernel
theorem dX12_replacesOne_348 : decode cX12_replacesOne 348 = .ok (.iconst 1, 1) := by decide +kernel
theorem dX12_replacesOne_349 : decode cX12_replacesOne 349 = .ok (.isub, 1) := by decide +kernel
theorem dX12_replacesOne_350 : decode cX12_replacesOne 350 = .ok (.ireturn, 1) := by decide +kernel
theorem dX12_replacesOne_351 : decode cX12_replacesOne 351 = .ok (.aload_n 0, 1) := by decide +kernel
theorem dX12_replacesOne_352 : decode cX12_replacesOne 352 = .ok (.iload 10, 2) := by decide +kernel
theorem dX12_replacesOne_354 : decode cX12_replacesOne 354 = .ok (.iload 11, 2) := by decide +kernel
theorem dX12_replacesOne_356 : decode cX12_replacesOne 356 = .ok (.aload_n 0, 1) := by decide +kernel
theorem dX12_replacesOne_357 : decode cX12_replacesOne 357 = .ok (.getfield 77, 3) := by decide +kernel
theorem dX12_replacesOne_360 : decode cX12_replacesOne 360 = .ok (.iconst 0, 1) := by decide +kernel
theorem dX12_replacesOne_361 : decode cX12_replacesOne 361 = .ok (.iaload, 1) := by decide +kernel
theorem dX12_replacesOne_362 : decode cX12_replacesOne 362 = .ok (.iload 7, 2) := by decide +kernel
theorem dX12_replacesOne_364 : decode cX12_replacesOne 364 = .ok (.invokevirtual 281, 3) := by decide +kernel
theorem dX12_replacesOne_367 : decode cX12_replacesOne 367 = .ok (.iload 5, 2) := by decide +kernel
theorem dX12_replacesOne_369 : decode cX12_replacesOne 369 = .ok (.ifCond .eq 19, 3) := by decide +kernel
theorem dX12_replacesOne_372 : decode cX12_replacesOne 372 = .ok (.aload_n 0, 1) := by decide +kernel
theorem dX12_replacesOne_373 : decode cX12_replacesOne 373 = .ok (.iload 10, 2) := by decide +kernel
theorem dX12_replacesOne_375 : decode cX12_replacesOne 375 = .ok (.iload 9, 2) := by decide +kernel
theorem dX12_replacesOne_377 : decode cX12_replacesOne 377 = .ok (.aload_n 0, 1) := by decide +kernel
theorem dX12_replacesOne_378 : decode cX12_replacesOne 378 = .ok (.getfield 77, 3) := by decide +kernel
theorem dX12_replacesOne_381 : decode cX12_replacesOne 381 = .ok (.iconst 0, 1) := by decide +kernel
theorem dX12_replacesOne_382 : decode cX12_replacesOne 382 = .ok (.iaload, 1) := by decide +kernel
theorem dX12_replacesOne_383 : decode cX12_replacesOne 383 = .ok (.iload 8, 2) := by decide +kernel
theorem dX12_replacesOne_385 : decode cX12_replacesOne 385 = .ok (.invokevirtual 281, 3) := by decide +kernel
theorem dX12_replacesOne_388 : decode cX12_replacesOne 388 = .ok (.aload_n 0, 1) := by decide +kernel
theorem dX12_replacesOne_389 : decode cX12_replacesOne 389 = .ok (.iload 10, 2) := by decide +kernel
theorem dX12_replacesOne_391 : decode cX12_replacesOne 391 = .ok (.invokevirtual 306, 3) := by decide +kernel
theorem dX12_replacesOne_394 : decode cX12_replacesOne 394 = .ok (.istore 12, 2) := by decide +kernel
theorem dX12_replacesOne_396 : decode cX12_replacesOne 396 = .ok (.iload_n 1, 1) := by decide +kernel
theorem dX12_replacesOne_397 : decode cX12_replacesOne 397 = .ok (.iconst 1, 1) := by decide +kernel
theorem dX12_replacesOne_398 : decode cX12_replacesOne 398 = .ok (.if_icmp .ne 23, 3) := by decide +kernel
theorem dX12_replacesOne_401 : decode cX12_replacesOne 401 = .ok (.iload 12, 2) := by decide +kernel
theorem dX12_replacesOne_403 : decode cX12_replacesOne 403 = .ok (.iconst 1, 1) := by decide +kernel
theorem dX12_replacesOne_404 : decode cX12_replacesOne 404 = .ok (.if_icmp .ne 15, 3) := by decide +kernel
theorem dX12_replacesOne_407 : decode cX12_replacesOne 407 = .ok (.aload_n 0, 1) := by decide +kernel
theorem dX12_replacesOne_408 : decode cX12_replacesOne 408 = .ok (.iload 10, 2) := by decide +kernel
theorem dX12_replacesOne_410 : decode cX12_replacesOne 410 = .ok (.invokevirtual 297, 3) := by decide +kernel
theorem dX12_replacesOne_413 : decode cX12_replacesOne 413 = .ok (.aload_n 0, 1) := by decide +kernel
theorem dX12_replacesOne_414 : decode cX12_replacesOne 414 = .ok (.iload 7, 2) := by decide +kernel
theorem dX12_replacesOne_416 : decode cX12_replacesOne 416 = .ok (.invokevirtual 246, 3) := by decide +kernel
theorem dX12_replacesOne_419 : decode cX12_replacesOne 419 = .ok (.iconst (-1), 1) := by decide +kernel
theorem dX12_replacesOne_420 : decode cX12_replacesOne 420 = .ok (.ireturn, 1) := by decide +kernel
theorem dX12_replacesOne_421 : decode cX12_replacesOne 421 = .ok (.iload 12, 2) := by decide +kernel
theorem dX12_replacesOne_423 : decode cX12_replacesOne 423 = .ok (.aload_n 0, 1) := by decide +kernel
theorem dX12_replacesOne_424 : decode cX12_replacesOne 424 = .ok (.invokevirtual 288, 3) := by decide +kernel
theorem dX12_replacesOne_427 : decode cX12_replacesOne 427 = .ok (.if_icmp .lt 5, 3) := by decide +kernel
theorem dX12_replacesOne_430 : decode cX12_replacesOne 430 = .ok (.iconst (-1), 1) := by decide +kernel
theorem dX12_replacesOne_431 : decode cX12_replacesOne 431 = .ok (.ireturn, 1) := by decide +kernel
theorem dX12_replacesOne_432 : decode cX12_replacesOne 432 = .ok (.aload_n 0, 1) := by decide +kernel
theorem dX12_replacesOne_433 : decode cX12_replacesOne 433 = .ok (.iload 10, 2) := by decide +kernel
theorem dX12_replacesOne_435 : decode cX12_replacesOne 435 = .ok (.invokevirtual 294, 3) := by decide +kernel
theorem dX12_replacesOne_438 : decode cX12_replacesOne 438 = .ok (.iload_n 1, 1) := by decide +kernel
theorem dX12_replacesOne_439 : decode cX12_replacesOne 439 = .ok (.iconst 1, 1) := by decide +kernel
theorem dX12_replacesOne_440 : decode cX12_replacesOne 440 = .ok (.isub, 1) := by decide +kernel
theorem dX12_replacesOne_441 : decode cX12_replacesOne 441 = .ok (.ireturn, 1) := by decide +kernel
theorem dX12_versionEnds_0 : decode cX12_versionEnds 0 = .ok (.aload_n 0, 1) := by decide +kernel
theorem dX12_versionEnds_1 : decode cX12_versionEnds 1 = .ok (.getfield 77, 3) := by decide +kernel
theorem dX12_versionEnds_4 : decode cX12_versionEnds 4 = .ok (.ldc 242, 2) := by decide +kernel
theorem dX12_versionEnds_6 : decode cX12_versionEnds 6 = .ok (.iload_n 1, 1) := by decide +kernel
theorem dX12_versionEnds_7 : decode cX12_versionEnds 7 = .ok (.iadd, 1) := by decide +kernel
theorem dX12_versionEnds_8 : decode cX12_versionEnds 8 = .ok (.iaload, 1) := by decide +kernel
theorem dX12_versionEnds_9 : decode cX12_versionEnds 9 = .ok (.istore_n 2, 1) := by decide +kernel
theorem dX12_versionEnds_10 : decode cX12_versionEnds 10 = .ok (.iload_n 2, 1) := by decide +kernel
theorem dX12_versionEnds_11 : decode cX12_versionEnds 11 = .ok (.ifCond .ge 4, 3) := by decide +kernel
theorem dX12_versionEnds_14 : decode cX12_versionEnds 14 = .ok (.return_, 1) := by decide +kernel
theorem dX12_versionEnds_15 : decode cX12_versionEnds 15 = .ok (.aload_n 0, 1) := by decide +kernel
theorem dX12_versionEnds_16 : decode cX12_versionEnds 16 = .ok (.getfield 77, 3) := by decide +kernel
theorem dX12_versionEnds_19 : decode cX12_versionEnds 19 = .ok (.sipush 18100, 3) := by decide +kernel
theorem dX12_versionEnds_22 : decode cX12_versionEnds 22 = .ok (.iconst 4, 1) := by decide +kernel
theorem dX12_versionEnds_23 : decode cX12_versionEnds 23 = .ok (.iload_n 2, 1) := by decide +kernel
theorem dX12_versionEnds_24 : decode cX12_versionEnds 24 = .ok (.imul, 1) := by decide +kernel
theorem dX12_versionEnds_25 : decode cX12_versionEnds 25 = .ok (.iadd, 1) := by decide +kernel
theorem dX12_versionEnds_26 : decode cX12_versionEnds 26 = .ok (.iconst 2, 1) := by decide +kernel
theorem dX12_versionEnds_27 : decode cX12_versionEnds 27 = .ok (.iadd, 1) := by decide +kernel
theorem dX12_versionEnds_28 : decode cX12_versionEnds 28 = .ok (.aload_n 0, 1) := by decide +kernel
theorem dX12_versionEnds_29 : decode cX12_versionEnds 29 = .ok (.getfield 77, 3) := by decide +kernel
theorem dX12_versionEnds_32 : decode cX12_versionEnds 32 = .ok (.iconst 0, 1) := by decide +kernel
theorem dX12_versionEnds_33 : decode cX12_versionEnds 33 = .ok (.iaload, 1) := by decide +kernel
theorem dX12_versionEnds_34 : decode cX12_versionEnds 34 = .ok (.iastore, 1) := by decide +kernel
theorem dX12_versionEnds_35 : decode cX12_versionEnds 35 = .ok (.aload_n 0, 1) := by decide +kernel
theorem dX12_versionEnds_36 : decode cX12_versionEnds 36 = .ok (.getfield 77, 3) := by decide +kernel
theorem dX12_versionEnds_39 : decode cX12_versionEnds 39 = .ok (.ldc 242, 2) := by decide +kernel
theorem dX12_versionEnds_41 : decode cX12_versionEnds 41 = .ok (.iload_n 1, 1) := by decide +kernel
theorem dX12_versionEnds_42 : decode cX12_versionEnds 42 = .ok (.iadd, 1) := by decide +kernel
theorem dX12_versionEnds_43 : decode cX12_versionEnds 43 = .ok (.iconst (-1), 1) := by decide +kernel
theorem dX12_versionEnds_44 : decode cX12_versionEnds 44 = .ok (.iastore, 1) := by decide +kernel
theorem dX12_versionEnds_45 : decode cX12_versionEnds 45 = .ok (.aload_n 0, 1) := by decide +kernel
theorem dX12_versionEnds_46 : decode cX12_versionEnds 46 = .ok (.getfield 77, 3) := by decide +kernel
theorem dX12_versionEnds_49 : decode cX12_versionEnds 49 = .ok (.bipush 7, 2) := by decide +kernel
theorem dX12_versionEnds_51 : decode cX12_versionEnds 51 = .ok (.dup2, 1) := by decide +kernel
theorem dX12_versionEnds_52 : decode cX12_versionEnds 52 = .ok (.iaload, 1) := by decide +kernel
theorem dX12_versionEnds_53 : decode cX12_versionEnds 53 = .ok (.iconst 1, 1) := by decide +kernel
theorem dX12_versionEnds_54 : decode cX12_versionEnds 54 = .ok (.isub, 1) := by decide +kernel
theorem dX12_versionEnds_55 : decode cX12_versionEnds 55 = .ok (.iastore, 1) := by decide +kernel
theorem dX12_versionEnds_56 : decode cX12_versionEnds 56 = .ok (.return_, 1) := by decide +kernel
theorem dX12_versionComes_0 : decode cX12_versionComes 0 = .ok (.aload_n 0, 1) := by decide +kernel
theorem dX12_versionComes_1 : decode cX12_versionComes 1 = .ok (.getfield 77, 3) := by decide +kernel
theorem dX12_versionComes_4 : decode cX12_versionComes 4 = .ok (.iconst 4, 1) := by decide +kernel
theorem dX12_versionComes_5 : decode cX12_versionComes 5 = .ok (.iaload, 1) := by decide +kernel
theorem dX12_versionComes_6 : decode cX12_versionComes 6 = .ok (.istore_n 3, 1) := by decide +kernel
theorem dX12_versionComes_7 : decode cX12_versionComes 7 = .ok (.aload_n 0, 1) := by decide +kernel
theorem dX12_versionComes_8 : decode cX12_versionComes 8 = .ok (.getfield 77, 3) := by decide +kernel
theorem dX12_versionComes_11 : decode cX12_versionComes 11 = .ok (.sipush 18100, 3) := by decide +kernel
theorem dX12_versionComes_14 : decode cX12_versionComes 14 = .ok (.iconst 4, 1) := by decide +kernel
theorem dX12_versionComes_15 : decode cX12_versionComes 15 = .ok (.iload_n 3, 1) := by decide +kernel
theorem dX12_versionComes_16 : decode cX12_versionComes 16 = .ok (.imul, 1) := by decide +kernel
theorem dX12_versionComes_17 : decode cX12_versionComes 17 = .ok (.iadd, 1) := by decide +kernel
theorem dX12_versionComes_18 : decode cX12_versionComes 18 = .ok (.iload_n 1, 1) := by decide +kernel
theorem dX12_versionComes_19 : decode cX12_versionComes 19 = .ok (.iastore, 1) := by decide +kernel
theorem dX12_versionComes_20 : decode cX12_versionComes 20 = .ok (.aload_n 0, 1) := by decide +kernel
theorem dX12_versionComes_21 : decode cX12_versionComes 21 = .ok (.getfield 77, 3) := by decide +kernel
theorem dX12_versionComes_24 : decode cX12_versionComes 24 = .ok (.sipush 18100, 3) := by decide +kernel
theorem dX12_versionComes_27 : decode cX12_versionComes 27 = .ok (.iconst 4, 1) := by decide +kernel
theorem dX12_versionComes_28 : decode cX12_versionComes 28 = .ok (.iload_n 3, 1) := by decide +kernel
theorem dX12_versionComes_29 : decode cX12_versionComes 29 = .ok (.imul, 1) := by decide +kernel
theorem dX12_versionComes_30 : decode cX12_versionComes 30 = .ok (.iadd, 1) := by decide +kernel
theorem dX12_versionComes_31 : decode cX12_versionComes 31 = .ok (.iconst 1, 1) := by decide +kernel
theorem dX12_versionComes_32 : decode cX12_versionComes 32 = .ok (.iadd, 1) := by decide +kernel
theorem dX12_versionComes_33 : decode cX12_versionComes 33 = .ok (.aload_n 0, 1) := by decide +kernel
theorem dX12_versionComes_34 : decode cX12_versionComes 34 = .ok (.getfield 77, 3) := by decide +kernel
theorem dX12_versionComes_37 : decode cX12_versionComes 37 = .ok (.iconst 0, 1) := by decide +kernel
theorem dX12_versionComes_38 : decode cX12_versionComes 38 = .ok (.iaload, 1) := by decide +kernel
theorem dX12_versionComes_39 : decode cX12_versionComes 39 = .ok (.iastore, 1) := by decide +kernel
theorem dX12_versionComes_40 : decode cX12_versionComes 40 = .ok (.aload_n 0, 1) := by decide +kernel
theorem dX12_versionComes_41 : decode cX12_versionComes 41 = .ok (.getfield 77, 3) := by decide +kernel
theorem dX12_versionComes_44 : decode cX12_versionComes 44 = .ok (.sipush 18100, 3) := by decide +kernel
theorem dX12_versionComes_47 : decode cX12_versionComes 47 = .ok (.iconst 4, 1) := by decide +kernel
theorem dX12_versionComes_48 : decode cX12_versionComes 48 = .ok (.iload_n 3, 1) := by decide +kernel
theorem dX12_versionComes_49 : decode cX12_versionComes 49 = .ok (.imul, 1) := by decide +kernel
theorem dX12_versionComes_50 : decode cX12_versionComes 50 = .ok (.iadd, 1) := by decide +kernel
theorem dX12_versionComes_51 : decode cX12_versionComes 51 = .ok (.iconst 2, 1) := by decide +kernel
theorem dX12_versionComes_52 : decode cX12_versionComes 52 = .ok (.iadd, 1) := by decide +kernel
theorem dX12_versionComes_53 : decode cX12_versionComes 53 = .ok (.bipush (-2), 2) := by decide +kernel
theorem dX12_versionComes_55 : decode cX12_versionComes 55 = .ok (.iastore, 1) := by decide +kernel
theorem dX12_versionComes_56 : decode cX12_versionComes 56 = .ok (.aload_n 0, 1) := by decide +kernel
theorem dX12_versionComes_57 : decode cX12_versionComes 57 = .ok (.getfield 77, 3) := by decide +kernel
theorem dX12_versionComes_60 : decode cX12_versionComes 60 = .ok (.sipush 18100, 3) := by decide +kernel
theorem dX12_versionComes_63 : decode cX12_versionComes 63 = .ok (.iconst 4, 1) := by decide +kernel
theorem dX12_versionComes_64 : decode cX12_versionComes 64 = .ok (.iload_n 3, 1) := by decide +kernel
theorem dX12_versionComes_65 : decode cX12_versionComes 65 = .ok (.imul, 1) := by decide +kernel
theorem dX12_versionComes_66 : decode cX12_versionComes 66 = .ok (.iadd, 1) := by decide +kernel
theorem dX12_versionComes_67 : decode cX12_versionComes 67 = .ok (.iconst 3, 1) := by decide +kernel
theorem dX12_versionComes_68 : decode cX12_versionComes 68 = .ok (.iadd, 1) := by decide +kernel
theorem dX12_versionComes_69 : decode cX12_versionComes 69 = .ok (.iload_n 2, 1) := by decide +kernel
theorem dX12_versionComes_70 : decode cX12_versionComes 70 = .ok (.iastore, 1) := by decide +kernel
theorem dX12_versionComes_71 : decode cX12_versionComes 71 = .ok (.aload_n 0, 1) := by decide +kernel
theorem dX12_versionComes_72 : decode cX12_versionComes 72 = .ok (.getfield 77, 3) := by decide +kernel
theorem dX12_versionComes_75 : decode cX12_versionComes 75 = .ok (.ldc 242, 2) := by decide +kernel
theorem dX12_versionComes_77 : decode cX12_versionComes 77 = .ok (.iload_n 1, 1) := by decide +kernel
theorem dX12_versionComes_78 : decode cX12_versionComes 78 = .ok (.iadd, 1) := by decide +kernel
theorem dX12_versionComes_79 : decode cX12_versionComes 79 = .ok (.iload_n 3, 1) := by decide +kernel
theorem dX12_versionComes_80 : decode cX12_versionComes 80 = .ok (.iastore, 1) := by decide +kernel
theorem dX12_versionComes_81 : decode cX12_versionComes 81 = .ok (.aload_n 0, 1) := by decide +kernel
theorem dX12_versionComes_82 : decode cX12_versionComes 82 = .ok (.getfield 77, 3) := by decide +kernel
theorem dX12_versionComes_85 : decode cX12_versionComes 85 = .ok (.iconst 4, 1) := by decide +kernel
theorem dX12_versionComes_86 : decode cX12_versionComes 86 = .ok (.dup2, 1) := by decide +kernel
theorem dX12_versionComes_87 : decode cX12_versionComes 87 = .ok (.iaload, 1) := by decide +kernel
theorem dX12_versionComes_88 : decode cX12_versionComes 88 = .ok (.iconst 1, 1) := by decide +kernel
theorem dX12_versionComes_89 : decode cX12_versionComes 89 = .ok (.iadd, 1) := by decide +kernel
theorem dX12_versionComes_90 : decode cX12_versionComes 90 = .ok (.iastore, 1) := by decide +kernel
theorem dX12_versionComes_91 : decode cX12_versionComes 91 = .ok (.aload_n 0, 1) := by decide +kernel
theorem dX12_versionComes_92 : decode cX12_versionComes 92 = .ok (.getfield 77, 3) := by decide +kernel
theorem dX12_versionComes_95 : decode cX12_versionComes 95 = .ok (.bipush 7, 2) := by decide +kernel
theorem dX12_versionComes_97 : decode cX12_versionComes 97 = .ok (.dup2, 1) := by decide +kernel
theorem dX12_versionComes_98 : decode cX12_versionComes 98 = .ok (.iaload, 1) := by decide +kernel
theorem dX12_versionComes_99 : decode cX12_versionComes 99 = .ok (.iconst 1, 1) := by decide +kernel
theorem dX12_versionComes_100 : decode cX12_versionComes 100 = .ok (.iadd, 1) := by decide +kernel
theorem dX12_versionComes_101 : decode cX12_versionComes 101 = .ok (.iastore, 1) := by decide +kernel
theorem dX12_versionComes_102 : decode cX12_versionComes 102 = .ok (.return_, 1) := by decide +kernel
theorem dX12_entryEnds_0 : decode cX12_entryEnds 0 = .ok (.iconst 0, 1) := by decide +kernel
theorem dX12_entryEnds_1 : decode cX12_entryEnds 1 = .ok (.istore_n 3, 1) := by decide +kernel
theorem dX12_entryEnds_2 : decode cX12_entryEnds 2 = .ok (.iload_n 3, 1) := by decide +kernel
theorem dX12_entryEnds_3 : decode cX12_entryEnds 3 = .ok (.aload_n 0, 1) := by decide +kernel
theorem dX12_entryEnds_4 : decode cX12_entryEnds 4 = .ok (.iload_n 1, 1) := by decide +kernel
theorem dX12_entryEnds_5 : decode cX12_entryEnds 5 = .ok (.invokevirtual 249, 3) := by decide +kernel
theorem dX12_entryEnds_8 : decode cX12_entryEnds 8 = .ok (.if_icmp .ge 53, 3) := by decide +kernel
theorem dX12_entryEnds_11 : decode cX12_entryEnds 11 = .ok (.aload_n 0, 1) := by decide +kernel
theorem dX12_entryEnds_12 : decode cX12_entryEnds 12 = .ok (.iload_n 1, 1) := by decide +kernel
theorem dX12_entryEnds_13 : decode cX12_entryEnds 13 = .ok (.iload_n 3, 1) := by decide +kernel
theorem dX12_entryEnds_14 : decode cX12_entryEnds 14 = .ok (.invokestatic 252, 3) := by decide +kernel
theorem dX12_entryEnds_17 : decode cX12_entryEnds 17 = .ok (.invokevirtual 255, 3) := by decide +kernel
theorem dX12_entryEnds_20 : decode cX12_entryEnds 20 = .ok (.ifCond .eq 35, 3) := by decide +kernel
theorem dX12_entryEnds_23 : decode cX12_entryEnds 23 = .ok (.aload_n 0, 1) := by decide +kernel
theorem dX12_entryEnds_24 : decode cX12_entryEnds 24 = .ok (.getfield 77, 3) := by decide +kernel
theorem dX12_entryEnds_27 : decode cX12_entryEnds 27 = .ok (.iload_n 1, 1) := by decide +kernel
theorem dX12_entryEnds_28 : decode cX12_entryEnds 28 = .ok (.iload_n 3, 1) := by decide +kernel
theorem dX12_entryEnds_29 : decode cX12_entryEnds 29 = .ok (.invokestatic 252, 3) := by decide +kernel
theorem dX12_entryEnds_32 : decode cX12_entryEnds 32 = .ok (.iaload, 1) := by decide +kernel
theorem dX12_entryEnds_33 : decode cX12_entryEnds 33 = .ok (.iload_n 2, 1) := by decide +kernel
theorem dX12_entryEnds_34 : decode cX12_entryEnds 34 = .ok (.if_icmp .ne 21, 3) := by decide +kernel
theorem dX12_entryEnds_37 : decode cX12_entryEnds 37 = .ok (.aload_n 0, 1) := by decide +kernel
theorem dX12_entryEnds_38 : decode cX12_entryEnds 38 = .ok (.getfield 77, 3) := by decide +kernel
theorem dX12_entryEnds_41 : decode cX12_entryEnds 41 = .ok (.iload_n 1, 1) := by decide +kernel
theorem dX12_entryEnds_42 : decode cX12_entryEnds 42 = .ok (.iload_n 3, 1) := by decide +kernel
theorem dX12_entryEnds_43 : decode cX12_entryEnds 43 = .ok (.invokestatic 252, 3) := by decide +kernel
theorem dX12_entryEnds_46 : decode cX12_entryEnds 46 = .ok (.iconst 2, 1) := by decide +kernel
theorem dX12_entryEnds_47 : decode cX12_entryEnds 47 = .ok (.iadd, 1) := by decide +kernel
theorem dX12_entryEnds_48 : decode cX12_entryEnds 48 = .ok (.aload_n 0, 1) := by decide +kernel
theorem dX12_entryEnds_49 : decode cX12_entryEnds 49 = .ok (.getfield 77, 3) := by decide +kernel
theorem dX12_entryEnds_52 : decode cX12_entryEnds 52 = .ok (.iconst 0, 1) := by decide +kernel
theorem dX12_entryEnds_53 : decode cX12_entryEnds 53 = .ok (.iaload, 1) := by decide +kernel
theorem dX12_entryEnds_54 : decode cX12_entryEnds 54 = .ok (.iastore, 1) := by decide +kernel
theorem dX12_entryEnds_55 : decode cX12_entryEnds 55 = .ok (.iinc 3 1, 3) := by decide +kernel
theorem dX12_entryEnds_58 : decode cX12_entryEnds 58 = .ok (.goto (-56), 3) := by decide +kernel
theorem dX12_entryEnds_61 : decode cX12_entryEnds 61 = .ok (.return_, 1) := by decide +kernel
theorem dX12_puts_0 : decode cX12_puts 0 = .ok (.aload_n 0, 1) := by decide +kernel
theorem dX12_puts_1 : decode cX12_puts 1 = .ok (.getfield 77, 3) := by decide +kernel
theorem dX12_puts_4 : decode cX12_puts 4 = .ok (.iconst 3, 1) := by decide +kernel
theorem dX12_puts_5 : decode cX12_puts 5 = .ok (.iaload, 1) := by decide +kernel
theorem dX12_puts_6 : decode cX12_puts 6 = .ok (.sipush 280, 3) := by decide +kernel
theorem dX12_puts_9 : decode cX12_puts 9 = .ok (.if_icmp .lt 5, 3) := by decide +kernel
theorem dX12_puts_12 : decode cX12_puts 12 = .ok (.iconst 0, 1) := by decide +kernel
theorem dX12_puts_13 : decode cX12_puts 13 = .ok (.ireturn, 1) := by decide +kernel
theorem dX12_puts_14 : decode cX12_puts 14 = .ok (.aload_n 0, 1) := by decide +kernel
theorem dX12_puts_15 : decode cX12_puts 15 = .ok (.getfield 77, 3) := by decide +kernel
theorem dX12_puts_18 : decode cX12_puts 18 = .ok (.iconst 0, 1) := by decide +kernel
theorem dX12_puts_19 : decode cX12_puts 19 = .ok (.dup2, 1) := by decide +kernel
theorem dX12_puts_20 : decode cX12_puts 20 = .ok (.iaload, 1) := by decide +kernel
theorem dX12_puts_21 : decode cX12_puts 21 = .ok (.iconst 1, 1) := by decide +kernel
theorem dX12_puts_22 : decode cX12_puts 22 = .ok (.iadd, 1) := by decide +kernel
theorem dX12_puts_23 : decode cX12_puts 23 = .ok (.iastore, 1) := by decide +kernel
theorem dX12_puts_24 : decode cX12_puts 24 = .ok (.aload_n 0, 1) := by decide +kernel
theorem dX12_puts_25 : decode cX12_puts 25 = .ok (.iload_n 1, 1) := by decide +kernel
theorem dX12_puts_26 : decode cX12_puts 26 = .ok (.invokevirtual 309, 3) := by decide +kernel
theorem dX12_puts_29 : decode cX12_puts 29 = .ok (.aload_n 0, 1) := by decide +kernel
theorem dX12_puts_30 : decode cX12_puts 30 = .ok (.iload_n 1, 1) := by decide +kernel
theorem dX12_puts_31 : decode cX12_puts 31 = .ok (.iload_n 2, 1) := by decide +kernel
theorem dX12_puts_32 : decode cX12_puts 32 = .ok (.invokevirtual 312, 3) := by decide +kernel
theorem dX12_puts_35 : decode cX12_puts 35 = .ok (.aload_n 0, 1) := by decide +kernel
theorem dX12_puts_36 : decode cX12_puts 36 = .ok (.iload_n 1, 1) := by decide +kernel
theorem dX12_puts_37 : decode cX12_puts 37 = .ok (.invokevirtual 315, 3) := by decide +kernel
theorem dX12_puts_40 : decode cX12_puts 40 = .ok (.aload_n 0, 1) := by decide +kernel
theorem dX12_puts_41 : decode cX12_puts 41 = .ok (.getfield 80, 3) := by decide +kernel
theorem dX12_puts_44 : decode cX12_puts 44 = .ok (.aload_n 0, 1) := by decide +kernel
theorem dX12_puts_45 : decode cX12_puts 45 = .ok (.getfield 262, 3) := by decide +kernel
theorem dX12_puts_48 : decode cX12_puts 48 = .ok (.iconst 1, 1) := by decide +kernel
theorem dX12_puts_49 : decode cX12_puts 49 = .ok (.isub, 1) := by decide +kernel
theorem dX12_puts_50 : decode cX12_puts 50 = .ok (.iaload, 1) := by decide +kernel
theorem dX12_puts_51 : decode cX12_puts 51 = .ok (.istore_n 3, 1) := by decide +kernel
theorem dX12_puts_52 : decode cX12_puts 52 = .ok (.aload_n 0, 1) := by decide +kernel
theorem dX12_puts_53 : decode cX12_puts 53 = .ok (.iload_n 3, 1) := by decide +kernel
theorem dX12_puts_54 : decode cX12_puts 54 = .ok (.iload_n 1, 1) := by decide +kernel
theorem dX12_puts_55 : decode cX12_puts 55 = .ok (.invokevirtual 318, 3) := by decide +kernel
theorem dX12_puts_58 : decode cX12_puts 58 = .ok (.aload_n 0, 1) := by decide +kernel
theorem dX12_puts_59 : decode cX12_puts 59 = .ok (.iload_n 3, 1) := by decide +kernel
theorem dX12_puts_60 : decode cX12_puts 60 = .ok (.invokevirtual 249, 3) := by decide +kernel
theorem dX12_puts_63 : decode cX12_puts 63 = .ok (.aload_n 0, 1) := by decide +kernel
theorem dX12_puts_64 : decode cX12_puts 64 = .ok (.getfield 77, 3) := by decide +kernel
theorem dX12_puts_67 : decode cX12_puts 67 = .ok (.iconst 1, 1) := by decide +kernel
theorem dX12_puts_68 : decode cX12_puts 68 = .ok (.iaload, 1) := by decide +kernel
theorem dX12_puts_69 : decode cX12_puts 69 = .ok (.if_icmp .ge 18, 3) := by decide +kernel
theorem dX12_puts_72 : decode cX12_puts 72 = .ok (.aload_n 0, 1) := by decide +kernel
theorem dX12_puts_73 : decode cX12_puts 73 = .ok (.iload_n 3, 1) := by decide +kernel
theorem dX12_puts_74 : decode cX12_puts 74 = .ok (.iload_n 1, 1) := by decide +kernel
theorem dX12_puts_75 : decode cX12_puts 75 = .ok (.aload_n 0, 1) := by decide +kernel
theorem dX12_puts_76 : decode cX12_puts 76 = .ok (.getfield 77, 3) := by decide +kernel
theorem dX12_puts_79 : decode cX12_puts 79 = .ok (.iconst 0, 1) := by decide +kernel
theorem dX12_puts_80 : decode cX12_puts 80 = .ok (.iaload, 1) := by decide +kernel
theorem dX12_puts_81 : decode cX12_puts 81 = .ok (.iload_n 2, 1) := by decide +kernel
theorem dX12_puts_82 : decode cX12_puts 82 = .ok (.invokevirtual 281, 3) := by decide +kernel
theorem dX12_puts_85 : decode cX12_puts 85 = .ok (.iconst 1, 1) := by decide +kernel
theorem dX12_puts_86 : decode cX12_puts 86 = .ok (.ireturn, 1) := by decide +kernel
theorem dX12_puts_87 : decode cX12_puts 87 = .ok (.aload_n 0, 1) := by decide +kernel
theorem dX12_puts_88 : decode cX12_puts 88 = .ok (.iconst 0, 1) := by decide +kernel
theorem dX12_puts_89 : decode cX12_puts 89 = .ok (.putfield 271, 3) := by decide +kernel
theorem dX12_puts_92 : decode cX12_puts 92 = .ok (.aload_n 0, 1) := by decide +kernel
theorem dX12_puts_93 : decode cX12_puts 93 = .ok (.iload_n 3, 1) := by decide +kernel
theorem dX12_puts_94 : decode cX12_puts 94 = .ok (.invokevirtual 294, 3) := by decide +kernel
theorem dX12_puts_97 : decode cX12_puts 97 = .ok (.aload_n 0, 1) := by decide +kernel
theorem dX12_puts_98 : decode cX12_puts 98 = .ok (.iload_n 1, 1) := by decide +kernel
theorem dX12_puts_99 : decode cX12_puts 99 = .ok (.aload_n 0, 1) := by decide +kernel
theorem dX12_puts_100 : decode cX12_puts 100 = .ok (.getfield 77, 3) := by decide +kernel
theorem dX12_puts_103 : decode cX12_puts 103 = .ok (.iconst 0, 1) := by decide +kernel
theorem dX12_puts_104 : decode cX12_puts 104 = .ok (.iaload, 1) := by decide +kernel
theorem dX12_puts_105 : decode cX12_puts 105 = .ok (.iload_n 2, 1) := by decide +kernel
theorem dX12_puts_106 : decode cX12_puts 106 = .ok (.invokevirtual 274, 3) := by decide +kernel
theorem dX12_puts_109 : decode cX12_puts 109 = .ok (.aload_n 0, 1) := by decide +kernel
theorem dX12_puts_110 : decode cX12_puts 110 = .ok (.aload_n 0, 1) := by decide +kernel
theorem dX12_puts_111 : decode cX12_puts 111 = .ok (.getfield 262, 3) := by decide +kernel
theorem dX12_puts_114 : decode cX12_puts 114 = .ok (.iconst 1, 1) := by decide +kernel
theorem dX12_puts_115 : decode cX12_puts 115 = .ok (.isub, 1) := by decide +kernel
theorem dX12_puts_116 : decode cX12_puts 116 = .ok (.invokevirtual 321, 3) := by decide +kernel
theorem dX12_puts_119 : decode cX12_puts 119 = .ok (.iconst 1, 1) := by decide +kernel
theorem dX12_puts_120 : decode cX12_puts 120 = .ok (.ireturn, 1) := by decide +kernel
theorem dX12_cuts_0 : decode cX12_cuts 0 = .ok (.aload_n 0, 1) := by decide +kernel
theorem dX12_cuts_1 : decode cX12_cuts 1 = .ok (.getfield 77, 3) := by decide +kernel
theorem dX12_cuts_4 : decode cX12_cuts 4 = .ok (.ldc 242, 2) := by decide +kernel
theorem dX12_cuts_6 : decode cX12_cuts 6 = .ok (.iload_n 1, 1) := by decide +kernel
theorem dX12_cuts_7 : decode cX12_cuts 7 = .ok (.iadd, 1) := by decide +kernel
theorem dX12_cuts_8 : decode cX12_cuts 8 = .ok (.iaload, 1) := by decide +kernel
theorem dX12_cuts_9 : decode cX12_cuts 9 = .ok (.ifCond .lt 15, 3) := by decide +kernel
theorem dX12_cuts_12 : decode cX12_cuts 12 = .ok (.aload_n 0, 1) := by decide +kernel
theorem dX12_cuts_13 : decode cX12_cuts 13 = .ok (.getfield 77, 3) := by decide +kernel
theorem dX12_cuts_16 : decode cX12_cuts 16 = .ok (.iconst 3, 1) := by decide +kernel
theorem dX12_cuts_17 : decode cX12_cuts 17 = .ok (.iaload, 1) := by decide +kernel
theorem dX12_cuts_18 : decode cX12_cuts 18 = .ok (.sipush 280, 3) := by decide +kernel
theorem dX12_cuts_21 : decode cX12_cuts 21 = .ok (.if_icmp .lt 5, 3) := by decide +kernel
theorem dX12_cuts_24 : decode cX12_cuts 24 = .ok (.iconst 0, 1) := by decide +kernel
theorem dX12_cuts_25 : decode cX12_cuts 25 = .ok (.ireturn, 1) := by decide +kernel
theorem dX12_cuts_26 : decode cX12_cuts 26 = .ok (.aload_n 0, 1) := by decide +kernel
theorem dX12_cuts_27 : decode cX12_cuts 27 = .ok (.getfield 77, 3) := by decide +kernel
theorem dX12_cuts_30 : decode cX12_cuts 30 = .ok (.iconst 0, 1) := by decide +kernel
theorem dX12_cuts_31 : decode cX12_cuts 31 = .ok (.dup2, 1) := by decide +kernel
theorem dX12_cuts_32 : decode cX12_cuts 32 = .ok (.iaload, 1) := by decide +kernel
theorem dX12_cuts_33 : decode cX12_cuts 33 = .ok (.iconst 1, 1) := by decide +kernel
theorem dX12_cuts_34 : decode cX12_cuts 34 = .ok (.iadd, 1) := by decide +kernel
theorem dX12_cuts_35 : decode cX12_cuts 35 = .ok (.iastore, 1) := by decide +kernel
theorem dX12_cuts_36 : decode cX12_cuts 36 = .ok (.aload_n 0, 1) := by decide +kernel
theorem dX12_cuts_37 : decode cX12_cuts 37 = .ok (.iload_n 1, 1) := by decide +kernel
theorem dX12_cuts_38 : decode cX12_cuts 38 = .ok (.invokevirtual 309, 3) := by decide +kernel
theorem dX12_cuts_41 : decode cX12_cuts 41 = .ok (.aload_n 0, 1) := by decide +kernel
theorem dX12_cuts_42 : decode cX12_cuts 42 = .ok (.iload_n 1, 1) := by decide +kernel
theorem dX12_cuts_43 : decode cX12_cuts 43 = .ok (.invokevirtual 315, 3) := by decide +kernel
theorem dX12_cuts_46 : decode cX12_cuts 46 = .ok (.aload_n 0, 1) := by decide +kernel
theorem dX12_cuts_47 : decode cX12_cuts 47 = .ok (.getfield 80, 3) := by decide +kernel
theorem dX12_cuts_50 : decode cX12_cuts 50 = .ok (.aload_n 0, 1) := by decide +kernel
theorem dX12_cuts_51 : decode cX12_cuts 51 = .ok (.getfield 262, 3) := by decide +kernel
theorem dX12_cuts_54 : decode cX12_cuts 54 = .ok (.iconst 1, 1) := by decide +kernel
theorem dX12_cuts_55 : decode cX12_cuts 55 = .ok (.isub, 1) := by decide +kernel
theorem dX12_cuts_56 : decode cX12_cuts 56 = .ok (.iaload, 1) := by decide +kernel
theorem dX12_cuts_57 : decode cX12_cuts 57 = .ok (.istore_n 2, 1) := by decide +kernel
theorem dX12_cuts_58 : decode cX12_cuts 58 = .ok (.aload_n 0, 1) := by decide +kernel
theorem dX12_cuts_59 : decode cX12_cuts 59 = .ok (.iload_n 2, 1) := by decide +kernel
theorem dX12_cuts_60 : decode cX12_cuts 60 = .ok (.iload_n 1, 1) := by decide +kernel
theorem dX12_cuts_61 : decode cX12_cuts 61 = .ok (.invokevirtual 318, 3) := by decide +kernel
theorem dX12_cuts_64 : decode cX12_cuts 64 = .ok (.aload_n 0, 1) := by decide +kernel
theorem dX12_cuts_65 : decode cX12_cuts 65 = .ok (.getfield 262, 3) := by decide +kernel
theorem dX12_cuts_68 : decode cX12_cuts 68 = .ok (.iconst 1, 1) := by decide +kernel
theorem dX12_cuts_69 : decode cX12_cuts 69 = .ok (.if_icmp .eq 15, 3) := by decide +kernel
theorem dX12_cuts_72 : decode cX12_cuts 72 = .ok (.aload_n 0, 1) := by decide +kernel
theorem dX12_cuts_73 : decode cX12_cuts 73 = .ok (.iload_n 2, 1) := by decide +kernel
theorem dX12_cuts_74 : decode cX12_cuts 74 = .ok (.invokevirtual 306, 3) := by decide +kernel
theorem dX12_cuts_77 : decode cX12_cuts 77 = .ok (.aload_n 0, 1) := by decide +kernel
theorem dX12_cuts_78 : decode cX12_cuts 78 = .ok (.invokevirtual 288, 3) := by decide +kernel
theorem dX12_cuts_81 : decode cX12_cuts 81 = .ok (.if_icmp .lt 5, 3) := by decide +kernel
theorem dX12_cuts_84 : decode cX12_cuts 84 = .ok (.iconst 1, 1) := by decide +kernel
theorem dX12_cuts_85 : decode cX12_cuts 85 = .ok (.ireturn, 1) := by decide +kernel
theorem dX12_cuts_86 : decode cX12_cuts 86 = .ok (.aload_n 0, 1) := by decide +kernel
theorem dX12_cuts_87 : decode cX12_cuts 87 = .ok (.iconst 0, 1) := by decide +kernel
theorem dX12_cuts_88 : decode cX12_cuts 88 = .ok (.putfield 271, 3) := by decide +kernel
theorem dX12_cuts_91 : decode cX12_cuts 91 = .ok (.aload_n 0, 1) := by decide +kernel
theorem dX12_cuts_92 : decode cX12_cuts 92 = .ok (.iload_n 2, 1) := by decide +kernel
theorem dX12_cuts_93 : decode cX12_cuts 93 = .ok (.invokevirtual 294, 3) := by decide +kernel
theorem dX12_cuts_96 : decode cX12_cuts 96 = .ok (.aload_n 0, 1) := by decide +kernel
theorem dX12_cuts_97 : decode cX12_cuts 97 = .ok (.aload_n 0, 1) := by decide +kernel
theorem dX12_cuts_98 : decode cX12_cuts 98 = .ok (.getfield 262, 3) := by decide +kernel
theorem dX12_cuts_101 : decode cX12_cuts 101 = .ok (.iconst 1, 1) := by decide +kernel
theorem dX12_cuts_102 : decode cX12_cuts 102 = .ok (.isub, 1) := by decide +kernel
theorem dX12_cuts_103 : decode cX12_cuts 103 = .ok (.invokevirtual 321, 3) := by decide +kernel
theorem dX12_cuts_106 : decode cX12_cuts 106 = .ok (.iconst 1, 1) := by decide +kernel
theorem dX12_cuts_107 : decode cX12_cuts 107 = .ok (.ireturn, 1) := by decide +kernel
theorem dX12_isKey_0 : decode cX12_isKey 0 = .ok (.iload_n 0, 1) := by decide +kernel
theorem dX12_isKey_1 : decode cX12_isKey 1 = .ok (.iconst 0, 1) := by decide +kernel
theorem dX12_isKey_2 : decode cX12_isKey 2 = .ok (.sipush 999, 3) := by decide +kernel
theorem dX12_isKey_5 : decode cX12_isKey 5 = .ok (.invokestatic 324, 3) := by decide +kernel
theorem dX12_isKey_8 : decode cX12_isKey 8 = .ok (.ireturn, 1) := by decide +kernel
theorem dX12_isTime_0 : decode cX12_isTime 0 = .ok (.iload_n 1, 1) := by decide +kernel
theorem dX12_isTime_1 : decode cX12_isTime 1 = .ok (.iconst 0, 1) := by decide +kernel
theorem dX12_isTime_2 : decode cX12_isTime 2 = .ok (.aload_n 0, 1) := by decide +kernel
theorem dX12_isTime_3 : decode cX12_isTime 3 = .ok (.getfield 77, 3) := by decide +kernel
theorem dX12_isTime_6 : decode cX12_isTime 6 = .ok (.iconst 0, 1) := by decide +kernel
theorem dX12_isTime_7 : decode cX12_isTime 7 = .ok (.iaload, 1) := by decide +kernel
theorem dX12_isTime_8 : decode cX12_isTime 8 = .ok (.invokestatic 324, 3) := by decide +kernel
theorem dX12_isTime_11 : decode cX12_isTime 11 = .ok (.ireturn, 1) := by decide +kernel
theorem dX12_isRange_0 : decode cX12_isRange 0 = .ok (.iload_n 1, 1) := by decide +kernel
theorem dX12_isRange_1 : decode cX12_isRange 1 = .ok (.invokestatic 328, 3) := by decide +kernel
theorem dX12_isRange_4 : decode cX12_isRange 4 = .ok (.ifCond .eq 14, 3) := by decide +kernel
theorem dX12_isRange_7 : decode cX12_isRange 7 = .ok (.iload_n 2, 1) := by decide +kernel
theorem dX12_isRange_8 : decode cX12_isRange 8 = .ok (.invokestatic 328, 3) := by decide +kernel
theorem dX12_isRange_11 : decode cX12_isRange 11 = .ok (.ifCond .eq 7, 3) := by decide +kernel
theorem dX12_isRange_14 : decode cX12_isRange 14 = .ok (.iconst 1, 1) := by decide +kernel
theorem dX12_isRange_15 : decode cX12_isRange 15 = .ok (.goto 4, 3) := by decide +kernel
theorem dX12_isRange_18 : decode cX12_isRange 18 = .ok (.iconst 0, 1) := by decide +kernel
theorem dX12_isRange_19 : decode cX12_isRange 19 = .ok (.ireturn, 1) := by decide +kernel
theorem dX12_put_0 : decode cX12_put 0 = .ok (.iload_n 1, 1) := by decide +kernel
theorem dX12_put_1 : decode cX12_put 1 = .ok (.invokestatic 328, 3) := by decide +kernel
theorem dX12_put_4 : decode cX12_put 4 = .ok (.ifCond .eq 21, 3) := by decide +kernel
theorem dX12_put_7 : decode cX12_put 7 = .ok (.aload_n 0, 1) := by decide +kernel
theorem dX12_put_8 : decode cX12_put 8 = .ok (.iload_n 1, 1) := by decide +kernel
theorem dX12_put_9 : decode cX12_put 9 = .ok (.iload_n 2, 1) := by decide +kernel
theorem dX12_put_10 : decode cX12_put 10 = .ok (.invokevirtual 235, 3) := by decide +kernel
theorem dX12_put_13 : decode cX12_put 13 = .ok (.ifCond .eq 12, 3) := by decide +kernel
theorem dX12_put_16 : decode cX12_put 16 = .ok (.aload_n 0, 1) := by decide +kernel
theorem dX12_put_17 : decode cX12_put 17 = .ok (.getfield 77, 3) := by decide +kernel
theorem dX12_put_20 : decode cX12_put 20 = .ok (.iconst 0, 1) := by decide +kernel
theorem dX12_put_21 : decode cX12_put 21 = .ok (.iaload, 1) := by decide +kernel
theorem dX12_put_22 : decode cX12_put 22 = .ok (.goto 4, 3) := by decide +kernel
theorem dX12_put_25 : decode cX12_put 25 = .ok (.iconst (-1), 1) := by decide +kernel
theorem dX12_put_26 : decode cX12_put 26 = .ok (.ireturn, 1) := by decide +kernel
theorem dX12_cut_0 : decode cX12_cut 0 = .ok (.iload_n 1, 1) := by decide +kernel
theorem dX12_cut_1 : decode cX12_cut 1 = .ok (.invokestatic 328, 3) := by decide +kernel
theorem dX12_cut_4 : decode cX12_cut 4 = .ok (.ifCond .eq 20, 3) := by decide +kernel
theorem dX12_cut_7 : decode cX12_cut 7 = .ok (.aload_n 0, 1) := by decide +kernel
theorem dX12_cut_8 : decode cX12_cut 8 = .ok (.iload_n 1, 1) := by decide +kernel
theorem dX12_cut_9 : decode cX12_cut 9 = .ok (.invokevirtual 239, 3) := by decide +kernel
theorem dX12_cut_12 : decode cX12_cut 12 = .ok (.ifCond .eq 12, 3) := by decide +kernel
theorem dX12_cut_15 : decode cX12_cut 15 = .ok (.aload_n 0, 1) := by decide +kernel
theorem dX12_cut_16 : decode cX12_cut 16 = .ok (.getfield 77, 3) := by decide +kernel
theorem dX12_cut_19 : decode cX12_cut 19 = .ok (.iconst 0, 1) := by decide +kernel
theorem dX12_cut_20 : decode cX12_cut 20 = .ok (.iaload, 1) := by decide +kernel
theorem dX12_cut_21 : decode cX12_cut 21 = .ok (.goto 4, 3) := by decide +kernel
theorem dX12_cut_24 : decode cX12_cut 24 = .ok (.iconst (-1), 1) := by decide +kernel
theorem dX12_cut_25 : decode cX12_cut 25 = .ok (.ireturn, 1) := by decide +kernel
theorem dX12_livesThen_0 : decode cX12_livesThen 0 = .ok (.iload_n 1, 1) := by decide +kernel
theorem dX12_livesThen_1 : decode cX12_livesThen 1 = .ok (.iload_n 3, 1) := by decide +kernel
theorem dX12_livesThen_2 : decode cX12_livesThen 2 = .ok (.if_icmp .gt 18, 3) := by decide +kernel
theorem dX12_livesThen_5 : decode cX12_livesThen 5 = .ok (.iload_n 2, 1) := by decide +kernel
theorem dX12_livesThen_6 : decode cX12_livesThen 6 = .ok (.bipush (-2), 2) := by decide +kernel
theorem dX12_livesThen_8 : decode cX12_livesThen 8 = .ok (.if_icmp .eq 8, 3) := by decide +kernel
theorem dX12_livesThen_11 : decode cX12_livesThen 11 = .ok (.iload_n 3, 1) := by decide +kernel
theorem dX12_livesThen_12 : decode cX12_livesThen 12 = .ok (.iload_n 2, 1) := by decide +kernel
theorem dX12_livesThen_13 : decode cX12_livesThen 13 = .ok (.if_icmp .ge 7, 3) := by decide +kernel
theorem dX12_livesThen_16 : decode cX12_livesThen 16 = .ok (.iconst 1, 1) := by decide +kernel
theorem dX12_livesThen_17 : decode cX12_livesThen 17 = .ok (.goto 4, 3) := by decide +kernel
theorem dX12_livesThen_20 : decode cX12_livesThen 20 = .ok (.iconst 0, 1) := by decide +kernel
theorem dX12_livesThen_21 : decode cX12_livesThen 21 = .ok (.ireturn, 1) := by decide +kernel
theorem dX12_versionAt_0 : decode cX12_versionAt 0 = .ok (.sipush 18100, 3) := by decide +kernel
theorem dX12_versionAt_3 : decode cX12_versionAt 3 = .ok (.istore_n 3, 1) := by decide +kernel
theorem dX12_versionAt_4 : decode cX12_versionAt 4 = .ok (.iload_n 3, 1) := by decide +kernel
theorem dX12_versionAt_5 : decode cX12_versionAt 5 = .ok (.sipush 18100, 3) := by decide +kernel
theorem dX12_versionAt_8 : decode cX12_versionAt 8 = .ok (.iconst 4, 1) := by decide +kernel
theorem dX12_versionAt_9 : decode cX12_versionAt 9 = .ok (.aload_n 0, 1) := by decide +kernel
theorem dX12_versionAt_10 : decode cX12_versionAt 10 = .ok (.getfield 77, 3) := by decide +kernel
theorem dX12_versionAt_13 : decode cX12_versionAt 13 = .ok (.iconst 4, 1) := by decide +kernel
theorem dX12_versionAt_14 : decode cX12_versionAt 14 = .ok (.iaload, 1) := by decide +kernel
theorem dX12_versionAt_15 : decode cX12_versionAt 15 = .ok (.imul, 1) := by decide +kernel
theorem dX12_versionAt_16 : decode cX12_versionAt 16 = .ok (.iadd, 1) := by decide +kernel
theorem dX12_versionAt_17 : decode cX12_versionAt 17 = .ok (.if_icmp .ge 45, 3) := by decide +kernel
theorem dX12_versionAt_20 : decode cX12_versionAt 20 = .ok (.aload_n 0, 1) := by decide +kernel
theorem dX12_versionAt_21 : decode cX12_versionAt 21 = .ok (.getfield 77, 3) := by decide +kernel
theorem dX12_versionAt_24 : decode cX12_versionAt 24 = .ok (.iload_n 3, 1) := by decide +kernel
theorem dX12_versionAt_25 : decode cX12_versionAt 25 = .ok (.iaload, 1) := by decide +kernel
theorem dX12_versionAt_26 : decode cX12_versionAt 26 = .ok (.iload_n 1, 1) := by decide +kernel
theorem dX12_versionAt_27 : decode cX12_versionAt 27 = .ok (.if_icmp .ne 29, 3) := by decide +kernel
theorem dX12_versionAt_30 : decode cX12_versionAt 30 = .ok (.aload_n 0, 1) := by decide +kernel
theorem dX12_versionAt_31 : decode cX12_versionAt 31 = .ok (.aload_n 0, 1) := by decide +kernel
theorem dX12_versionAt_32 : decode cX12_versionAt 32 = .ok (.getfield 77, 3) := by decide +kernel
theorem dX12_versionAt_35 : decode cX12_versionAt 35 = .ok (.iload_n 3, 1) := by decide +kernel
theorem dX12_versionAt_36 : decode cX12_versionAt 36 = .ok (.iconst 1, 1) := by decide +kernel
theorem dX12_versionAt_37 : decode cX12_versionAt 37 = .ok (.iadd, 1) := by decide +kernel
theorem dX12_versionAt_38 : decode cX12_versionAt 38 = .ok (.iaload, 1) := by decide +kernel
theorem dX12_versionAt_39 : decode cX12_versionAt 39 = .ok (.aload_n 0, 1) := by decide +kernel
theorem dX12_versionAt_40 : decode cX12_versionAt 40 = .ok (.getfield 77, 3) := by decide +kernel
theorem dX12_versionAt_43 : decode cX12_versionAt 43 = .ok (.iload_n 3, 1) := by decide +kernel
theorem dX12_versionAt_44 : decode cX12_versionAt 44 = .ok (.iconst 2, 1) := by decide +kernel
theorem dX12_versionAt_45 : decode cX12_versionAt 45 = .ok (.iadd, 1) := by decide +kernel
theorem dX12_versionAt_46 : decode cX12_versionAt 46 = .ok (.iaload, 1) := by decide +kernel
theorem dX12_versionAt_47 : decode cX12_versionAt 47 = .ok (.iload_n 2, 1) := by decide +kernel
theorem dX12_versionAt_48 : decode cX12_versionAt 48 = .ok (.invokevirtual 331, 3) := by decide +kernel
theorem dX12_versionAt_51 : decode cX12_versionAt 51 = .ok (.ifCond .eq 5, 3) := by decide +kernel
theorem dX12_versionAt_54 : decode cX12_versionAt 54 = .ok (.iload_n 3, 1) := by decide +kernel
theorem dX12_versionAt_55 : decode cX12_versionAt 55 = .ok (.ireturn, 1) := by decide +kernel
theorem dX12_versionAt_56 : decode cX12_versionAt 56 = .ok (.iinc 3 4, 3) := by decide +kernel
theorem dX12_versionAt_59 : decode cX12_versionAt 59 = .ok (.goto (-55), 3) := by decide +kernel
theorem dX12_versionAt_62 : decode cX12_versionAt 62 = .ok (.iconst (-1), 1) := by decide +kernel
theorem dX12_versionAt_63 : decode cX12_versionAt 63 = .ok (.ireturn, 1) := by decide +kernel
theorem dX12_fillsThen_0 : decode cX12_fillsThen 0 = .ok (.iconst 0, 1) := by decide +kernel
theorem dX12_fillsThen_1 : decode cX12_fillsThen 1 = .ok (.istore_n 2, 1) := by decide +kernel
theorem dX12_fillsThen_2 : decode cX12_fillsThen 2 = .ok (.iload_n 2, 1) := by decide +kernel
theorem dX12_fillsThen_3 : decode cX12_fillsThen 3 = .ok (.sipush 1000, 3) := by decide +kernel
theorem dX12_fillsThen_6 : decode cX12_fillsThen 6 = .ok (.if_icmp .ge 16, 3) := by decide +kernel
theorem dX12_fillsThen_9 : decode cX12_fillsThen 9 = .ok (.aload_n 0, 1) := by decide +kernel
theorem dX12_fillsThen_10 : decode cX12_fillsThen 10 = .ok (.getfield 92, 3) := by decide +kernel
theorem dX12_fillsThen_13 : decode cX12_fillsThen 13 = .ok (.iload_n 2, 1) := by decide +kernel
theorem dX12_fillsThen_14 : decode cX12_fillsThen 14 = .ok (.iconst (-1), 1) := by decide +kernel
theorem dX12_fillsThen_15 : decode cX12_fillsThen 15 = .ok (.iastore, 1) := by decide +kernel
theorem dX12_fillsThen_16 : decode cX12_fillsThen 16 = .ok (.iinc 2 1, 3) := by decide +kernel
theorem dX12_fillsThen_19 : decode cX12_fillsThen 19 = .ok (.goto (-17), 3) := by decide +kernel
theorem dX12_fillsThen_22 : decode cX12_fillsThen 22 = .ok (.sipush 18100, 3) := by decide +kernel
theorem dX12_fillsThen_25 : decode cX12_fillsThen 25 = .ok (.istore_n 2, 1) := by decide +kernel
theorem dX12_fillsThen_26 : decode cX12_fillsThen 26 = .ok (.iload_n 2, 1) := by decide +kernel
theorem dX12_fillsThen_27 : decode cX12_fillsThen 27 = .ok (.sipush 18100, 3) := by decide +kernel
theorem dX12_fillsThen_30 : decode cX12_fillsThen 30 = .ok (.iconst 4, 1) := by decide +kernel
theorem dX12_fillsThen_31 : decode cX12_fillsThen 31 = .ok (.aload_n 0, 1) := by decide +kernel
theorem dX12_fillsThen_32 : decode cX12_fillsThen 32 = .ok (.getfield 77, 3) := by decide +kernel
theorem dX12_fillsThen_35 : decode cX12_fillsThen 35 = .ok (.iconst 4, 1) := by decide +kernel
theorem dX12_fillsThen_36 : decode cX12_fillsThen 36 = .ok (.iaload, 1) := by decide +kernel
theorem dX12_fillsThen_37 : decode cX12_fillsThen 37 = .ok (.imul, 1) := by decide +kernel
theorem dX12_fillsThen_38 : decode cX12_fillsThen 38 = .ok (.iadd, 1) := by decide +kernel
theorem dX12_fillsThen_39 : decode cX12_fillsThen 39 = .ok (.if_icmp .ge 45, 3) := by decide +kernel
theorem dX12_fillsThen_42 : decode cX12_fillsThen 42 = .ok (.aload_n 0, 1) := by decide +kernel
theorem dX12_fillsThen_43 : decode cX12_fillsThen 43 = .ok (.aload_n 0, 1) := by decide +kernel
theorem dX12_fillsThen_44 : decode cX12_fillsThen 44 = .ok (.getfield 77, 3) := by decide +kernel
theorem dX12_fillsThen_47 : decode cX12_fillsThen 47 = .ok (.iload_n 2, 1) := by decide +kernel
theorem dX12_fillsThen_48 : decode cX12_fillsThen 48 = .ok (.iconst 1, 1) := by decide +kernel
theorem dX12_fillsThen_49 : decode cX12_fillsThen 49 = .ok (.iadd, 1) := by decide +kernel
theorem dX12_fillsThen_50 : decode cX12_fillsThen 50 = .ok (.iaload, 1) := by decide +kernel
theorem dX12_fillsThen_51 : decode cX12_fillsThen 51 = .ok (.aload_n 0, 1) := by decide +kernel
theorem dX12_fillsThen_52 : decode cX12_fillsThen 52 = .ok (.getfield 77, 3) := by decide +kernel
theorem dX12_fillsThen_55 : decode cX12_fillsThen 55 = .ok (.iload_n 2, 1) := by decide +kernel
theorem dX12_fillsThen_56 : decode cX12_fillsThen 56 = .ok (.iconst 2, 1) := by decide +kernel
theorem dX12_fillsThen_57 : decode cX12_fillsThen 57 = .ok (.iadd, 1) := by decide +kernel
theorem dX12_fillsThen_58 : decode cX12_fillsThen 58 = .ok (.iaload, 1) := by decide +kernel
theorem dX12_fillsThen_59 : decode cX12_fillsThen 59 = .ok (.iload_n 1, 1) := by decide +kernel
theorem dX12_fillsThen_60 : decode cX12_fillsThen 60 = .ok (.invokevirtual 331, 3) := by decide +kernel
theorem dX12_fillsThen_63 : decode cX12_fillsThen 63 = .ok (.ifCond .eq 15, 3) := by decide +kernel
theorem dX12_fillsThen_66 : decode cX12_fillsThen 66 = .ok (.aload_n 0, 1) := by decide +kernel
theorem dX12_fillsThen_67 : decode cX12_fillsThen 67 = .ok (.getfield 92, 3) := by decide +kernel
theorem dX12_fillsThen_70 : decode cX12_fillsThen 70 = .ok (.aload_n 0, 1) := by decide +kernel
theorem dX12_fillsThen_71 : decode cX12_fillsThen 71 = .ok (.getfield 77, 3) := by decide +kernel
theorem dX12_fillsThen_74 : decode cX12_fillsThen 74 = .ok (.iload_n 2, 1) := by decide +kernel
theorem dX12_fillsThen_75 : decode cX12_fillsThen 75 = .ok (.iaload, 1) := by decide +kernel
theorem dX12_fillsThen_76 : decode cX12_fillsThen 76 = .ok (.iload_n 2, 1) := by decide +kernel
theorem dX12_fillsThen_77 : decode cX12_fillsThen 77 = .ok (.iastore, 1) := by decide +kernel
theorem dX12_fillsThen_78 : decode cX12_fillsThen 78 = .ok (.iinc 2 4, 3) := by decide +kernel
theorem dX12_fillsThen_81 : decode cX12_fillsThen 81 = .ok (.goto (-55), 3) := by decide +kernel
theorem dX12_fillsThen_84 : decode cX12_fillsThen 84 = .ok (.return_, 1) := by decide +kernel
theorem dX12_has_0 : decode cX12_has 0 = .ok (.iload_n 1, 1) := by decide +kernel
theorem dX12_has_1 : decode cX12_has 1 = .ok (.invokestatic 328, 3) := by decide +kernel
theorem dX12_has_4 : decode cX12_has 4 = .ok (.ifCond .eq 11, 3) := by decide +kernel
theorem dX12_has_7 : decode cX12_has 7 = .ok (.aload_n 0, 1) := by decide +kernel
theorem dX12_has_8 : decode cX12_has 8 = .ok (.iload_n 2, 1) := by decide +kernel
theorem dX12_has_9 : decode cX12_has 9 = .ok (.invokevirtual 334, 3) := by decide +kernel
theorem dX12_has_12 : decode cX12_has 12 = .ok (.ifCond .ne 7, 3) := by decide +kernel
theorem dX12_has_15 : decode cX12_has 15 = .ok (.iconst (-1), 1) := by decide +kernel
theorem dX12_has_16 : decode cX12_has 16 = .ok (.goto 17, 3) := by decide +kernel
theorem dX12_has_19 : decode cX12_has 19 = .ok (.aload_n 0, 1) := by decide +kernel
theorem dX12_has_20 : decode cX12_has 20 = .ok (.iload_n 1, 1) := by decide +kernel
theorem dX12_has_21 : decode cX12_has 21 = .ok (.iload_n 2, 1) := by decide +kernel
theorem dX12_has_22 : decode cX12_has 22 = .ok (.invokevirtual 337, 3) := by decide +kernel
theorem dX12_has_25 : decode cX12_has 25 = .ok (.ifCond .ge 7, 3) := by decide +kernel
theorem dX12_has_28 : decode cX12_has 28 = .ok (.iconst 0, 1) := by decide +kernel
theorem dX12_has_29 : decode cX12_has 29 = .ok (.goto 4, 3) := by decide +kernel
theorem dX12_has_32 : decode cX12_has 32 = .ok (.iconst 1, 1) := by decide +kernel
theorem dX12_has_33 : decode cX12_has 33 = .ok (.ireturn, 1) := by decide +kernel
theorem dX12_value_0 : decode cX12_value 0 = .ok (.iload_n 1, 1) := by decide +kernel
theorem dX12_value_1 : decode cX12_value 1 = .ok (.invokestatic 328, 3) := by decide +kernel
theorem dX12_value_4 : decode cX12_value 4 = .ok (.ifCond .eq 11, 3) := by decide +kernel
theorem dX12_value_7 : decode cX12_value 7 = .ok (.aload_n 0, 1) := by decide +kernel
theorem dX12_value_8 : decode cX12_value 8 = .ok (.iload_n 2, 1) := by decide +kernel
theorem dX12_value_9 : decode cX12_value 9 = .ok (.invokevirtual 334, 3) := by decide +kernel
theorem dX12_value_12 : decode cX12_value 12 = .ok (.ifCond .ne 5, 3) := by decide +kernel
theorem dX12_value_15 : decode cX12_value 15 = .ok (.iconst 0, 1) := by decide +kernel
theorem dX12_value_16 : decode cX12_value 16 = .ok (.ireturn, 1) := by decide +kernel
theorem dX12_value_17 : decode cX12_value 17 = .ok (.aload_n 0, 1) := by decide +kernel
theorem dX12_value_18 : decode cX12_value 18 = .ok (.iload_n 1, 1) := by decide +kernel
theorem dX12_value_19 : decode cX12_value 19 = .ok (.iload_n 2, 1) := by decide +kernel
theorem dX12_value_20 : decode cX12_value 20 = .ok (.invokevirtual 337, 3) := by decide +kernel
theorem dX12_value_23 : decode cX12_value 23 = .ok (.istore_n 3, 1) := by decide +kernel
theorem dX12_value_24 : decode cX12_value 24 = .ok (.iload_n 3, 1) := by decide +kernel
theorem dX12_value_25 : decode cX12_value 25 = .ok (.ifCond .ge 7, 3) := by decide +kernel
theorem dX12_value_28 : decode cX12_value 28 = .ok (.iconst 0, 1) := by decide +kernel
theorem dX12_value_29 : decode cX12_value 29 = .ok (.goto 11, 3) := by decide +kernel
theorem dX12_value_32 : decode cX12_value 32 = .ok (.aload_n 0, 1) := by decide +kernel
theorem dX12_value_33 : decode cX12_value 33 = .ok (.getfield 77, 3) := by decide +kernel
theorem dX12_value_36 : decode cX12_value 36 = .ok (.iload_n 3, 1) := by decide +kernel
theorem dX12_value_37 : decode cX12_value 37 = .ok (.iconst 3, 1) := by decide +kernel
theorem dX12_value_38 : decode cX12_value 38 = .ok (.iadd, 1) := by decide +kernel
theorem dX12_value_39 : decode cX12_value 39 = .ok (.iaload, 1) := by decide +kernel
theorem dX12_value_40 : decode cX12_value 40 = .ok (.ireturn, 1) := by decide +kernel
theorem dX12_since_0 : decode cX12_since 0 = .ok (.iload_n 1, 1) := by decide +kernel
theorem dX12_since_1 : decode cX12_since 1 = .ok (.invokestatic 328, 3) := by decide +kernel
theorem dX12_since_4 : decode cX12_since 4 = .ok (.ifCond .eq 11, 3) := by decide +kernel
theorem dX12_since_7 : decode cX12_since 7 = .ok (.aload_n 0, 1) := by decide +kernel
theorem dX12_since_8 : decode cX12_since 8 = .ok (.iload_n 2, 1) := by decide +kernel
theorem dX12_since_9 : decode cX12_since 9 = .ok (.invokevirtual 334, 3) := by decide +kernel
theorem dX12_since_12 : decode cX12_since 12 = .ok (.ifCond .ne 5, 3) := by decide +kernel
theorem dX12_since_15 : decode cX12_since 15 = .ok (.iconst (-1), 1) := by decide +kernel
theorem dX12_since_16 : decode cX12_since 16 = .ok (.ireturn, 1) := by decide +kernel
theorem dX12_since_17 : decode cX12_since 17 = .ok (.aload_n 0, 1) := by decide +kernel
theorem dX12_since_18 : decode cX12_since 18 = .ok (.iload_n 1, 1) := by decide +kernel
theorem dX12_since_19 : decode cX12_since 19 = .ok (.iload_n 2, 1) := by decide +kernel
theorem dX12_since_20 : decode cX12_since 20 = .ok (.invokevirtual 337, 3) := by decide +kernel
theorem dX12_since_23 : decode cX12_since 23 = .ok (.istore_n 3, 1) := by decide +kernel
theorem dX12_since_24 : decode cX12_since 24 = .ok (.iload_n 3, 1) := by decide +kernel
theorem dX12_since_25 : decode cX12_since 25 = .ok (.ifCond .ge 8, 3) := by decide +kernel
theorem dX12_since_28 : decode cX12_since 28 = .ok (.bipush (-2), 2) := by decide +kernel
theorem dX12_since_30 : decode cX12_since 30 = .ok (.goto 11, 3) := by decide +kernel
theorem dX12_since_33 : decode cX12_since 33 = .ok (.aload_n 0, 1) := by decide +kernel
theorem dX12_since_34 : decode cX12_since 34 = .ok (.getfield 77, 3) := by decide +kernel
theorem dX12_since_37 : decode cX12_since 37 = .ok (.iload_n 3, 1) := by decide +kernel
theorem dX12_since_38 : decode cX12_since 38 = .ok (.iconst 1, 1) := by decide +kernel
theorem dX12_since_39 : decode cX12_since 39 = .ok (.iadd, 1) := by decide +kernel
theorem dX12_since_40 : decode cX12_since 40 = .ok (.iaload, 1) := by decide +kernel
theorem dX12_since_41 : decode cX12_since 41 = .ok (.ireturn, 1) := by decide +kernel
theorem dX12_many_0 : decode cX12_many 0 = .ok (.aload_n 0, 1) := by decide +kernel
theorem dX12_many_1 : decode cX12_many 1 = .ok (.iload_n 1, 1) := by decide +kernel
theorem dX12_many_2 : decode cX12_many 2 = .ok (.iload_n 2, 1) := by decide +kernel
theorem dX12_many_3 : decode cX12_many 3 = .ok (.invokevirtual 340, 3) := by decide +kernel
theorem dX12_many_6 : decode cX12_many 6 = .ok (.ifCond .eq 11, 3) := by decide +kernel
theorem dX12_many_9 : decode cX12_many 9 = .ok (.aload_n 0, 1) := by decide +kernel
theorem dX12_many_10 : decode cX12_many 10 = .ok (.iload_n 3, 1) := by decide +kernel
theorem dX12_many_11 : decode cX12_many 11 = .ok (.invokevirtual 334, 3) := by decide +kernel
theorem dX12_many_14 : decode cX12_many 14 = .ok (.ifCond .ne 5, 3) := by decide +kernel
theorem dX12_many_17 : decode cX12_many 17 = .ok (.iconst (-1), 1) := by decide +kernel
theorem dX12_many_18 : decode cX12_many 18 = .ok (.ireturn, 1) := by decide +kernel
theorem dX12_many_19 : decode cX12_many 19 = .ok (.aload_n 0, 1) := by decide +kernel
theorem dX12_many_20 : decode cX12_many 20 = .ok (.iload_n 3, 1) := by decide +kernel
theorem dX12_many_21 : decode cX12_many 21 = .ok (.invokevirtual 343, 3) := by decide +kernel
theorem dX12_many_24 : decode cX12_many 24 = .ok (.iconst 0, 1) := by decide +kernel
theorem dX12_many_25 : decode cX12_many 25 = .ok (.istore 4, 2) := by decide +kernel
theorem dX12_many_27 : decode cX12_many 27 = .ok (.iload_n 1, 1) := by decide +kernel
theorem dX12_many_28 : decode cX12_many 28 = .ok (.istore 5, 2) := by decide +kernel
theorem dX12_many_30 : decode cX12_many 30 = .ok (.iload 5, 2) := by decide +kernel
theorem dX12_many_32 : decode cX12_many 32 = .ok (.iload_n 2, 1) := by decide +kernel
theorem dX12_many_33 : decode cX12_many 33 = .ok (.if_icmp .gt 22, 3) := by decide +kernel
theorem dX12_many_36 : decode cX12_many 36 = .ok (.aload_n 0, 1) := by decide +kernel
theorem dX12_many_37 : decode cX12_many 37 = .ok (.getfield 92, 3) := by decide +kernel
theorem dX12_many_40 : decode cX12_many 40 = .ok (.iload 5, 2) := by decide +kernel
theorem dX12_many_42 : decode cX12_many 42 = .ok (.iaload, 1) := by decide +kernel
theorem dX12_many_43 : decode cX12_many 43 = .ok (.ifCond .lt 6, 3) := by decide +kernel
theorem dX12_many_46 : decode cX12_many 46 = .ok (.iinc 4 1, 3) := by decide +kernel
theorem dX12_many_49 : decode cX12_many 49 = .ok (.iinc 5 1, 3) := by decide +kernel
theorem dX12_many_52 : decode cX12_many 52 = .ok (.goto (-22), 3) := by decide +kernel
theorem dX12_many_55 : decode cX12_many 55 = .ok (.iload 4, 2) := by decide +kernel
theorem dX12_many_57 : decode cX12_many 57 = .ok (.ireturn, 1) := by decide +kernel
theorem dX12_sum_0 : decode cX12_sum 0 = .ok (.aload_n 0, 1) := by decide +kernel
theorem dX12_sum_1 : decode cX12_sum 1 = .ok (.iload_n 1, 1) := by decide +kernel
theorem dX12_sum_2 : decode cX12_sum 2 = .ok (.iload_n 2, 1) := by decide +kernel
theorem dX12_sum_3 : decode cX12_sum 3 = .ok (.invokevirtual 340, 3) := by decide +kernel
theorem dX12_sum_6 : decode cX12_sum 6 = .ok (.ifCond .eq 11, 3) := by decide +kernel
theorem dX12_sum_9 : decode cX12_sum 9 = .ok (.aload_n 0, 1) := by decide +kernel
theorem dX12_sum_10 : decode cX12_sum 10 = .ok (.iload_n 3, 1) := by decide +kernel
theorem dX12_sum_11 : decode cX12_sum 11 = .ok (.invokevirtual 334, 3) := by decide +kernel
theorem dX12_sum_14 : decode cX12_sum 14 = .ok (.ifCond .ne 5, 3) := by decide +kernel
theorem dX12_sum_17 : decode cX12_sum 17 = .ok (.iconst 0, 1) := by decide +kernel
theorem dX12_sum_18 : decode cX12_sum 18 = .ok (.ireturn, 1) := by decide +kernel
theorem dX12_sum_19 : decode cX12_sum 19 = .ok (.aload_n 0, 1) := by decide +kernel
theorem dX12_sum_20 : decode cX12_sum 20 = .ok (.iload_n 3, 1) := by decide +kernel
theorem dX12_sum_21 : decode cX12_sum 21 = .ok (.invokevirtual 343, 3) := by decide +kernel
theorem dX12_sum_24 : decode cX12_sum 24 = .ok (.iconst 0, 1) := by decide +kernel
theorem dX12_sum_25 : decode cX12_sum 25 = .ok (.istore 4, 2) := by decide +kernel
theorem dX12_sum_27 : decode cX12_sum 27 = .ok (.iload_n 1, 1) := by decide +kernel
theorem dX12_sum_28 : decode cX12_sum 28 = .ok (.istore 5, 2) := by decide +kernel
theorem dX12_sum_30 : decode cX12_sum 30 = .ok (.iload 5, 2) := by decide +kernel
theorem dX12_sum_32 : decode cX12_sum 32 = .ok (.iload_n 2, 1) := by decide +kernel
theorem dX12_sum_33 : decode cX12_sum 33 = .ok (.if_icmp .gt 38, 3) := by decide +kernel
theorem dX12_sum_36 : decode cX12_sum 36 = .ok (.aload_n 0, 1) := by decide +kernel
theorem dX12_sum_37 : decode cX12_sum 37 = .ok (.getfield 92, 3) := by decide +kernel
theorem dX12_sum_40 : decode cX12_sum 40 = .ok (.iload 5, 2) := by decide +kernel
theorem dX12_sum_42 : decode cX12_sum 42 = .ok (.iaload, 1) := by decide +kernel
theorem dX12_sum_43 : decode cX12_sum 43 = .ok (.ifCond .lt 22, 3) := by decide +kernel
theorem dX12_sum_46 : decode cX12_sum 46 = .ok (.iload 4, 2) := by decide +kernel
theorem dX12_sum_48 : decode cX12_sum 48 = .ok (.aload_n 0, 1) := by decide +kernel
theorem dX12_sum_49 : decode cX12_sum 49 = .ok (.getfield 77, 3) := by decide +kernel
theorem dX12_sum_52 : decode cX12_sum 52 = .ok (.aload_n 0, 1) := by decide +kernel
theorem dX12_sum_53 : decode cX12_sum 53 = .ok (.getfield 92, 3) := by decide +kernel
theorem dX12_sum_56 : decode cX12_sum 56 = .ok (.iload 5, 2) := by decide +kernel
theorem dX12_sum_58 : decode cX12_sum 58 = .ok (.iaload, 1) := by decide +kernel
theorem dX12_sum_59 : decode cX12_sum 59 = .ok (.iconst 3, 1) := by decide +kernel
theorem dX12_sum_60 : decode cX12_sum 60 = .ok (.iadd, 1) := by decide +kernel
theorem dX12_sum_61 : decode cX12_sum 61 = .ok (.iaload, 1) := by decide +kernel
theorem dX12_sum_62 : decode cX12_sum 62 = .ok (.iadd, 1) := by decide +kernel
theorem dX12_sum_63 : decode cX12_sum 63 = .ok (.istore 4, 2) := by decide +kernel
theorem dX12_sum_65 : decode cX12_sum 65 = .ok (.iinc 5 1, 3) := by decide +kernel
theorem dX12_sum_68 : decode cX12_sum 68 = .ok (.goto (-38), 3) := by decide +kernel
theorem dX12_sum_71 : decode cX12_sum 71 = .ok (.iload 4, 2) := by decide +kernel
theorem dX12_sum_73 : decode cX12_sum 73 = .ok (.ireturn, 1) := by decide +kernel
theorem dX12_nth_0 : decode cX12_nth 0 = .ok (.iload_n 1, 1) := by decide +kernel
theorem dX12_nth_1 : decode cX12_nth 1 = .ok (.ifCond .lt 11, 3) := by decide +kernel
theorem dX12_nth_4 : decode cX12_nth 4 = .ok (.aload_n 0, 1) := by decide +kernel
theorem dX12_nth_5 : decode cX12_nth 5 = .ok (.iload_n 2, 1) := by decide +kernel
theorem dX12_nth_6 : decode cX12_nth 6 = .ok (.invokevirtual 334, 3) := by decide +kernel
theorem dX12_nth_9 : decode cX12_nth 9 = .ok (.ifCond .ne 5, 3) := by decide +kernel
theorem dX12_nth_12 : decode cX12_nth 12 = .ok (.iconst (-1), 1) := by decide +kernel
theorem dX12_nth_13 : decode cX12_nth 13 = .ok (.ireturn, 1) := by decide +kernel
theorem dX12_nth_14 : decode cX12_nth 14 = .ok (.aload_n 0, 1) := by decide +kernel
theorem dX12_nth_15 : decode cX12_nth 15 = .ok (.iload_n 2, 1) := by decide +kernel
theorem dX12_nth_16 : decode cX12_nth 16 = .ok (.invokevirtual 343, 3) := by decide +kernel
theorem dX12_nth_19 : decode cX12_nth 19 = .ok (.iload_n 1, 1) := by decide +kernel
theorem dX12_nth_20 : decode cX12_nth 20 = .ok (.istore_n 3, 1) := by decide +kernel
theorem dX12_nth_21 : decode cX12_nth 21 = .ok (.iconst 0, 1) := by decide +kernel
theorem dX12_nth_22 : decode cX12_nth 22 = .ok (.istore 4, 2) := by decide +kernel
theorem dX12_nth_24 : decode cX12_nth 24 = .ok (.iload 4, 2) := by decide +kernel
theorem dX12_nth_26 : decode cX12_nth 26 = .ok (.sipush 1000, 3) := by decide +kernel
theorem dX12_nth_29 : decode cX12_nth 29 = .ok (.if_icmp .ge 32, 3) := by decide +kernel
theorem dX12_nth_32 : decode cX12_nth 32 = .ok (.aload_n 0, 1) := by decide +kernel
theorem dX12_nth_33 : decode cX12_nth 33 = .ok (.getfield 92, 3) := by decide +kernel
theorem dX12_nth_36 : decode cX12_nth 36 = .ok (.iload 4, 2) := by decide +kernel
theorem dX12_nth_38 : decode cX12_nth 38 = .ok (.iaload, 1) := by decide +kernel
theorem dX12_nth_39 : decode cX12_nth 39 = .ok (.ifCond .ge 6, 3) := by decide +kernel
theorem dX12_nth_42 : decode cX12_nth 42 = .ok (.goto 13, 3) := by decide +kernel
theorem dX12_nth_45 : decode cX12_nth 45 = .ok (.iload_n 3, 1) := by decide +kernel
theorem dX12_nth_46 : decode cX12_nth 46 = .ok (.ifCond .ne 6, 3) := by decide +kernel
theorem dX12_nth_49 : decode cX12_nth 49 = .ok (.iload 4, 2) := by decide +kernel
theorem dX12_nth_51 : decode cX12_nth 51 = .ok (.ireturn, 1) := by decide +kernel
theorem dX12_nth_52 : decode cX12_nth 52 = .ok (.iinc 3 (-1), 3) := by decide +kernel
theorem dX12_nth_55 : decode cX12_nth 55 = .ok (.iinc 4 1, 3) := by decide +kernel
theorem dX12_nth_58 : decode cX12_nth 58 = .ok (.goto (-34), 3) := by decide +kernel
theorem dX12_nth_61 : decode cX12_nth 61 = .ok (.bipush (-2), 2) := by decide +kernel
theorem dX12_nth_63 : decode cX12_nth 63 = .ok (.ireturn, 1) := by decide +kernel
theorem dX12_next_0 : decode cX12_next 0 = .ok (.iload_n 1, 1) := by decide +kernel
theorem dX12_next_1 : decode cX12_next 1 = .ok (.invokestatic 328, 3) := by decide +kernel
theorem dX12_next_4 : decode cX12_next 4 = .ok (.ifCond .eq 11, 3) := by decide +kernel
theorem dX12_next_7 : decode cX12_next 7 = .ok (.aload_n 0, 1) := by decide +kernel
theorem dX12_next_8 : decode cX12_next 8 = .ok (.iload_n 2, 1) := by decide +kernel
theorem dX12_next_9 : decode cX12_next 9 = .ok (.invokevirtual 334, 3) := by decide +kernel
theorem dX12_next_12 : decode cX12_next 12 = .ok (.ifCond .ne 5, 3) := by decide +kernel
theorem dX12_next_15 : decode cX12_next 15 = .ok (.iconst (-1), 1) := by decide +kernel
theorem dX12_next_16 : decode cX12_next 16 = .ok (.ireturn, 1) := by decide +kernel
theorem dX12_next_17 : decode cX12_next 17 = .ok (.aload_n 0, 1) := by decide +kernel
theorem dX12_next_18 : decode cX12_next 18 = .ok (.iload_n 2, 1) := by decide +kernel
theorem dX12_next_19 : decode cX12_next 19 = .ok (.invokevirtual 343, 3) := by decide +kernel
theorem dX12_next_22 : decode cX12_next 22 = .ok (.iload_n 1, 1) := by decide +kernel
theorem dX12_next_23 : decode cX12_next 23 = .ok (.istore_n 3, 1) := by decide +kernel
theorem dX12_next_24 : decode cX12_next 24 = .ok (.iload_n 3, 1) := by decide +kernel
theorem dX12_next_25 : decode cX12_next 25 = .ok (.sipush 1000, 3) := by decide +kernel
theorem dX12_next_28 : decode cX12_next 28 = .ok (.if_icmp .ge 20, 3) := by decide +kernel
theorem dX12_next_31 : decode cX12_next 31 = .ok (.aload_n 0, 1) := by decide +kernel
theorem dX12_next_32 : decode cX12_next 32 = .ok (.getfield 92, 3) := by decide +kernel
theorem dX12_next_35 : decode cX12_next 35 = .ok (.iload_n 3, 1) := by decide +kernel
theorem dX12_next_36 : decode cX12_next 36 = .ok (.iaload, 1) := by decide +kernel
theorem dX12_next_37 : decode cX12_next 37 = .ok (.ifCond .lt 5, 3) := by decide +kernel
theorem dX12_next_40 : decode cX12_next 40 = .ok (.iload_n 3, 1) := by decide +kernel
theorem dX12_next_41 : decode cX12_next 41 = .ok (.ireturn, 1) := by decide +kernel
theorem dX12_next_42 : decode cX12_next 42 = .ok (.iinc 3 1, 3) := by decide +kernel
theorem dX12_next_45 : decode cX12_next 45 = .ok (.goto (-21), 3) := by decide +kernel
theorem dX12_next_48 : decode cX12_next 48 = .ok (.bipush (-2), 2) := by decide +kernel
theorem dX12_next_50 : decode cX12_next 50 = .ok (.ireturn, 1) := by decide +kernel
theorem dX12_prior_0 : decode cX12_prior 0 = .ok (.iload_n 1, 1) := by decide +kernel
theorem dX12_prior_1 : decode cX12_prior 1 = .ok (.invokestatic 328, 3) := by decide +kernel
theorem dX12_prior_4 : decode cX12_prior 4 = .ok (.ifCond .eq 11, 3) := by decide +kernel
theorem dX12_prior_7 : decode cX12_prior 7 = .ok (.aload_n 0, 1) := by decide +kernel
theorem dX12_prior_8 : decode cX12_prior 8 = .ok (.iload_n 2, 1) := by decide +kernel
theorem dX12_prior_9 : decode cX12_prior 9 = .ok (.invokevirtual 334, 3) := by decide +kernel
theorem dX12_prior_12 : decode cX12_prior 12 = .ok (.ifCond .ne 5, 3) := by decide +kernel
theorem dX12_prior_15 : decode cX12_prior 15 = .ok (.iconst (-1), 1) := by decide +kernel
theorem dX12_prior_16 : decode cX12_prior 16 = .ok (.ireturn, 1) := by decide +kernel
theorem dX12_prior_17 : decode cX12_prior 17 = .ok (.aload_n 0, 1) := by decide +kernel
theorem dX12_prior_18 : decode cX12_prior 18 = .ok (.iload_n 2, 1) := by decide +kernel
theorem dX12_prior_19 : decode cX12_prior 19 = .ok (.invokevirtual 343, 3) := by decide +kernel
theorem dX12_prior_22 : decode cX12_prior 22 = .ok (.iload_n 1, 1) := by decide +kernel
theorem dX12_prior_23 : decode cX12_prior 23 = .ok (.istore_n 3, 1) := by decide +kernel
theorem dX12_prior_24 : decode cX12_prior 24 = .ok (.iload_n 3, 1) := by decide +kernel
theorem dX12_prior_25 : decode cX12_prior 25 = .ok (.ifCond .lt 20, 3) := by decide +kernel
theorem dX12_prior_28 : decode cX12_prior 28 = .ok (.aload_n 0, 1) := by decide +kernel
theorem dX12_prior_29 : decode cX12_prior 29 = .ok (.getfield 92, 3) := by decide +kernel
theorem dX12_prior_32 : decode cX12_prior 32 = .ok (.iload_n 3, 1) := by decide +kernel
theorem dX12_prior_33 : decode cX12_prior 33 = .ok (.iaload, 1) := by decide +kernel
theorem dX12_prior_34 : decode cX12_prior 34 = .ok (.ifCond .lt 5, 3) := by decide +kernel
theorem dX12_prior_37 : decode cX12_prior 37 = .ok (.iload_n 3, 1) := by decide +kernel
theorem dX12_prior_38 : decode cX12_prior 38 = .ok (.ireturn, 1) := by decide +kernel
theorem dX12_prior_39 : decode cX12_prior 39 = .ok (.iinc 3 (-1), 3) := by decide +kernel
theorem dX12_prior_42 : decode cX12_prior 42 = .ok (.goto (-18), 3) := by decide +kernel
theorem dX12_prior_45 : decode cX12_prior 45 = .ok (.bipush (-2), 2) := by decide +kernel
theorem dX12_prior_47 : decode cX12_prior 47 = .ok (.ireturn, 1) := by decide +kernel
theorem dX12_differ_0 : decode cX12_differ 0 = .ok (.aload_n 0, 1) := by decide +kernel
theorem dX12_differ_1 : decode cX12_differ 1 = .ok (.iload_n 1, 1) := by decide +kernel
theorem dX12_differ_2 : decode cX12_differ 2 = .ok (.iload_n 2, 1) := by decide +kernel
theorem dX12_differ_3 : decode cX12_differ 3 = .ok (.invokevirtual 340, 3) := by decide +kernel
theorem dX12_differ_6 : decode cX12_differ 6 = .ok (.ifCond .eq 20, 3) := by decide +kernel
theorem dX12_differ_9 : decode cX12_differ 9 = .ok (.aload_n 0, 1) := by decide +kernel
theorem dX12_differ_10 : decode cX12_differ 10 = .ok (.iload_n 3, 1) := by decide +kernel
theorem dX12_differ_11 : decode cX12_differ 11 = .ok (.invokevirtual 334, 3) := by decide +kernel
theorem dX12_differ_14 : decode cX12_differ 14 = .ok (.ifCond .eq 12, 3) := by decide +kernel
theorem dX12_differ_17 : decode cX12_differ 17 = .ok (.aload_n 0, 1) := by decide +kernel
theorem dX12_differ_18 : decode cX12_differ 18 = .ok (.iload 4, 2) := by decide +kernel
theorem dX12_differ_20 : decode cX12_differ 20 = .ok (.invokevirtual 334, 3) := by decide +kernel
theorem dX12_differ_23 : decode cX12_differ 23 = .ok (.ifCond .ne 5, 3) := by decide +kernel
theorem dX12_differ_26 : decode cX12_differ 26 = .ok (.iconst (-1), 1) := by decide +kernel
theorem dX12_differ_27 : decode cX12_differ 27 = .ok (.ireturn, 1) := by decide +kernel
theorem dX12_differ_28 : decode cX12_differ 28 = .ok (.aload_n 0, 1) := by decide +kernel
theorem dX12_differ_29 : decode cX12_differ 29 = .ok (.iload_n 3, 1) := by decide +kernel
theorem dX12_differ_30 : decode cX12_differ 30 = .ok (.invokevirtual 343, 3) := by decide +kernel
theorem dX12_differ_33 : decode cX12_differ 33 = .ok (.iconst 0, 1) := by decide +kernel
theorem dX12_differ_34 : decode cX12_differ 34 = .ok (.istore 5, 2) := by decide +kernel
theorem dX12_differ_36 : decode cX12_differ 36 = .ok (.iload 5, 2) := by decide +kernel
theorem dX12_differ_38 : decode cX12_differ 38 = .ok (.sipush 1000, 3) := by decide +kernel
theorem dX12_differ_41 : decode cX12_differ 41 = .ok (.if_icmp .ge 23, 3) := by decide +kernel
theorem dX12_differ_44 : decode cX12_differ 44 = .ok (.aload_n 0, 1) := by decide +kernel
theorem dX12_differ_45 : decode cX12_differ 45 = .ok (.getfield 95, 3) := by decide +kernel
theorem dX12_differ_48 : decode cX12_differ 48 = .ok (.iload 5, 2) := by decide +kernel
theorem dX12_differ_50 : decode cX12_differ 50 = .ok (.aload_n 0, 1) := by decide +kernel
theorem dX12_differ_51 : decode cX12_differ 51 = .ok (.getfield 92, 3) := by decide +kernel
theorem dX12_differ_54 : decode cX12_differ 54 = .ok (.iload 5, 2) := by decide +kernel
theorem dX12_differ_56 : decode cX12_differ 56 = .ok (.iaload, 1) := by decide +kernel
theorem dX12_differ_57 : decode cX12_differ 57 = .ok (.iastore, 1) := by decide +kernel
theorem dX12_differ_58 : decode cX12_differ 58 = .ok (.iinc 5 1, 3) := by decide +kernel
theorem dX12_differ_61 : decode cX12_differ 61 = .ok (.goto (-25), 3) := by decide +kernel
theorem dX12_differ_64 : decode cX12_differ 64 = .ok (.aload_n 0, 1) := by decide +kernel
theorem dX12_differ_65 : decode cX12_differ 65 = .ok (.iload 4, 2) := by decide +kernel
theorem dX12_differ_67 : decode cX12_differ 67 = .ok (.invokevirtual 343, 3) := by decide +kernel
theorem dX12_differ_70 : decode cX12_differ 70 = .ok (.iconst 0, 1) := by decide +kernel
theorem dX12_differ_71 : decode cX12_differ 71 = .ok (.istore 5, 2) := by decide +kernel
theorem dX12_differ_73 : decode cX12_differ 73 = .ok (.iload_n 1, 1) := by decide +kernel
theorem dX12_differ_74 : decode cX12_differ 74 = .ok (.istore 6, 2) := by decide +kernel
theorem dX12_differ_76 : decode cX12_differ 76 = .ok (.iload 6, 2) := by decide +kernel
theorem dX12_differ_78 : decode cX12_differ 78 = .ok (.iload_n 2, 1) := by decide +kernel
theorem dX12_differ_79 : decode cX12_differ 79 = .ok (.if_icmp .gt 79, 3) := by decide +kernel
theorem dX12_differ_82 : decode cX12_differ 82 = .ok (.aload_n 0, 1) := by decide +kernel
theorem dX12_differ_83 : decode cX12_differ 83 = .ok (.getfield 92, 3) := by decide +kernel
theorem dX12_differ_86 : decode cX12_differ 86 = .ok (.iload 6, 2) := by decide +kernel
theorem dX12_differ_88 : decode cX12_differ 88 = .ok (.iaload, 1) := by decide +kernel
theorem dX12_differ_89 : decode cX12_differ 89 = .ok (.istore 7, 2) := by decide +kernel
theorem dX12_differ_91 : decode cX12_differ 91 = .ok (.aload_n 0, 1) := by decide +kernel
theorem dX12_differ_92 : decode cX12_differ 92 = .ok (.getfield 95, 3) := by decide +kernel
theorem dX12_differ_95 : decode cX12_differ 95 = .ok (.iload 6, 2) := by decide +kernel
theorem dX12_differ_97 : decode cX12_differ 97 = .ok (.iaload, 1) := by decide +kernel
theorem dX12_differ_98 : decode cX12_differ 98 = .ok (.istore 8, 2) := by decide +kernel
theorem dX12_differ_100 : decode cX12_differ 100 = .ok (.iload 7, 2) := by decide +kernel
theorem dX12_differ_102 : decode cX12_differ 102 = .ok (.ifCond .ge 7, 3) := by decide +kernel
theorem dX12_differ_105 : decode cX12_differ 105 = .ok (.iconst 1, 1) := by decide +kernel
theorem dX12_differ_106 : decode cX12_differ 106 = .ok (.goto 4, 3) := by decide +kernel
theorem dX12_differ_109 : decode cX12_differ 109 = .ok (.iconst 0, 1) := by decide +kernel
theorem dX12_differ_110 : decode cX12_differ 110 = .ok (.iload 8, 2) := by decide +kernel
theorem dX12_differ_112 : decode cX12_differ 112 = .ok (.ifCond .ge 7, 3) := by decide +kernel
theorem dX12_differ_115 : decode cX12_differ 115 = .ok (.iconst 1, 1) := by decide +kernel
theorem dX12_differ_116 : decode cX12_differ 116 = .ok (.goto 4, 3) := by decide +kernel
theorem dX12_differ_119 : decode cX12_differ 119 = .ok (.iconst 0, 1) := by decide +kernel
theorem dX12_differ_120 : decode cX12_differ 120 = .ok (.if_icmp .ne 29, 3) := by decide +kernel
theorem dX12_differ_123 : decode cX12_differ 123 = .ok (.iload 7, 2) := by decide +kernel
theorem dX12_differ_125 : decode cX12_differ 125 = .ok (.ifCond .lt 27, 3) := by decide +kernel
theorem dX12_differ_128 : decode cX12_differ 128 = .ok (.aload_n 0, 1) := by decide +kernel
theorem dX12_differ_129 : decode cX12_differ 129 = .ok (.getfield 77, 3) := by decide +kernel
theorem dX12_differ_132 : decode cX12_differ 132 = .ok (.iload 7, 2) := by decide +kernel
theorem dX12_differ_134 : decode cX12_differ 134 = .ok (.iconst 3, 1) := by decide +kernel
theorem dX12_differ_135 : decode cX12_differ 135 = .ok (.iadd, 1) := by decide +kernel
theorem dX12_differ_136 : decode cX12_differ 136 = .ok (.iaload, 1) := by decide +kernel
theorem dX12_differ_137 : decode cX12_differ 137 = .ok (.aload_n 0, 1) := by decide +kernel
theorem dX12_differ_138 : decode cX12_differ 138 = .ok (.getfield 77, 3) := by decide +kernel
theorem dX12_differ_141 : decode cX12_differ 141 = .ok (.iload 8, 2) := by decide +kernel
theorem dX12_differ_143 : decode cX12_differ 143 = .ok (.iconst 3, 1) := by decide +kernel
theorem dX12_differ_144 : decode cX12_differ 144 = .ok (.iadd, 1) := by decide +kernel
theorem dX12_differ_145 : decode cX12_differ 145 = .ok (.iaload, 1) := by decide +kernel
theorem dX12_differ_146 : decode cX12_differ 146 = .ok (.if_icmp .eq 6, 3) := by decide +kernel
theorem dX12_differ_149 : decode cX12_differ 149 = .ok (.iinc 5 1, 3) := by decide +kernel
theorem dX12_differ_152 : decode cX12_differ 152 = .ok (.iinc 6 1, 3) := by decide +kernel
theorem dX12_differ_155 : decode cX12_differ 155 = .ok (.goto (-79), 3) := by decide +kernel
theorem dX12_differ_158 : decode cX12_differ 158 = .ok (.iload 5, 2) := by decide +kernel
theorem dX12_differ_160 : decode cX12_differ 160 = .ok (.ireturn, 1) := by decide +kernel
theorem dX12_areTimes_0 : decode cX12_areTimes 0 = .ok (.aload_n 0, 1) := by decide +kernel
theorem dX12_areTimes_1 : decode cX12_areTimes 1 = .ok (.iload_n 1, 1) := by decide +kernel
theorem dX12_areTimes_2 : decode cX12_areTimes 2 = .ok (.invokevirtual 334, 3) := by decide +kernel
theorem dX12_areTimes_5 : decode cX12_areTimes 5 = .ok (.ifCond .eq 20, 3) := by decide +kernel
theorem dX12_areTimes_8 : decode cX12_areTimes 8 = .ok (.aload_n 0, 1) := by decide +kernel
theorem dX12_areTimes_9 : decode cX12_areTimes 9 = .ok (.iload_n 2, 1) := by decide +kernel
theorem dX12_areTimes_10 : decode cX12_areTimes 10 = .ok (.invokevirtual 334, 3) := by decide +kernel
theorem dX12_areTimes_13 : decode cX12_areTimes 13 = .ok (.ifCond .eq 12, 3) := by decide +kernel
theorem dX12_areTimes_16 : decode cX12_areTimes 16 = .ok (.iload_n 2, 1) := by decide +kernel
theorem dX12_areTimes_17 : decode cX12_areTimes 17 = .ok (.iload_n 1, 1) := by decide +kernel
theorem dX12_areTimes_18 : decode cX12_areTimes 18 = .ok (.if_icmp .lt 7, 3) := by decide +kernel
theorem dX12_areTimes_21 : decode cX12_areTimes 21 = .ok (.iconst 1, 1) := by decide +kernel
theorem dX12_areTimes_22 : decode cX12_areTimes 22 = .ok (.goto 4, 3) := by decide +kernel
theorem dX12_areTimes_25 : decode cX12_areTimes 25 = .ok (.iconst 0, 1) := by decide +kernel
theorem dX12_areTimes_26 : decode cX12_areTimes 26 = .ok (.ireturn, 1) := by decide +kernel
theorem dX12_ever_0 : decode cX12_ever 0 = .ok (.aload_n 0, 1) := by decide +kernel
theorem dX12_ever_1 : decode cX12_ever 1 = .ok (.iload_n 1, 1) := by decide +kernel
theorem dX12_ever_2 : decode cX12_ever 2 = .ok (.iload_n 2, 1) := by decide +kernel
theorem dX12_ever_3 : decode cX12_ever 3 = .ok (.invokevirtual 340, 3) := by decide +kernel
theorem dX12_ever_6 : decode cX12_ever 6 = .ok (.ifCond .eq 13, 3) := by decide +kernel
theorem dX12_ever_9 : decode cX12_ever 9 = .ok (.aload_n 0, 1) := by decide +kernel
theorem dX12_ever_10 : decode cX12_ever 10 = .ok (.iload_n 3, 1) := by decide +kernel
theorem dX12_ever_11 : decode cX12_ever 11 = .ok (.iload 4, 2) := by decide +kernel
theorem dX12_ever_13 : decode cX12_ever 13 = .ok (.invokevirtual 346, 3) := by decide +kernel
theorem dX12_ever_16 : decode cX12_ever 16 = .ok (.ifCond .ne 5, 3) := by decide +kernel
theorem dX12_ever_19 : decode cX12_ever 19 = .ok (.iconst (-1), 1) := by decide +kernel
theorem dX12_ever_20 : decode cX12_ever 20 = .ok (.ireturn, 1) := by decide +kernel
theorem dX12_ever_21 : decode cX12_ever 21 = .ok (.iconst 0, 1) := by decide +kernel
theorem dX12_ever_22 : decode cX12_ever 22 = .ok (.istore 5, 2) := by decide +kernel
theorem dX12_ever_24 : decode cX12_ever 24 = .ok (.iload 5, 2) := by decide +kernel
theorem dX12_ever_26 : decode cX12_ever 26 = .ok (.sipush 1000, 3) := by decide +kernel
theorem dX12_ever_29 : decode cX12_ever 29 = .ok (.if_icmp .ge 17, 3) := by decide +kernel
theorem dX12_ever_32 : decode cX12_ever 32 = .ok (.aload_n 0, 1) := by decide +kernel
theorem dX12_ever_33 : decode cX12_ever 33 = .ok (.getfield 92, 3) := by decide +kernel
theorem dX12_ever_36 : decode cX12_ever 36 = .ok (.iload 5, 2) := by decide +kernel
theorem dX12_ever_38 : decode cX12_ever 38 = .ok (.iconst (-1), 1) := by decide +kernel
theorem dX12_ever_39 : decode cX12_ever 39 = .ok (.iastore, 1) := by decide +kernel
theorem dX12_ever_40 : decode cX12_ever 40 = .ok (.iinc 5 1, 3) := by decide +kernel
theorem dX12_ever_43 : decode cX12_ever 43 = .ok (.goto (-19), 3) := by decide +kernel
theorem dX12_ever_46 : decode cX12_ever 46 = .ok (.sipush 18100, 3) := by decide +kernel
theorem dX12_ever_49 : decode cX12_ever 49 = .ok (.istore 5, 2) := by decide +kernel
theorem dX12_ever_51 : decode cX12_ever 51 = .ok (.iload 5, 2) := by decide +kernel
theorem dX12_ever_53 : decode cX12_ever 53 = .ok (.sipush 18100, 3) := by decide +kernel
theorem dX12_ever_56 : decode cX12_ever 56 = .ok (.iconst 4, 1) := by decide +kernel
theorem dX12_ever_57 : decode cX12_ever 57 = .ok (.aload_n 0, 1) := by decide +kernel
theorem dX12_ever_58 : decode cX12_ever 58 = .ok (.getfield 77, 3) := by decide +kernel
theorem dX12_ever_61 : decode cX12_ever 61 = .ok (.iconst 4, 1) := by decide +kernel
theorem dX12_ever_62 : decode cX12_ever 62 = .ok (.iaload, 1) := by decide +kernel
theorem dX12_ever_63 : decode cX12_ever 63 = .ok (.imul, 1) := by decide +kernel
theorem dX12_ever_64 : decode cX12_ever 64 = .ok (.iadd, 1) := by decide +kernel
theorem dX12_ever_65 : decode cX12_ever 65 = .ok (.if_icmp .ge 64, 3) := by decide +kernel
theorem dX12_ever_68 : decode cX12_ever 68 = .ok (.aload_n 0, 1) := by decide +kernel
theorem dX12_ever_69 : decode cX12_ever 69 = .ok (.getfield 77, 3) := by decide +kernel
theorem dX12_ever_72 : decode cX12_ever 72 = .ok (.iload 5, 2) := by decide +kernel
theorem dX12_ever_74 : decode cX12_ever 74 = .ok (.iconst 1, 1) := by decide +kernel
theorem dX12_ever_75 : decode cX12_ever 75 = .ok (.iadd, 1) := by decide +kernel
theorem dX12_ever_76 : decode cX12_ever 76 = .ok (.iaload, 1) := by decide +kernel
theorem dX12_ever_77 : decode cX12_ever 77 = .ok (.iload 4, 2) := by decide +kernel
theorem dX12_ever_79 : decode cX12_ever 79 = .ok (.if_icmp .gt 44, 3) := by decide +kernel
theorem dX12_ever_82 : decode cX12_ever 82 = .ok (.aload_n 0, 1) := by decide +kernel
theorem dX12_ever_83 : decode cX12_ever 83 = .ok (.getfield 77, 3) := by decide +kernel
theorem dX12_ever_86 : decode cX12_ever 86 = .ok (.iload 5, 2) := by decide +kernel
theorem dX12_ever_88 : decode cX12_ever 88 = .ok (.iconst 2, 1) := by decide +kernel
theorem dX12_ever_89 : decode cX12_ever 89 = .ok (.iadd, 1) := by decide +kernel
theorem dX12_ever_90 : decode cX12_ever 90 = .ok (.iaload, 1) := by decide +kernel
theorem dX12_ever_91 : decode cX12_ever 91 = .ok (.bipush (-2), 2) := by decide +kernel
theorem dX12_ever_93 : decode cX12_ever 93 = .ok (.if_icmp .eq 16, 3) := by decide +kernel
theorem dX12_ever_96 : decode cX12_ever 96 = .ok (.aload_n 0, 1) := by decide +kernel
theorem dX12_ever_97 : decode cX12_ever 97 = .ok (.getfield 77, 3) := by decide +kernel
theorem dX12_ever_100 : decode cX12_ever 100 = .ok (.iload 5, 2) := by decide +kernel
theorem dX12_ever_102 : decode cX12_ever 102 = .ok (.iconst 2, 1) := by decide +kernel
theorem dX12_ever_103 : decode cX12_ever 103 = .ok (.iadd, 1) := by decide +kernel
theorem dX12_ever_104 : decode cX12_ever 104 = .ok (.iaload, 1) := by decide +kernel
theorem dX12_ever_105 : decode cX12_ever 105 = .ok (.iload_n 3, 1) := by decide +kernel
theorem dX12_ever_106 : decode cX12_ever 106 = .ok (.if_icmp .le 17, 3) := by decide +kernel
theorem dX12_ever_109 : decode cX12_ever 109 = .ok (.aload_n 0, 1) := by decide +kernel
theorem dX12_ever_110 : decode cX12_ever 110 = .ok (.getfield 92, 3) := by decide +kernel
theorem dX12_ever_113 : decode cX12_ever 113 = .ok (.aload_n 0, 1) := by decide +kernel
theorem dX12_ever_114 : decode cX12_ever 114 = .ok (.getfield 77, 3) := by decide +kernel
theorem dX12_ever_117 : decode cX12_ever 117 = .ok (.iload 5, 2) := by decide +kernel
theorem dX12_ever_119 : decode cX12_ever 119 = .ok (.iaload, 1) := by decide +kernel
theorem dX12_ever_120 : decode cX12_ever 120 = .ok (.iload 5, 2) := by decide +kernel
theorem dX12_ever_122 : decode cX12_ever 122 = .ok (.iastore, 1) := by decide +kernel
theorem dX12_ever_123 : decode cX12_ever 123 = .ok (.iinc 5 4, 3) := by decide +kernel
theorem dX12_ever_126 : decode cX12_ever 126 = .ok (.goto (-75), 3) := by decide +kernel
theorem dX12_ever_129 : decode cX12_ever 129 = .ok (.iconst 0, 1) := by decide +kernel
theorem dX12_ever_130 : decode cX12_ever 130 = .ok (.istore 5, 2) := by decide +kernel
theorem dX12_ever_132 : decode cX12_ever 132 = .ok (.iload_n 1, 1) := by decide +kernel
theorem dX12_ever_133 : decode cX12_ever 133 = .ok (.istore 6, 2) := by decide +kernel
theorem dX12_ever_135 : decode cX12_ever 135 = .ok (.iload 6, 2) := by decide +kernel
theorem dX12_ever_137 : decode cX12_ever 137 = .ok (.iload_n 2, 1) := by decide +kernel
theorem dX12_ever_138 : decode cX12_ever 138 = .ok (.if_icmp .gt 22, 3) := by decide +kernel
theorem dX12_ever_141 : decode cX12_ever 141 = .ok (.aload_n 0, 1) := by decide +kernel
theorem dX12_ever_142 : decode cX12_ever 142 = .ok (.getfield 92, 3) := by decide +kernel
theorem dX12_ever_145 : decode cX12_ever 145 = .ok (.iload 6, 2) := by decide +kernel
theorem dX12_ever_147 : decode cX12_ever 147 = .ok (.iaload, 1) := by decide +kernel
theorem dX12_ever_148 : decode cX12_ever 148 = .ok (.ifCond .lt 6, 3) := by decide +kernel
theorem dX12_ever_151 : decode cX12_ever 151 = .ok (.iinc 5 1, 3) := by decide +kernel
theorem dX12_ever_154 : decode cX12_ever 154 = .ok (.iinc 6 1, 3) := by decide +kernel
theorem dX12_ever_157 : decode cX12_ever 157 = .ok (.goto (-22), 3) := by decide +kernel
theorem dX12_ever_160 : decode cX12_ever 160 = .ok (.iload 5, 2) := by decide +kernel
theorem dX12_ever_162 : decode cX12_ever 162 = .ok (.ireturn, 1) := by decide +kernel
theorem dX12_stay_0 : decode cX12_stay 0 = .ok (.iload_n 1, 1) := by decide +kernel
theorem dX12_stay_1 : decode cX12_stay 1 = .ok (.invokestatic 328, 3) := by decide +kernel
theorem dX12_stay_4 : decode cX12_stay 4 = .ok (.ifCond .eq 12, 3) := by decide +kernel
theorem dX12_stay_7 : decode cX12_stay 7 = .ok (.aload_n 0, 1) := by decide +kernel
theorem dX12_stay_8 : decode cX12_stay 8 = .ok (.iload_n 2, 1) := by decide +kernel
theorem dX12_stay_9 : decode cX12_stay 9 = .ok (.iload_n 3, 1) := by decide +kernel
theorem dX12_stay_10 : decode cX12_stay 10 = .ok (.invokevirtual 346, 3) := by decide +kernel
theorem dX12_stay_13 : decode cX12_stay 13 = .ok (.ifCond .ne 5, 3) := by decide +kernel
theorem dX12_stay_16 : decode cX12_stay 16 = .ok (.iconst (-1), 1) := by decide +kernel
theorem dX12_stay_17 : decode cX12_stay 17 = .ok (.ireturn, 1) := by decide +kernel
theorem dX12_stay_18 : decode cX12_stay 18 = .ok (.iconst 0, 1) := by decide +kernel
theorem dX12_stay_19 : decode cX12_stay 19 = .ok (.istore 4, 2) := by decide +kernel
theorem dX12_stay_21 : decode cX12_stay 21 = .ok (.sipush 18100, 3) := by decide +kernel
theorem dX12_stay_24 : decode cX12_stay 24 = .ok (.istore 5, 2) := by decide +kernel
theorem dX12_stay_26 : decode cX12_stay 26 = .ok (.iload 5, 2) := by decide +kernel
theorem dX12_stay_28 : decode cX12_stay 28 = .ok (.sipush 18100, 3) := by decide +kernel
theorem dX12_stay_31 : decode cX12_stay 31 = .ok (.iconst 4, 1) := by decide +kernel
theorem dX12_stay_32 : decode cX12_stay 32 = .ok (.aload_n 0, 1) := by decide +kernel
theorem dX12_stay_33 : decode cX12_stay 33 = .ok (.getfield 77, 3) := by decide +kernel
theorem dX12_stay_36 : decode cX12_stay 36 = .ok (.iconst 4, 1) := by decide +kernel
theorem dX12_stay_37 : decode cX12_stay 37 = .ok (.iaload, 1) := by decide +kernel
theorem dX12_stay_38 : decode cX12_stay 38 = .ok (.imul, 1) := by decide +kernel
theorem dX12_stay_39 : decode cX12_stay 39 = .ok (.iadd, 1) := by decide +kernel
theorem dX12_stay_40 : decode cX12_stay 40 = .ok (.if_icmp .ge 112, 3) := by decide +kernel
theorem dX12_stay_43 : decode cX12_stay 43 = .ok (.aload_n 0, 1) := by decide +kernel
theorem dX12_stay_44 : decode cX12_stay 44 = .ok (.getfield 77, 3) := by decide +kernel
theorem dX12_stay_47 : decode cX12_stay 47 = .ok (.iload 5, 2) := by decide +kernel
theorem dX12_stay_49 : decode cX12_stay 49 = .ok (.iaload, 1) := by decide +kernel
theorem dX12_stay_50 : decode cX12_stay 50 = .ok (.iload_n 1, 1) := by decide +kernel
theorem dX12_stay_51 : decode cX12_stay 51 = .ok (.if_icmp .eq 6, 3) := by decide +kernel
theorem dX12_stay_54 : decode cX12_stay 54 = .ok (.goto 92, 3) := by decide +kernel
theorem dX12_stay_57 : decode cX12_stay 57 = .ok (.aload_n 0, 1) := by decide +kernel
theorem dX12_stay_58 : decode cX12_stay 58 = .ok (.getfield 77, 3) := by decide +kernel
theorem dX12_stay_61 : decode cX12_stay 61 = .ok (.iload 5, 2) := by decide +kernel
theorem dX12_stay_63 : decode cX12_stay 63 = .ok (.iconst 1, 1) := by decide +kernel
theorem dX12_stay_64 : decode cX12_stay 64 = .ok (.iadd, 1) := by decide +kernel
theorem dX12_stay_65 : decode cX12_stay 65 = .ok (.iaload, 1) := by decide +kernel
theorem dX12_stay_66 : decode cX12_stay 66 = .ok (.iload_n 2, 1) := by decide +kernel
theorem dX12_stay_67 : decode cX12_stay 67 = .ok (.if_icmp .le 15, 3) := by decide +kernel
theorem dX12_stay_70 : decode cX12_stay 70 = .ok (.aload_n 0, 1) := by decide +kernel
theorem dX12_stay_71 : decode cX12_stay 71 = .ok (.getfield 77, 3) := by decide +kernel
theorem dX12_stay_74 : decode cX12_stay 74 = .ok (.iload 5, 2) := by decide +kernel
theorem dX12_stay_76 : decode cX12_stay 76 = .ok (.iconst 1, 1) := by decide +kernel
theorem dX12_stay_77 : decode cX12_stay 77 = .ok (.iadd, 1) := by decide +kernel
theorem dX12_stay_78 : decode cX12_stay 78 = .ok (.iaload, 1) := by decide +kernel
theorem dX12_stay_79 : decode cX12_stay 79 = .ok (.goto 4, 3) := by decide +kernel
theorem dX12_stay_82 : decode cX12_stay 82 = .ok (.iload_n 2, 1) := by decide +kernel
theorem dX12_stay_83 : decode cX12_stay 83 = .ok (.istore 6, 2) := by decide +kernel
theorem dX12_stay_85 : decode cX12_stay 85 = .ok (.aload_n 0, 1) := by decide +kernel
theorem dX12_stay_86 : decode cX12_stay 86 = .ok (.getfield 77, 3) := by decide +kernel
theorem dX12_stay_89 : decode cX12_stay 89 = .ok (.iload 5, 2) := by decide +kernel
theorem dX12_stay_91 : decode cX12_stay 91 = .ok (.iconst 2, 1) := by decide +kernel
theorem dX12_stay_92 : decode cX12_stay 92 = .ok (.iadd, 1) := by decide +kernel
theorem dX12_stay_93 : decode cX12_stay 93 = .ok (.iaload, 1) := by decide +kernel
theorem dX12_stay_94 : decode cX12_stay 94 = .ok (.bipush (-2), 2) := by decide +kernel
theorem dX12_stay_96 : decode cX12_stay 96 = .ok (.if_icmp .eq 16, 3) := by decide +kernel
theorem dX12_stay_99 : decode cX12_stay 99 = .ok (.aload_n 0, 1) := by decide +kernel
theorem dX12_stay_100 : decode cX12_stay 100 = .ok (.getfield 77, 3) := by decide +kernel
theorem dX12_stay_103 : decode cX12_stay 103 = .ok (.iload 5, 2) := by decide +kernel
theorem dX12_stay_105 : decode cX12_stay 105 = .ok (.iconst 2, 1) := by decide +kernel
theorem dX12_stay_106 : decode cX12_stay 106 = .ok (.iadd, 1) := by decide +kernel
theorem dX12_stay_107 : decode cX12_stay 107 = .ok (.iaload, 1) := by decide +kernel
theorem dX12_stay_108 : decode cX12_stay 108 = .ok (.iload_n 3, 1) := by decide +kernel
theorem dX12_stay_109 : decode cX12_stay 109 = .ok (.if_icmp .le 9, 3) := by decide +kernel
theorem dX12_stay_112 : decode cX12_stay 112 = .ok (.iload_n 3, 1) := by decide +kernel
theorem dX12_stay_113 : decode cX12_stay 113 = .ok (.iconst 1, 1) := by decide +kernel
theorem dX12_stay_114 : decode cX12_stay 114 = .ok (.iadd, 1) := by decide +kernel
theorem dX12_stay_115 : decode cX12_stay 115 = .ok (.goto 12, 3) := by decide +kernel
theorem dX12_stay_118 : decode cX12_stay 118 = .ok (.aload_n 0, 1) := by decide +kernel
theorem dX12_stay_119 : decode cX12_stay 119 = .ok (.getfield 77, 3) := by decide +kernel
theorem dX12_stay_122 : decode cX12_stay 122 = .ok (.iload 5, 2) := by decide +kernel
theorem dX12_stay_124 : decode cX12_stay 124 = .ok (.iconst 2, 1) := by decide +kernel
theorem dX12_stay_125 : decode cX12_stay 125 = .ok (.iadd, 1) := by decide +kernel
theorem dX12_stay_126 : decode cX12_stay 126 = .ok (.iaload, 1) := by decide +kernel
theorem dX12_stay_127 : decode cX12_stay 127 = .ok (.istore 7, 2) := by decide +kernel
theorem dX12_stay_129 : decode cX12_stay 129 = .ok (.iload 7, 2) := by decide +kernel
theorem dX12_stay_131 : decode cX12_stay 131 = .ok (.iload 6, 2) := by decide +kernel
theorem dX12_stay_133 : decode cX12_stay 133 = .ok (.if_icmp .le 13, 3) := by decide +kernel
theorem dX12_stay_136 : decode cX12_stay 136 = .ok (.iload 4, 2) := by decide +kernel
theorem dX12_stay_138 : decode cX12_stay 138 = .ok (.iload 7, 2) := by decide +kernel
theorem dX12_stay_140 : decode cX12_stay 140 = .ok (.iload 6, 2) := by decide +kernel
theorem dX12_stay_142 : decode cX12_stay 142 = .ok (.isub, 1) := by decide +kernel
theorem dX12_stay_143 : decode cX12_stay 143 = .ok (.iadd, 1) := by decide +kernel
theorem dX12_stay_144 : decode cX12_stay 144 = .ok (.istore 4, 2) := by decide +kernel
theorem dX12_stay_146 : decode cX12_stay 146 = .ok (.iinc 5 4, 3) := by decide +kernel
theorem dX12_stay_149 : decode cX12_stay 149 = .ok (.goto (-123), 3) := by decide +kernel
theorem dX12_stay_152 : decode cX12_stay 152 = .ok (.iload 4, 2) := by decide +kernel
theorem dX12_stay_154 : decode cX12_stay 154 = .ok (.ireturn, 1) := by decide +kernel
theorem dX12_versionsOf_0 : decode cX12_versionsOf 0 = .ok (.iconst 0, 1) := by decide +kernel
theorem dX12_versionsOf_1 : decode cX12_versionsOf 1 = .ok (.istore_n 2, 1) := by decide +kernel
theorem dX12_versionsOf_2 : decode cX12_versionsOf 2 = .ok (.sipush 18100, 3) := by decide +kernel
theorem dX12_versionsOf_5 : decode cX12_versionsOf 5 = .ok (.istore_n 3, 1) := by decide +kernel
theorem dX12_versionsOf_6 : decode cX12_versionsOf 6 = .ok (.iload_n 3, 1) := by decide +kernel
theorem dX12_versionsOf_7 : decode cX12_versionsOf 7 = .ok (.sipush 18100, 3) := by decide +kernel
theorem dX12_versionsOf_10 : decode cX12_versionsOf 10 = .ok (.iconst 4, 1) := by decide +kernel
theorem dX12_versionsOf_11 : decode cX12_versionsOf 11 = .ok (.aload_n 0, 1) := by decide +kernel
theorem dX12_versionsOf_12 : decode cX12_versionsOf 12 = .ok (.getfield 77, 3) := by decide +kernel
theorem dX12_versionsOf_15 : decode cX12_versionsOf 15 = .ok (.iconst 4, 1) := by decide +kernel
theorem dX12_versionsOf_16 : decode cX12_versionsOf 16 = .ok (.iaload, 1) := by decide +kernel
theorem dX12_versionsOf_17 : decode cX12_versionsOf 17 = .ok (.imul, 1) := by decide +kernel
theorem dX12_versionsOf_18 : decode cX12_versionsOf 18 = .ok (.iadd, 1) := by decide +kernel
theorem dX12_versionsOf_19 : decode cX12_versionsOf 19 = .ok (.if_icmp .ge 22, 3) := by decide +kernel
theorem dX12_versionsOf_22 : decode cX12_versionsOf 22 = .ok (.aload_n 0, 1) := by decide +kernel
theorem dX12_versionsOf_23 : decode cX12_versionsOf 23 = .ok (.getfield 77, 3) := by decide +kernel
theorem dX12_versionsOf_26 : decode cX12_versionsOf 26 = .ok (.iload_n 3, 1) := by decide +kernel
theorem dX12_versionsOf_27 : decode cX12_versionsOf 27 = .ok (.iaload, 1) := by decide +kernel
theorem dX12_versionsOf_28 : decode cX12_versionsOf 28 = .ok (.iload_n 1, 1) := by decide +kernel
theorem dX12_versionsOf_29 : decode cX12_versionsOf 29 = .ok (.if_icmp .ne 6, 3) := by decide +kernel
theorem dX12_versionsOf_32 : decode cX12_versionsOf 32 = .ok (.iinc 2 1, 3) := by decide +kernel
theorem dX12_versionsOf_35 : decode cX12_versionsOf 35 = .ok (.iinc 3 4, 3) := by decide +kernel
theorem dX12_versionsOf_38 : decode cX12_versionsOf 38 = .ok (.goto (-32), 3) := by decide +kernel
theorem dX12_versionsOf_41 : decode cX12_versionsOf 41 = .ok (.iload_n 2, 1) := by decide +kernel
theorem dX12_versionsOf_42 : decode cX12_versionsOf 42 = .ok (.ireturn, 1) := by decide +kernel
theorem dX12_versions_0 : decode cX12_versions 0 = .ok (.iload_n 1, 1) := by decide +kernel
theorem dX12_versions_1 : decode cX12_versions 1 = .ok (.invokestatic 328, 3) := by decide +kernel
theorem dX12_versions_4 : decode cX12_versions 4 = .ok (.ifCond .eq 11, 3) := by decide +kernel
theorem dX12_versions_7 : decode cX12_versions 7 = .ok (.aload_n 0, 1) := by decide +kernel
theorem dX12_versions_8 : decode cX12_versions 8 = .ok (.iload_n 1, 1) := by decide +kernel
theorem dX12_versions_9 : decode cX12_versions 9 = .ok (.invokevirtual 349, 3) := by decide +kernel
theorem dX12_versions_12 : decode cX12_versions 12 = .ok (.goto 4, 3) := by decide +kernel
theorem dX12_versions_15 : decode cX12_versions 15 = .ok (.iconst (-1), 1) := by decide +kernel
theorem dX12_versions_16 : decode cX12_versions 16 = .ok (.ireturn, 1) := by decide +kernel
theorem dX12_version_0 : decode cX12_version 0 = .ok (.iload_n 1, 1) := by decide +kernel
theorem dX12_version_1 : decode cX12_version 1 = .ok (.invokestatic 328, 3) := by decide +kernel
theorem dX12_version_4 : decode cX12_version 4 = .ok (.ifCond .eq 16, 3) := by decide +kernel
theorem dX12_version_7 : decode cX12_version 7 = .ok (.iload_n 2, 1) := by decide +kernel
theorem dX12_version_8 : decode cX12_version 8 = .ok (.ifCond .lt 12, 3) := by decide +kernel
theorem dX12_version_11 : decode cX12_version 11 = .ok (.iload_n 3, 1) := by decide +kernel
theorem dX12_version_12 : decode cX12_version 12 = .ok (.iconst 0, 1) := by decide +kernel
theorem dX12_version_13 : decode cX12_version 13 = .ok (.iconst 2, 1) := by decide +kernel
theorem dX12_version_14 : decode cX12_version 14 = .ok (.invokestatic 324, 3) := by decide +kernel
theorem dX12_version_17 : decode cX12_version 17 = .ok (.ifCond .ne 7, 3) := by decide +kernel
theorem dX12_version_20 : decode cX12_version 20 = .ok (.sipush (-1000), 3) := by decide +kernel
theorem dX12_version_23 : decode cX12_version 23 = .ok (.ireturn, 1) := by decide +kernel
theorem dX12_version_24 : decode cX12_version 24 = .ok (.iload_n 2, 1) := by decide +kernel
theorem dX12_version_25 : decode cX12_version 25 = .ok (.istore 4, 2) := by decide +kernel
theorem dX12_version_27 : decode cX12_version 27 = .ok (.sipush 18100, 3) := by decide +kernel
theorem dX12_version_30 : decode cX12_version 30 = .ok (.istore 5, 2) := by decide +kernel
theorem dX12_version_32 : decode cX12_version 32 = .ok (.iload 5, 2) := by decide +kernel
theorem dX12_version_34 : decode cX12_version 34 = .ok (.sipush 18100, 3) := by decide +kernel
theorem dX12_version_37 : decode cX12_version 37 = .ok (.iconst 4, 1) := by decide +kernel
theorem dX12_version_38 : decode cX12_version 38 = .ok (.aload_n 0, 1) := by decide +kernel
theorem dX12_version_39 : decode cX12_version 39 = .ok (.getfield 77, 3) := by decide +kernel
theorem dX12_version_42 : decode cX12_version 42 = .ok (.iconst 4, 1) := by decide +kernel
theorem dX12_version_43 : decode cX12_version 43 = .ok (.iaload, 1) := by decide +kernel
theorem dX12_version_44 : decode cX12_version 44 = .ok (.imul, 1) := by decide +kernel
theorem dX12_version_45 : decode cX12_version 45 = .ok (.iadd, 1) := by decide +kernel
theorem dX12_version_46 : decode cX12_version 46 = .ok (.if_icmp .ge 43, 3) := by decide +kernel
theorem dX12_version_49 : decode cX12_version 49 = .ok (.aload_n 0, 1) := by decide +kernel
theorem dX12_version_50 : decode cX12_version 50 = .ok (.getfield 77, 3) := by decide +kernel
theorem dX12_version_53 : decode cX12_version 53 = .ok (.iload 5, 2) := by decide +kernel
theorem dX12_version_55 : decode cX12_version 55 = .ok (.iaload, 1) := by decide +kernel
theorem dX12_version_56 : decode cX12_version 56 = .ok (.iload_n 1, 1) := by decide +kernel
theorem dX12_version_57 : decode cX12_version 57 = .ok (.if_icmp .eq 6, 3) := by decide +kernel
theorem dX12_version_60 : decode cX12_version 60 = .ok (.goto 23, 3) := by decide +kernel
theorem dX12_version_63 : decode cX12_version 63 = .ok (.iload 4, 2) := by decide +kernel
theorem dX12_version_65 : decode cX12_version 65 = .ok (.ifCond .ne 15, 3) := by decide +kernel
theorem dX12_version_68 : decode cX12_version 68 = .ok (.aload_n 0, 1) := by decide +kernel
theorem dX12_version_69 : decode cX12_version 69 = .ok (.getfield 77, 3) := by decide +kernel
theorem dX12_version_72 : decode cX12_version 72 = .ok (.iload 5, 2) := by decide +kernel
theorem dX12_version_74 : decode cX12_version 74 = .ok (.iconst 1, 1) := by decide +kernel
theorem dX12_version_75 : decode cX12_version 75 = .ok (.iadd, 1) := by decide +kernel
theorem dX12_version_76 : decode cX12_version 76 = .ok (.iload_n 3, 1) := by decide +kernel
theorem dX12_version_77 : decode cX12_version 77 = .ok (.iadd, 1) := by decide +kernel
theorem dX12_version_78 : decode cX12_version 78 = .ok (.iaload, 1) := by decide +kernel
theorem dX12_version_79 : decode cX12_version 79 = .ok (.ireturn, 1) := by decide +kernel
theorem dX12_version_80 : decode cX12_version 80 = .ok (.iinc 4 (-1), 3) := by decide +kernel
theorem dX12_version_83 : decode cX12_version 83 = .ok (.iinc 5 4, 3) := by decide +kernel
theorem dX12_version_86 : decode cX12_version 86 = .ok (.goto (-54), 3) := by decide +kernel
theorem dX12_version_89 : decode cX12_version 89 = .ok (.sipush (-1000), 3) := by decide +kernel
theorem dX12_version_92 : decode cX12_version 92 = .ok (.ireturn, 1) := by decide +kernel
theorem dX12_longest_0 : decode cX12_longest 0 = .ok (.iload_n 1, 1) := by decide +kernel
theorem dX12_longest_1 : decode cX12_longest 1 = .ok (.invokestatic 328, 3) := by decide +kernel
theorem dX12_longest_4 : decode cX12_longest 4 = .ok (.ifCond .eq 12, 3) := by decide +kernel
theorem dX12_longest_7 : decode cX12_longest 7 = .ok (.iload_n 2, 1) := by decide +kernel
theorem dX12_longest_8 : decode cX12_longest 8 = .ok (.iconst 0, 1) := by decide +kernel
theorem dX12_longest_9 : decode cX12_longest 9 = .ok (.iconst 1, 1) := by decide +kernel
theorem dX12_longest_10 : decode cX12_longest 10 = .ok (.invokestatic 324, 3) := by decide +kernel
theorem dX12_longest_13 : decode cX12_longest 13 = .ok (.ifCond .ne 5, 3) := by decide +kernel
theorem dX12_longest_16 : decode cX12_longest 16 = .ok (.iconst (-1), 1) := by decide +kernel
theorem dX12_longest_17 : decode cX12_longest 17 = .ok (.ireturn, 1) := by decide +kernel
theorem dX12_longest_18 : decode cX12_longest 18 = .ok (.bipush (-2), 2) := by decide +kernel
theorem dX12_longest_20 : decode cX12_longest 20 = .ok (.istore_n 3, 1) := by decide +kernel
theorem dX12_longest_21 : decode cX12_longest 21 = .ok (.bipush (-2), 2) := by decide +kernel
theorem dX12_longest_23 : decode cX12_longest 23 = .ok (.istore 4, 2) := by decide +kernel
theorem dX12_longest_25 : decode cX12_longest 25 = .ok (.iconst 0, 1) := by decide +kernel
theorem dX12_longest_26 : decode cX12_longest 26 = .ok (.istore 5, 2) := by decide +kernel
theorem dX12_longest_28 : decode cX12_longest 28 = .ok (.sipush 18100, 3) := by decide +kernel
theorem dX12_longest_31 : decode cX12_longest 31 = .ok (.istore 6, 2) := by decide +kernel
theorem dX12_longest_33 : decode cX12_longest 33 = .ok (.iload 6, 2) := by decide +kernel
theorem dX12_longest_35 : decode cX12_longest 35 = .ok (.sipush 18100, 3) := by decide +kernel
theorem dX12_longest_38 : decode cX12_longest 38 = .ok (.iconst 4, 1) := by decide +kernel
theorem dX12_longest_39 : decode cX12_longest 39 = .ok (.aload_n 0, 1) := by decide +kernel
theorem dX12_longest_40 : decode cX12_longest 40 = .ok (.getfield 77, 3) := by decide +kernel
theorem dX12_longest_43 : decode cX12_longest 43 = .ok (.iconst 4, 1) := by decide +kernel
theorem dX12_longest_44 : decode cX12_longest 44 = .ok (.iaload, 1) := by decide +kernel
theorem dX12_longest_45 : decode cX12_longest 45 = .ok (.imul, 1) := by decide +kernel
theorem dX12_longest_46 : decode cX12_longest 46 = .ok (.iadd, 1) := by decide +kernel
theorem dX12_longest_47 : decode cX12_longest 47 = .ok (.if_icmp .ge 86, 3) := by decide +kernel
theorem dX12_longest_50 : decode cX12_longest 50 = .ok (.aload_n 0, 1) := by decide +kernel
theorem dX12_longest_51 : decode cX12_longest 51 = .ok (.getfield 77, 3) := by decide +kernel
theorem dX12_longest_54 : decode cX12_longest 54 = .ok (.iload 6, 2) := by decide +kernel
theorem dX12_longest_56 : decode cX12_longest 56 = .ok (.iaload, 1) := by decide +kernel
theorem dX12_longest_57 : decode cX12_longest 57 = .ok (.iload_n 1, 1) := by decide +kernel
theorem dX12_longest_58 : decode cX12_longest 58 = .ok (.if_icmp .eq 6, 3) := by decide +kernel
theorem dX12_longest_61 : decode cX12_longest 61 = .ok (.goto 66, 3) := by decide +kernel
theorem dX12_longest_64 : decode cX12_longest 64 = .ok (.aload_n 0, 1) := by decide +kernel
theorem dX12_longest_65 : decode cX12_longest 65 = .ok (.getfield 77, 3) := by decide +kernel
theorem dX12_longest_68 : decode cX12_longest 68 = .ok (.iload 6, 2) := by decide +kernel
theorem dX12_longest_70 : decode cX12_longest 70 = .ok (.iconst 2, 1) := by decide +kernel
theorem dX12_longest_71 : decode cX12_longest 71 = .ok (.iadd, 1) := by decide +kernel
theorem dX12_longest_72 : decode cX12_longest 72 = .ok (.iaload, 1) := by decide +kernel
theorem dX12_longest_73 : decode cX12_longest 73 = .ok (.bipush (-2), 2) := by decide +kernel
theorem dX12_longest_75 : decode cX12_longest 75 = .ok (.if_icmp .ne 14, 3) := by decide +kernel
theorem dX12_longest_78 : decode cX12_longest 78 = .ok (.aload_n 0, 1) := by decide +kernel
theorem dX12_longest_79 : decode cX12_longest 79 = .ok (.getfield 77, 3) := by decide +kernel
theorem dX12_longest_82 : decode cX12_longest 82 = .ok (.iconst 0, 1) := by decide +kernel
theorem dX12_longest_83 : decode cX12_longest 83 = .ok (.iaload, 1) := by decide +kernel
theorem dX12_longest_84 : decode cX12_longest 84 = .ok (.iconst 1, 1) := by decide +kernel
theorem dX12_longest_85 : decode cX12_longest 85 = .ok (.iadd, 1) := by decide +kernel
theorem dX12_longest_86 : decode cX12_longest 86 = .ok (.goto 12, 3) := by decide +kernel
theorem dX12_longest_89 : decode cX12_longest 89 = .ok (.aload_n 0, 1) := by decide +kernel
theorem dX12_longest_90 : decode cX12_longest 90 = .ok (.getfield 77, 3) := by decide +kernel
theorem dX12_longest_93 : decode cX12_longest 93 = .ok (.iload 6, 2) := by decide +kernel
theorem dX12_longest_95 : decode cX12_longest 95 = .ok (.iconst 2, 1) := by decide +kernel
theorem dX12_longest_96 : decode cX12_longest 96 = .ok (.iadd, 1) := by decide +kernel
theorem dX12_longest_97 : decode cX12_longest 97 = .ok (.iaload, 1) := by decide +kernel
theorem dX12_longest_98 : decode cX12_longest 98 = .ok (.aload_n 0, 1) := by decide +kernel
theorem dX12_longest_99 : decode cX12_longest 99 = .ok (.getfield 77, 3) := by decide +kernel
theorem dX12_longest_102 : decode cX12_longest 102 = .ok (.iload 6, 2) := by decide +kernel
theorem dX12_longest_104 : decode cX12_longest 104 = .ok (.iconst 1, 1) := by decide +kernel
theorem dX12_longest_105 : decode cX12_longest 105 = .ok (.iadd, 1) := by decide +kernel
theorem dX12_longest_106 : decode cX12_longest 106 = .ok (.iaload, 1) := by decide +kernel
theorem dX12_longest_107 : decode cX12_longest 107 = .ok (.isub, 1) := by decide +kernel
theorem dX12_longest_108 : decode cX12_longest 108 = .ok (.istore 7, 2) := by decide +kernel
theorem dX12_longest_110 : decode cX12_longest 110 = .ok (.iload 7, 2) := by decide +kernel
theorem dX12_longest_112 : decode cX12_longest 112 = .ok (.iload 4, 2) := by decide +kernel
theorem dX12_longest_114 : decode cX12_longest 114 = .ok (.if_icmp .le 10, 3) := by decide +kernel
theorem dX12_longest_117 : decode cX12_longest 117 = .ok (.iload 5, 2) := by decide +kernel
theorem dX12_longest_119 : decode cX12_longest 119 = .ok (.istore_n 3, 1) := by decide +kernel
theorem dX12_longest_120 : decode cX12_longest 120 = .ok (.iload 7, 2) := by decide +kernel
theorem dX12_longest_122 : decode cX12_longest 122 = .ok (.istore 4, 2) := by decide +kernel
theorem dX12_longest_124 : decode cX12_longest 124 = .ok (.iinc 5 1, 3) := by decide +kernel
theorem dX12_longest_127 : decode cX12_longest 127 = .ok (.iinc 6 4, 3) := by decide +kernel
theorem dX12_longest_130 : decode cX12_longest 130 = .ok (.goto (-97), 3) := by decide +kernel
theorem dX12_longest_133 : decode cX12_longest 133 = .ok (.iload_n 2, 1) := by decide +kernel
theorem dX12_longest_134 : decode cX12_longest 134 = .ok (.ifCond .ne 7, 3) := by decide +kernel
theorem dX12_longest_137 : decode cX12_longest 137 = .ok (.iload_n 3, 1) := by decide +kernel
theorem dX12_longest_138 : decode cX12_longest 138 = .ok (.goto 5, 3) := by decide +kernel
theorem dX12_longest_141 : decode cX12_longest 141 = .ok (.iload 4, 2) := by decide +kernel
theorem dX12_longest_143 : decode cX12_longest 143 = .ok (.ireturn, 1) := by decide +kernel
theorem dX12_busiest_0 : decode cX12_busiest 0 = .ok (.aload_n 0, 1) := by decide +kernel
theorem dX12_busiest_1 : decode cX12_busiest 1 = .ok (.iload_n 1, 1) := by decide +kernel
theorem dX12_busiest_2 : decode cX12_busiest 2 = .ok (.iload_n 2, 1) := by decide +kernel
theorem dX12_busiest_3 : decode cX12_busiest 3 = .ok (.invokevirtual 340, 3) := by decide +kernel
theorem dX12_busiest_6 : decode cX12_busiest 6 = .ok (.ifCond .eq 12, 3) := by decide +kernel
theorem dX12_busiest_9 : decode cX12_busiest 9 = .ok (.iload_n 3, 1) := by decide +kernel
theorem dX12_busiest_10 : decode cX12_busiest 10 = .ok (.iconst 0, 1) := by decide +kernel
theorem dX12_busiest_11 : decode cX12_busiest 11 = .ok (.iconst 1, 1) := by decide +kernel
theorem dX12_busiest_12 : decode cX12_busiest 12 = .ok (.invokestatic 324, 3) := by decide +kernel
theorem dX12_busiest_15 : decode cX12_busiest 15 = .ok (.ifCond .ne 5, 3) := by decide +kernel
theorem dX12_busiest_18 : decode cX12_busiest 18 = .ok (.iconst (-1), 1) := by decide +kernel
theorem dX12_busiest_19 : decode cX12_busiest 19 = .ok (.ireturn, 1) := by decide +kernel
theorem dX12_busiest_20 : decode cX12_busiest 20 = .ok (.iconst 0, 1) := by decide +kernel
theorem dX12_busiest_21 : decode cX12_busiest 21 = .ok (.istore 4, 2) := by decide +kernel
theorem dX12_busiest_23 : decode cX12_busiest 23 = .ok (.iload 4, 2) := by decide +kernel
theorem dX12_busiest_25 : decode cX12_busiest 25 = .ok (.sipush 1000, 3) := by decide +kernel
theorem dX12_busiest_28 : decode cX12_busiest 28 = .ok (.if_icmp .ge 17, 3) := by decide +kernel
theorem dX12_busiest_31 : decode cX12_busiest 31 = .ok (.aload_n 0, 1) := by decide +kernel
theorem dX12_busiest_32 : decode cX12_busiest 32 = .ok (.getfield 92, 3) := by decide +kernel
theorem dX12_busiest_35 : decode cX12_busiest 35 = .ok (.iload 4, 2) := by decide +kernel
theorem dX12_busiest_37 : decode cX12_busiest 37 = .ok (.iconst 0, 1) := by decide +kernel
theorem dX12_busiest_38 : decode cX12_busiest 38 = .ok (.iastore, 1) := by decide +kernel
theorem dX12_busiest_39 : decode cX12_busiest 39 = .ok (.iinc 4 1, 3) := by decide +kernel
theorem dX12_busiest_42 : decode cX12_busiest 42 = .ok (.goto (-19), 3) := by decide +kernel
theorem dX12_busiest_45 : decode cX12_busiest 45 = .ok (.sipush 18100, 3) := by decide +kernel
theorem dX12_busiest_48 : decode cX12_busiest 48 = .ok (.istore 4, 2) := by decide +kernel
theorem dX12_busiest_50 : decode cX12_busiest 50 = .ok (.iload 4, 2) := by decide +kernel
theorem dX12_busiest_52 : decode cX12_busiest 52 = .ok (.sipush 18100, 3) := by decide +kernel
theorem dX12_busiest_55 : decode cX12_busiest 55 = .ok (.iconst 4, 1) := by decide +kernel
theorem dX12_busiest_56 : decode cX12_busiest 56 = .ok (.aload_n 0, 1) := by decide +kernel
theorem dX12_busiest_57 : decode cX12_busiest 57 = .ok (.getfield 77, 3) := by decide +kernel
theorem dX12_busiest_60 : decode cX12_busiest 60 = .ok (.iconst 4, 1) := by decide +kernel
theorem dX12_busiest_61 : decode cX12_busiest 61 = .ok (.iaload, 1) := by decide +kernel
theorem dX12_busiest_62 : decode cX12_busiest 62 = .ok (.imul, 1) := by decide +kernel
theorem dX12_busiest_63 : decode cX12_busiest 63 = .ok (.iadd, 1) := by decide +kernel
theorem dX12_busiest_64 : decode cX12_busiest 64 = .ok (.if_icmp .ge 25, 3) := by decide +kernel
theorem dX12_busiest_67 : decode cX12_busiest 67 = .ok (.aload_n 0, 1) := by decide +kernel
theorem dX12_busiest_68 : decode cX12_busiest 68 = .ok (.getfield 92, 3) := by decide +kernel
theorem dX12_busiest_71 : decode cX12_busiest 71 = .ok (.aload_n 0, 1) := by decide +kernel
theorem dX12_busiest_72 : decode cX12_busiest 72 = .ok (.getfield 77, 3) := by decide +kernel
theorem dX12_busiest_75 : decode cX12_busiest 75 = .ok (.iload 4, 2) := by decide +kernel
theorem dX12_busiest_77 : decode cX12_busiest 77 = .ok (.iaload, 1) := by decide +kernel
theorem dX12_busiest_78 : decode cX12_busiest 78 = .ok (.dup2, 1) := by decide +kernel
theorem dX12_busiest_79 : decode cX12_busiest 79 = .ok (.iaload, 1) := by decide +kernel
theorem dX12_busiest_80 : decode cX12_busiest 80 = .ok (.iconst 1, 1) := by decide +kernel
theorem dX12_busiest_81 : decode cX12_busiest 81 = .ok (.iadd, 1) := by decide +kernel
theorem dX12_busiest_82 : decode cX12_busiest 82 = .ok (.iastore, 1) := by decide +kernel
theorem dX12_busiest_83 : decode cX12_busiest 83 = .ok (.iinc 4 4, 3) := by decide +kernel
theorem dX12_busiest_86 : decode cX12_busiest 86 = .ok (.goto (-36), 3) := by decide +kernel
theorem dX12_busiest_89 : decode cX12_busiest 89 = .ok (.bipush (-2), 2) := by decide +kernel
theorem dX12_busiest_91 : decode cX12_busiest 91 = .ok (.istore 4, 2) := by decide +kernel
theorem dX12_busiest_93 : decode cX12_busiest 93 = .ok (.iload_n 1, 1) := by decide +kernel
theorem dX12_busiest_94 : decode cX12_busiest 94 = .ok (.istore 5, 2) := by decide +kernel
theorem dX12_busiest_96 : decode cX12_busiest 96 = .ok (.iload 5, 2) := by decide +kernel
theorem dX12_busiest_98 : decode cX12_busiest 98 = .ok (.iload_n 2, 1) := by decide +kernel
theorem dX12_busiest_99 : decode cX12_busiest 99 = .ok (.if_icmp .gt 45, 3) := by decide +kernel
theorem dX12_busiest_102 : decode cX12_busiest 102 = .ok (.aload_n 0, 1) := by decide +kernel
theorem dX12_busiest_103 : decode cX12_busiest 103 = .ok (.getfield 92, 3) := by decide +kernel
theorem dX12_busiest_106 : decode cX12_busiest 106 = .ok (.iload 5, 2) := by decide +kernel
theorem dX12_busiest_108 : decode cX12_busiest 108 = .ok (.iaload, 1) := by decide +kernel
theorem dX12_busiest_109 : decode cX12_busiest 109 = .ok (.ifCond .le 29, 3) := by decide +kernel
theorem dX12_busiest_112 : decode cX12_busiest 112 = .ok (.iload 4, 2) := by decide +kernel
theorem dX12_busiest_114 : decode cX12_busiest 114 = .ok (.ifCond .lt 20, 3) := by decide +kernel
theorem dX12_busiest_117 : decode cX12_busiest 117 = .ok (.aload_n 0, 1) := by decide +kernel
theorem dX12_busiest_118 : decode cX12_busiest 118 = .ok (.getfield 92, 3) := by decide +kernel
theorem dX12_busiest_121 : decode cX12_busiest 121 = .ok (.iload 5, 2) := by decide +kernel
theorem dX12_busiest_123 : decode cX12_busiest 123 = .ok (.iaload, 1) := by decide +kernel
theorem dX12_busiest_124 : decode cX12_busiest 124 = .ok (.aload_n 0, 1) := by decide +kernel
theorem dX12_busiest_125 : decode cX12_busiest 125 = .ok (.getfield 92, 3) := by decide +kernel
theorem dX12_busiest_128 : decode cX12_busiest 128 = .ok (.iload 4, 2) := by decide +kernel
theorem dX12_busiest_130 : decode cX12_busiest 130 = .ok (.iaload, 1) := by decide +kernel
theorem dX12_busiest_131 : decode cX12_busiest 131 = .ok (.if_icmp .le 7, 3) := by decide +kernel
theorem dX12_busiest_134 : decode cX12_busiest 134 = .ok (.iload 5, 2) := by decide +kernel
theorem dX12_busiest_136 : decode cX12_busiest 136 = .ok (.istore 4, 2) := by decide +kernel
theorem dX12_busiest_138 : decode cX12_busiest 138 = .ok (.iinc 5 1, 3) := by decide +kernel
theorem dX12_busiest_141 : decode cX12_busiest 141 = .ok (.goto (-45), 3) := by decide +kernel
theorem dX12_busiest_144 : decode cX12_busiest 144 = .ok (.iload 4, 2) := by decide +kernel
theorem dX12_busiest_146 : decode cX12_busiest 146 = .ok (.ifCond .lt 7, 3) := by decide +kernel
theorem dX12_busiest_149 : decode cX12_busiest 149 = .ok (.iload_n 3, 1) := by decide +kernel
theorem dX12_busiest_150 : decode cX12_busiest 150 = .ok (.ifCond .ne 8, 3) := by decide +kernel
theorem dX12_busiest_153 : decode cX12_busiest 153 = .ok (.iload 4, 2) := by decide +kernel
theorem dX12_busiest_155 : decode cX12_busiest 155 = .ok (.goto 10, 3) := by decide +kernel
theorem dX12_busiest_158 : decode cX12_busiest 158 = .ok (.aload_n 0, 1) := by decide +kernel
theorem dX12_busiest_159 : decode cX12_busiest 159 = .ok (.getfield 92, 3) := by decide +kernel
theorem dX12_busiest_162 : decode cX12_busiest 162 = .ok (.iload 4, 2) := by decide +kernel
theorem dX12_busiest_164 : decode cX12_busiest 164 = .ok (.iaload, 1) := by decide +kernel
theorem dX12_busiest_165 : decode cX12_busiest 165 = .ok (.ireturn, 1) := by decide +kernel
theorem dX12_peak_0 : decode cX12_peak 0 = .ok (.aload_n 0, 1) := by decide +kernel
theorem dX12_peak_1 : decode cX12_peak 1 = .ok (.iload_n 1, 1) := by decide +kernel
theorem dX12_peak_2 : decode cX12_peak 2 = .ok (.iload_n 2, 1) := by decide +kernel
theorem dX12_peak_3 : decode cX12_peak 3 = .ok (.invokevirtual 340, 3) := by decide +kernel
theorem dX12_peak_6 : decode cX12_peak 6 = .ok (.ifCond .eq 12, 3) := by decide +kernel
theorem dX12_peak_9 : decode cX12_peak 9 = .ok (.iload_n 3, 1) := by decide +kernel
theorem dX12_peak_10 : decode cX12_peak 10 = .ok (.iconst 0, 1) := by decide +kernel
theorem dX12_peak_11 : decode cX12_peak 11 = .ok (.iconst 1, 1) := by decide +kernel
theorem dX12_peak_12 : decode cX12_peak 12 = .ok (.invokestatic 324, 3) := by decide +kernel
theorem dX12_peak_15 : decode cX12_peak 15 = .ok (.ifCond .ne 5, 3) := by decide +kernel
theorem dX12_peak_18 : decode cX12_peak 18 = .ok (.iconst (-1), 1) := by decide +kernel
theorem dX12_peak_19 : decode cX12_peak 19 = .ok (.ireturn, 1) := by decide +kernel
theorem dX12_peak_20 : decode cX12_peak 20 = .ok (.iconst 0, 1) := by decide +kernel
theorem dX12_peak_21 : decode cX12_peak 21 = .ok (.istore 4, 2) := by decide +kernel
theorem dX12_peak_23 : decode cX12_peak 23 = .ok (.iconst 0, 1) := by decide +kernel
theorem dX12_peak_24 : decode cX12_peak 24 = .ok (.istore 5, 2) := by decide +kernel
theorem dX12_peak_26 : decode cX12_peak 26 = .ok (.iconst 0, 1) := by decide +kernel
theorem dX12_peak_27 : decode cX12_peak 27 = .ok (.istore 6, 2) := by decide +kernel
theorem dX12_peak_29 : decode cX12_peak 29 = .ok (.iconst 0, 1) := by decide +kernel
theorem dX12_peak_30 : decode cX12_peak 30 = .ok (.istore 7, 2) := by decide +kernel
theorem dX12_peak_32 : decode cX12_peak 32 = .ok (.iload 7, 2) := by decide +kernel
theorem dX12_peak_34 : decode cX12_peak 34 = .ok (.sipush 7800, 3) := by decide +kernel
theorem dX12_peak_37 : decode cX12_peak 37 = .ok (.if_icmp .ge 17, 3) := by decide +kernel
theorem dX12_peak_40 : decode cX12_peak 40 = .ok (.aload_n 0, 1) := by decide +kernel
theorem dX12_peak_41 : decode cX12_peak 41 = .ok (.getfield 98, 3) := by decide +kernel
theorem dX12_peak_44 : decode cX12_peak 44 = .ok (.iload 7, 2) := by decide +kernel
theorem dX12_peak_46 : decode cX12_peak 46 = .ok (.iconst 0, 1) := by decide +kernel
theorem dX12_peak_47 : decode cX12_peak 47 = .ok (.iastore, 1) := by decide +kernel
theorem dX12_peak_48 : decode cX12_peak 48 = .ok (.iinc 7 1, 3) := by decide +kernel
theorem dX12_peak_51 : decode cX12_peak 51 = .ok (.goto (-19), 3) := by decide +kernel
theorem dX12_peak_54 : decode cX12_peak 54 = .ok (.sipush 18100, 3) := by decide +kernel
theorem dX12_peak_57 : decode cX12_peak 57 = .ok (.istore 7, 2) := by decide +kernel
theorem dX12_peak_59 : decode cX12_peak 59 = .ok (.iload 7, 2) := by decide +kernel
theorem dX12_peak_61 : decode cX12_peak 61 = .ok (.sipush 18100, 3) := by decide +kernel
theorem dX12_peak_64 : decode cX12_peak 64 = .ok (.iconst 4, 1) := by decide +kernel
theorem dX12_peak_65 : decode cX12_peak 65 = .ok (.aload_n 0, 1) := by decide +kernel
theorem dX12_peak_66 : decode cX12_peak 66 = .ok (.getfield 77, 3) := by decide +kernel
theorem dX12_peak_69 : decode cX12_peak 69 = .ok (.iconst 4, 1) := by decide +kernel
theorem dX12_peak_70 : decode cX12_peak 70 = .ok (.iaload, 1) := by decide +kernel
theorem dX12_peak_71 : decode cX12_peak 71 = .ok (.imul, 1) := by decide +kernel
theorem dX12_peak_72 : decode cX12_peak 72 = .ok (.iadd, 1) := by decide +kernel
theorem dX12_peak_73 : decode cX12_peak 73 = .ok (.if_icmp .ge 77, 3) := by decide +kernel
theorem dX12_peak_76 : decode cX12_peak 76 = .ok (.aload_n 0, 1) := by decide +kernel
theorem dX12_peak_77 : decode cX12_peak 77 = .ok (.getfield 77, 3) := by decide +kernel
theorem dX12_peak_80 : decode cX12_peak 80 = .ok (.iload 7, 2) := by decide +kernel
theorem dX12_peak_82 : decode cX12_peak 82 = .ok (.iaload, 1) := by decide +kernel
theorem dX12_peak_83 : decode cX12_peak 83 = .ok (.iload_n 1, 1) := by decide +kernel
theorem dX12_peak_84 : decode cX12_peak 84 = .ok (.iload_n 2, 1) := by decide +kernel
theorem dX12_peak_85 : decode cX12_peak 85 = .ok (.invokestatic 324, 3) := by decide +kernel
theorem dX12_peak_88 : decode cX12_peak 88 = .ok (.ifCond .ne 6, 3) := by decide +kernel
theorem dX12_peak_91 : decode cX12_peak 91 = .ok (.goto 53, 3) := by decide +kernel
theorem dX12_peak_94 : decode cX12_peak 94 = .ok (.aload_n 0, 1) := by decide +kernel
theorem dX12_peak_95 : decode cX12_peak 95 = .ok (.getfield 98, 3) := by decide +kernel
theorem dX12_peak_98 : decode cX12_peak 98 = .ok (.aload_n 0, 1) := by decide +kernel
theorem dX12_peak_99 : decode cX12_peak 99 = .ok (.getfield 77, 3) := by decide +kernel
theorem dX12_peak_102 : decode cX12_peak 102 = .ok (.iload 7, 2) := by decide +kernel
theorem dX12_peak_104 : decode cX12_peak 104 = .ok (.iconst 1, 1) := by decide +kernel
theorem dX12_peak_105 : decode cX12_peak 105 = .ok (.iadd, 1) := by decide +kernel
theorem dX12_peak_106 : decode cX12_peak 106 = .ok (.iaload, 1) := by decide +kernel
theorem dX12_peak_107 : decode cX12_peak 107 = .ok (.dup2, 1) := by decide +kernel
theorem dX12_peak_108 : decode cX12_peak 108 = .ok (.iaload, 1) := by decide +kernel
theorem dX12_peak_109 : decode cX12_peak 109 = .ok (.iconst 1, 1) := by decide +kernel
theorem dX12_peak_110 : decode cX12_peak 110 = .ok (.iadd, 1) := by decide +kernel
theorem dX12_peak_111 : decode cX12_peak 111 = .ok (.iastore, 1) := by decide +kernel
theorem dX12_peak_112 : decode cX12_peak 112 = .ok (.aload_n 0, 1) := by decide +kernel
theorem dX12_peak_113 : decode cX12_peak 113 = .ok (.getfield 77, 3) := by decide +kernel
theorem dX12_peak_116 : decode cX12_peak 116 = .ok (.iload 7, 2) := by decide +kernel
theorem dX12_peak_118 : decode cX12_peak 118 = .ok (.iconst 2, 1) := by decide +kernel
theorem dX12_peak_119 : decode cX12_peak 119 = .ok (.iadd, 1) := by decide +kernel
theorem dX12_peak_120 : decode cX12_peak 120 = .ok (.iaload, 1) := by decide +kernel
theorem dX12_peak_121 : decode cX12_peak 121 = .ok (.bipush (-2), 2) := by decide +kernel
theorem dX12_peak_123 : decode cX12_peak 123 = .ok (.if_icmp .eq 21, 3) := by decide +kernel
theorem dX12_peak_126 : decode cX12_peak 126 = .ok (.aload_n 0, 1) := by decide +kernel
theorem dX12_peak_127 : decode cX12_peak 127 = .ok (.getfield 98, 3) := by decide +kernel
theorem dX12_peak_130 : decode cX12_peak 130 = .ok (.aload_n 0, 1) := by decide +kernel
theorem dX12_peak_131 : decode cX12_peak 131 = .ok (.getfield 77, 3) := by decide +kernel
theorem dX12_peak_134 : decode cX12_peak 134 = .ok (.iload 7, 2) := by decide +kernel
theorem dX12_peak_136 : decode cX12_peak 136 = .ok (.iconst 2, 1) := by decide +kernel
theorem dX12_peak_137 : decode cX12_peak 137 = .ok (.iadd, 1) := by decide +kernel
theorem dX12_peak_138 : decode cX12_peak 138 = .ok (.iaload, 1) := by decide +kernel
theorem dX12_peak_139 : decode cX12_peak 139 = .ok (.dup2, 1) := by decide +kernel
theorem dX12_peak_140 : decode cX12_peak 140 = .ok (.iaload, 1) := by decide +kernel
theorem dX12_peak_141 : decode cX12_peak 141 = .ok (.iconst 1, 1) := by decide +kernel
theorem dX12_peak_142 : decode cX12_peak 142 = .ok (.isub, 1) := by decide +kernel
theorem dX12_peak_143 : decode cX12_peak 143 = .ok (.iastore, 1) := by decide +kernel
theorem dX12_peak_144 : decode cX12_peak 144 = .ok (.iinc 7 4, 3) := by decide +kernel
theorem dX12_peak_147 : decode cX12_peak 147 = .ok (.goto (-88), 3) := by decide +kernel
theorem dX12_peak_150 : decode cX12_peak 150 = .ok (.iconst 0, 1) := by decide +kernel
theorem dX12_peak_151 : decode cX12_peak 151 = .ok (.istore 7, 2) := by decide +kernel
theorem dX12_peak_153 : decode cX12_peak 153 = .ok (.iload 7, 2) := by decide +kernel
theorem dX12_peak_155 : decode cX12_peak 155 = .ok (.aload_n 0, 1) := by decide +kernel
theorem dX12_peak_156 : decode cX12_peak 156 = .ok (.getfield 77, 3) := by decide +kernel
theorem dX12_peak_159 : decode cX12_peak 159 = .ok (.iconst 0, 1) := by decide +kernel
theorem dX12_peak_160 : decode cX12_peak 160 = .ok (.iaload, 1) := by decide +kernel
theorem dX12_peak_161 : decode cX12_peak 161 = .ok (.if_icmp .gt 39, 3) := by decide +kernel
theorem dX12_peak_164 : decode cX12_peak 164 = .ok (.iload 6, 2) := by decide +kernel
theorem dX12_peak_166 : decode cX12_peak 166 = .ok (.aload_n 0, 1) := by decide +kernel
theorem dX12_peak_167 : decode cX12_peak 167 = .ok (.getfield 98, 3) := by decide +kernel
theorem dX12_peak_170 : decode cX12_peak 170 = .ok (.iload 7, 2) := by decide +kernel
theorem dX12_peak_172 : decode cX12_peak 172 = .ok (.iaload, 1) := by decide +kernel
theorem dX12_peak_173 : decode cX12_peak 173 = .ok (.iadd, 1) := by decide +kernel
theorem dX12_peak_174 : decode cX12_peak 174 = .ok (.istore 6, 2) := by decide +kernel
theorem dX12_peak_176 : decode cX12_peak 176 = .ok (.iload 6, 2) := by decide +kernel
theorem dX12_peak_178 : decode cX12_peak 178 = .ok (.iload 5, 2) := by decide +kernel
theorem dX12_peak_180 : decode cX12_peak 180 = .ok (.if_icmp .gt 6, 3) := by decide +kernel
theorem dX12_peak_183 : decode cX12_peak 183 = .ok (.goto 11, 3) := by decide +kernel
theorem dX12_peak_186 : decode cX12_peak 186 = .ok (.iload 7, 2) := by decide +kernel
theorem dX12_peak_188 : decode cX12_peak 188 = .ok (.istore 4, 2) := by decide +kernel
theorem dX12_peak_190 : decode cX12_peak 190 = .ok (.iload 6, 2) := by decide +kernel
theorem dX12_peak_192 : decode cX12_peak 192 = .ok (.istore 5, 2) := by decide +kernel
theorem dX12_peak_194 : decode cX12_peak 194 = .ok (.iinc 7 1, 3) := by decide +kernel
theorem dX12_peak_197 : decode cX12_peak 197 = .ok (.goto (-44), 3) := by decide +kernel
theorem dX12_peak_200 : decode cX12_peak 200 = .ok (.iload_n 3, 1) := by decide +kernel
theorem dX12_peak_201 : decode cX12_peak 201 = .ok (.ifCond .ne 8, 3) := by decide +kernel
theorem dX12_peak_204 : decode cX12_peak 204 = .ok (.iload 4, 2) := by decide +kernel
theorem dX12_peak_206 : decode cX12_peak 206 = .ok (.goto 5, 3) := by decide +kernel
theorem dX12_peak_209 : decode cX12_peak 209 = .ok (.iload 5, 2) := by decide +kernel
theorem dX12_peak_211 : decode cX12_peak 211 = .ok (.ireturn, 1) := by decide +kernel
theorem dX12_gap_0 : decode cX12_gap 0 = .ok (.aload_n 0, 1) := by decide +kernel
theorem dX12_gap_1 : decode cX12_gap 1 = .ok (.iload_n 1, 1) := by decide +kernel
theorem dX12_gap_2 : decode cX12_gap 2 = .ok (.invokevirtual 334, 3) := by decide +kernel
theorem dX12_gap_5 : decode cX12_gap 5 = .ok (.ifCond .eq 12, 3) := by decide +kernel
theorem dX12_gap_8 : decode cX12_gap 8 = .ok (.iload_n 2, 1) := by decide +kernel
theorem dX12_gap_9 : decode cX12_gap 9 = .ok (.iconst 0, 1) := by decide +kernel
theorem dX12_gap_10 : decode cX12_gap 10 = .ok (.iconst 1, 1) := by decide +kernel
theorem dX12_gap_11 : decode cX12_gap 11 = .ok (.invokestatic 324, 3) := by decide +kernel
theorem dX12_gap_14 : decode cX12_gap 14 = .ok (.ifCond .ne 5, 3) := by decide +kernel
theorem dX12_gap_17 : decode cX12_gap 17 = .ok (.iconst (-1), 1) := by decide +kernel
theorem dX12_gap_18 : decode cX12_gap 18 = .ok (.ireturn, 1) := by decide +kernel
theorem dX12_gap_19 : decode cX12_gap 19 = .ok (.aload_n 0, 1) := by decide +kernel
theorem dX12_gap_20 : decode cX12_gap 20 = .ok (.iload_n 1, 1) := by decide +kernel
theorem dX12_gap_21 : decode cX12_gap 21 = .ok (.invokevirtual 343, 3) := by decide +kernel
theorem dX12_gap_24 : decode cX12_gap 24 = .ok (.iconst (-1), 1) := by decide +kernel
theorem dX12_gap_25 : decode cX12_gap 25 = .ok (.istore_n 3, 1) := by decide +kernel
theorem dX12_gap_26 : decode cX12_gap 26 = .ok (.bipush (-2), 2) := by decide +kernel
theorem dX12_gap_28 : decode cX12_gap 28 = .ok (.istore 4, 2) := by decide +kernel
theorem dX12_gap_30 : decode cX12_gap 30 = .ok (.bipush (-2), 2) := by decide +kernel
theorem dX12_gap_32 : decode cX12_gap 32 = .ok (.istore 5, 2) := by decide +kernel
theorem dX12_gap_34 : decode cX12_gap 34 = .ok (.iconst 0, 1) := by decide +kernel
theorem dX12_gap_35 : decode cX12_gap 35 = .ok (.istore 6, 2) := by decide +kernel
theorem dX12_gap_37 : decode cX12_gap 37 = .ok (.iload 6, 2) := by decide +kernel
theorem dX12_gap_39 : decode cX12_gap 39 = .ok (.sipush 1000, 3) := by decide +kernel
theorem dX12_gap_42 : decode cX12_gap 42 = .ok (.if_icmp .ge 47, 3) := by decide +kernel
theorem dX12_gap_45 : decode cX12_gap 45 = .ok (.aload_n 0, 1) := by decide +kernel
theorem dX12_gap_46 : decode cX12_gap 46 = .ok (.getfield 92, 3) := by decide +kernel
theorem dX12_gap_49 : decode cX12_gap 49 = .ok (.iload 6, 2) := by decide +kernel
theorem dX12_gap_51 : decode cX12_gap 51 = .ok (.iaload, 1) := by decide +kernel
theorem dX12_gap_52 : decode cX12_gap 52 = .ok (.ifCond .ge 6, 3) := by decide +kernel
theorem dX12_gap_55 : decode cX12_gap 55 = .ok (.goto 28, 3) := by decide +kernel
theorem dX12_gap_58 : decode cX12_gap 58 = .ok (.iload_n 3, 1) := by decide +kernel
theorem dX12_gap_59 : decode cX12_gap 59 = .ok (.ifCond .lt 21, 3) := by decide +kernel
theorem dX12_gap_62 : decode cX12_gap 62 = .ok (.iload 6, 2) := by decide +kernel
theorem dX12_gap_64 : decode cX12_gap 64 = .ok (.iload_n 3, 1) := by decide +kernel
theorem dX12_gap_65 : decode cX12_gap 65 = .ok (.isub, 1) := by decide +kernel
theorem dX12_gap_66 : decode cX12_gap 66 = .ok (.iload 5, 2) := by decide +kernel
theorem dX12_gap_68 : decode cX12_gap 68 = .ok (.if_icmp .le 12, 3) := by decide +kernel
theorem dX12_gap_71 : decode cX12_gap 71 = .ok (.iload_n 3, 1) := by decide +kernel
theorem dX12_gap_72 : decode cX12_gap 72 = .ok (.istore 4, 2) := by decide +kernel
theorem dX12_gap_74 : decode cX12_gap 74 = .ok (.iload 6, 2) := by decide +kernel
theorem dX12_gap_76 : decode cX12_gap 76 = .ok (.iload_n 3, 1) := by decide +kernel
theorem dX12_gap_77 : decode cX12_gap 77 = .ok (.isub, 1) := by decide +kernel
theorem dX12_gap_78 : decode cX12_gap 78 = .ok (.istore 5, 2) := by decide +kernel
theorem dX12_gap_80 : decode cX12_gap 80 = .ok (.iload 6, 2) := by decide +kernel
theorem dX12_gap_82 : decode cX12_gap 82 = .ok (.istore_n 3, 1) := by decide +kernel
theorem dX12_gap_83 : decode cX12_gap 83 = .ok (.iinc 6 1, 3) := by decide +kernel
theorem dX12_gap_86 : decode cX12_gap 86 = .ok (.goto (-49), 3) := by decide +kernel
theorem dX12_gap_89 : decode cX12_gap 89 = .ok (.iload_n 2, 1) := by decide +kernel
theorem dX12_gap_90 : decode cX12_gap 90 = .ok (.ifCond .ne 8, 3) := by decide +kernel
theorem dX12_gap_93 : decode cX12_gap 93 = .ok (.iload 4, 2) := by decide +kernel
theorem dX12_gap_95 : decode cX12_gap 95 = .ok (.goto 5, 3) := by decide +kernel
theorem dX12_gap_98 : decode cX12_gap 98 = .ok (.iload 5, 2) := by decide +kernel
theorem dX12_gap_100 : decode cX12_gap 100 = .ok (.ireturn, 1) := by decide +kernel
theorem dX12_rootAt_0 : decode cX12_rootAt 0 = .ok (.aload_n 0, 1) := by decide +kernel
theorem dX12_rootAt_1 : decode cX12_rootAt 1 = .ok (.getfield 77, 3) := by decide +kernel
theorem dX12_rootAt_4 : decode cX12_rootAt 4 = .ok (.iconst 2, 1) := by decide +kernel
theorem dX12_rootAt_5 : decode cX12_rootAt 5 = .ok (.iaload, 1) := by decide +kernel
theorem dX12_rootAt_6 : decode cX12_rootAt 6 = .ok (.iconst 1, 1) := by decide +kernel
theorem dX12_rootAt_7 : decode cX12_rootAt 7 = .ok (.isub, 1) := by decide +kernel
theorem dX12_rootAt_8 : decode cX12_rootAt 8 = .ok (.istore_n 2, 1) := by decide +kernel
theorem dX12_rootAt_9 : decode cX12_rootAt 9 = .ok (.aload_n 0, 1) := by decide +kernel
theorem dX12_rootAt_10 : decode cX12_rootAt 10 = .ok (.getfield 77, 3) := by decide +kernel
theorem dX12_rootAt_13 : decode cX12_rootAt 13 = .ok (.bipush 10, 2) := by decide +kernel
theorem dX12_rootAt_15 : decode cX12_rootAt 15 = .ok (.iload_n 2, 1) := by decide +kernel
theorem dX12_rootAt_16 : decode cX12_rootAt 16 = .ok (.iadd, 1) := by decide +kernel
theorem dX12_rootAt_17 : decode cX12_rootAt 17 = .ok (.iaload, 1) := by decide +kernel
theorem dX12_rootAt_18 : decode cX12_rootAt 18 = .ok (.iload_n 1, 1) := by decide +kernel
theorem dX12_rootAt_19 : decode cX12_rootAt 19 = .ok (.if_icmp .le 9, 3) := by decide +kernel
theorem dX12_rootAt_22 : decode cX12_rootAt 22 = .ok (.iinc 2 (-1), 3) := by decide +kernel
theorem dX12_rootAt_25 : decode cX12_rootAt 25 = .ok (.goto (-16), 3) := by decide +kernel
theorem dX12_rootAt_28 : decode cX12_rootAt 28 = .ok (.aload_n 0, 1) := by decide +kernel
theorem dX12_rootAt_29 : decode cX12_rootAt 29 = .ok (.getfield 77, 3) := by decide +kernel
theorem dX12_rootAt_32 : decode cX12_rootAt 32 = .ok (.sipush 710, 3) := by decide +kernel
theorem dX12_rootAt_35 : decode cX12_rootAt 35 = .ok (.iload_n 2, 1) := by decide +kernel
theorem dX12_rootAt_36 : decode cX12_rootAt 36 = .ok (.iadd, 1) := by decide +kernel
theorem dX12_rootAt_37 : decode cX12_rootAt 37 = .ok (.iaload, 1) := by decide +kernel
theorem dX12_rootAt_38 : decode cX12_rootAt 38 = .ok (.ireturn, 1) := by decide +kernel
theorem dX12_entryThen_0 : decode cX12_entryThen 0 = .ok (.aload_n 0, 1) := by decide +kernel
theorem dX12_entryThen_1 : decode cX12_entryThen 1 = .ok (.aload_n 0, 1) := by decide +kernel
theorem dX12_entryThen_2 : decode cX12_entryThen 2 = .ok (.getfield 77, 3) := by decide +kernel
theorem dX12_entryThen_5 : decode cX12_entryThen 5 = .ok (.iload_n 1, 1) := by decide +kernel
theorem dX12_entryThen_6 : decode cX12_entryThen 6 = .ok (.iconst 1, 1) := by decide +kernel
theorem dX12_entryThen_7 : decode cX12_entryThen 7 = .ok (.iadd, 1) := by decide +kernel
theorem dX12_entryThen_8 : decode cX12_entryThen 8 = .ok (.iaload, 1) := by decide +kernel
theorem dX12_entryThen_9 : decode cX12_entryThen 9 = .ok (.aload_n 0, 1) := by decide +kernel
theorem dX12_entryThen_10 : decode cX12_entryThen 10 = .ok (.getfield 77, 3) := by decide +kernel
theorem dX12_entryThen_13 : decode cX12_entryThen 13 = .ok (.iload_n 1, 1) := by decide +kernel
theorem dX12_entryThen_14 : decode cX12_entryThen 14 = .ok (.iconst 2, 1) := by decide +kernel
theorem dX12_entryThen_15 : decode cX12_entryThen 15 = .ok (.iadd, 1) := by decide +kernel
theorem dX12_entryThen_16 : decode cX12_entryThen 16 = .ok (.iaload, 1) := by decide +kernel
theorem dX12_entryThen_17 : decode cX12_entryThen 17 = .ok (.iload_n 2, 1) := by decide +kernel
theorem dX12_entryThen_18 : decode cX12_entryThen 18 = .ok (.invokevirtual 331, 3) := by decide +kernel
theorem dX12_entryThen_21 : decode cX12_entryThen 21 = .ok (.ireturn, 1) := by decide +kernel
theorem dX12_childThen_0 : decode cX12_childThen 0 = .ok (.iconst (-1), 1) := by decide +kernel
theorem dX12_childThen_1 : decode cX12_childThen 1 = .ok (.istore 4, 2) := by decide +kernel
theorem dX12_childThen_3 : decode cX12_childThen 3 = .ok (.iconst 0, 1) := by decide +kernel
theorem dX12_childThen_4 : decode cX12_childThen 4 = .ok (.istore 5, 2) := by decide +kernel
theorem dX12_childThen_6 : decode cX12_childThen 6 = .ok (.iload 5, 2) := by decide +kernel
theorem dX12_childThen_8 : decode cX12_childThen 8 = .ok (.aload_n 0, 1) := by decide +kernel
theorem dX12_childThen_9 : decode cX12_childThen 9 = .ok (.iload_n 1, 1) := by decide +kernel
theorem dX12_childThen_10 : decode cX12_childThen 10 = .ok (.invokevirtual 249, 3) := by decide +kernel
theorem dX12_childThen_13 : decode cX12_childThen 13 = .ok (.if_icmp .ge 64, 3) := by decide +kernel
theorem dX12_childThen_16 : decode cX12_childThen 16 = .ok (.iload_n 1, 1) := by decide +kernel
theorem dX12_childThen_17 : decode cX12_childThen 17 = .ok (.iload 5, 2) := by decide +kernel
theorem dX12_childThen_19 : decode cX12_childThen 19 = .ok (.invokestatic 252, 3) := by decide +kernel
theorem dX12_childThen_22 : decode cX12_childThen 22 = .ok (.istore 6, 2) := by decide +kernel
theorem dX12_childThen_24 : decode cX12_childThen 24 = .ok (.aload_n 0, 1) := by decide +kernel
theorem dX12_childThen_25 : decode cX12_childThen 25 = .ok (.iload 6, 2) := by decide +kernel
theorem dX12_childThen_27 : decode cX12_childThen 27 = .ok (.iload_n 3, 1) := by decide +kernel
theorem dX12_childThen_28 : decode cX12_childThen 28 = .ok (.invokevirtual 352, 3) := by decide +kernel
theorem dX12_childThen_31 : decode cX12_childThen 31 = .ok (.ifCond .eq 40, 3) := by decide +kernel
theorem dX12_childThen_34 : decode cX12_childThen 34 = .ok (.aload_n 0, 1) := by decide +kernel
theorem dX12_childThen_35 : decode cX12_childThen 35 = .ok (.getfield 77, 3) := by decide +kernel
theorem dX12_childThen_38 : decode cX12_childThen 38 = .ok (.iload 6, 2) := by decide +kernel
theorem dX12_childThen_40 : decode cX12_childThen 40 = .ok (.iaload, 1) := by decide +kernel
theorem dX12_childThen_41 : decode cX12_childThen 41 = .ok (.iload_n 2, 1) := by decide +kernel
theorem dX12_childThen_42 : decode cX12_childThen 42 = .ok (.if_icmp .gt 29, 3) := by decide +kernel
theorem dX12_childThen_45 : decode cX12_childThen 45 = .ok (.iload 4, 2) := by decide +kernel
theorem dX12_childThen_47 : decode cX12_childThen 47 = .ok (.ifCond .lt 20, 3) := by decide +kernel
theorem dX12_childThen_50 : decode cX12_childThen 50 = .ok (.aload_n 0, 1) := by decide +kernel
theorem dX12_childThen_51 : decode cX12_childThen 51 = .ok (.getfield 77, 3) := by decide +kernel
theorem dX12_childThen_54 : decode cX12_childThen 54 = .ok (.iload 6, 2) := by decide +kernel
theorem dX12_childThen_56 : decode cX12_childThen 56 = .ok (.iaload, 1) := by decide +kernel
theorem dX12_childThen_57 : decode cX12_childThen 57 = .ok (.aload_n 0, 1) := by decide +kernel
theorem dX12_childThen_58 : decode cX12_childThen 58 = .ok (.getfield 77, 3) := by decide +kernel
theorem dX12_childThen_61 : decode cX12_childThen 61 = .ok (.iload 4, 2) := by decide +kernel
theorem dX12_childThen_63 : decode cX12_childThen 63 = .ok (.iaload, 1) := by decide +kernel
theorem dX12_childThen_64 : decode cX12_childThen 64 = .ok (.if_icmp .le 7, 3) := by decide +kernel
theorem dX12_childThen_67 : decode cX12_childThen 67 = .ok (.iload 6, 2) := by decide +kernel
theorem dX12_childThen_69 : decode cX12_childThen 69 = .ok (.istore 4, 2) := by decide +kernel
theorem dX12_childThen_71 : decode cX12_childThen 71 = .ok (.iinc 5 1, 3) := by decide +kernel
theorem dX12_childThen_74 : decode cX12_childThen 74 = .ok (.goto (-68), 3) := by decide +kernel
theorem dX12_childThen_77 : decode cX12_childThen 77 = .ok (.aload_n 0, 1) := by decide +kernel
theorem dX12_childThen_78 : decode cX12_childThen 78 = .ok (.getfield 77, 3) := by decide +kernel
theorem dX12_childThen_81 : decode cX12_childThen 81 = .ok (.iload 4, 2) := by decide +kernel
theorem dX12_childThen_83 : decode cX12_childThen 83 = .ok (.iconst 3, 1) := by decide +kernel
theorem dX12_childThen_84 : decode cX12_childThen 84 = .ok (.iadd, 1) := by decide +kernel
theorem dX12_childThen_85 : decode cX12_childThen 85 = .ok (.iaload, 1) := by decide +kernel
theorem dX12_childThen_86 : decode cX12_childThen 86 = .ok (.ireturn, 1) := by decide +kernel
theorem dX12_goesDownThen_0 : decode cX12_goesDownThen 0 = .ok (.aload_n 0, 1) := by decide +kernel
theorem dX12_goesDownThen_1 : decode cX12_goesDownThen 1 = .ok (.iload_n 2, 1) := by decide +kernel
theorem dX12_goesDownThen_2 : decode cX12_goesDownThen 2 = .ok (.invokevirtual 355, 3) := by decide +kernel
theorem dX12_goesDownThen_5 : decode cX12_goesDownThen 5 = .ok (.istore_n 3, 1) := by decide +kernel
theorem dX12_goesDownThen_6 : decode cX12_goesDownThen 6 = .ok (.aload_n 0, 1) := by decide +kernel
theorem dX12_goesDownThen_7 : decode cX12_goesDownThen 7 = .ok (.getfield 80, 3) := by decide +kernel
theorem dX12_goesDownThen_10 : decode cX12_goesDownThen 10 = .ok (.iconst 0, 1) := by decide +kernel
theorem dX12_goesDownThen_11 : decode cX12_goesDownThen 11 = .ok (.iload_n 3, 1) := by decide +kernel
theorem dX12_goesDownThen_12 : decode cX12_goesDownThen 12 = .ok (.iastore, 1) := by decide +kernel
theorem dX12_goesDownThen_13 : decode cX12_goesDownThen 13 = .ok (.aload_n 0, 1) := by decide +kernel
theorem dX12_goesDownThen_14 : decode cX12_goesDownThen 14 = .ok (.iconst 1, 1) := by decide +kernel
theorem dX12_goesDownThen_15 : decode cX12_goesDownThen 15 = .ok (.putfield 262, 3) := by decide +kernel
theorem dX12_goesDownThen_18 : decode cX12_goesDownThen 18 = .ok (.aload_n 0, 1) := by decide +kernel
theorem dX12_goesDownThen_19 : decode cX12_goesDownThen 19 = .ok (.iload_n 3, 1) := by decide +kernel
theorem dX12_goesDownThen_20 : decode cX12_goesDownThen 20 = .ok (.invokevirtual 265, 3) := by decide +kernel
theorem dX12_goesDownThen_23 : decode cX12_goesDownThen 23 = .ok (.ifCond .ne 34, 3) := by decide +kernel
theorem dX12_goesDownThen_26 : decode cX12_goesDownThen 26 = .ok (.aload_n 0, 1) := by decide +kernel
theorem dX12_goesDownThen_27 : decode cX12_goesDownThen 27 = .ok (.iload_n 3, 1) := by decide +kernel
theorem dX12_goesDownThen_28 : decode cX12_goesDownThen 28 = .ok (.iload_n 1, 1) := by decide +kernel
theorem dX12_goesDownThen_29 : decode cX12_goesDownThen 29 = .ok (.iload_n 2, 1) := by decide +kernel
theorem dX12_goesDownThen_30 : decode cX12_goesDownThen 30 = .ok (.invokevirtual 358, 3) := by decide +kernel
theorem dX12_goesDownThen_33 : decode cX12_goesDownThen 33 = .ok (.istore_n 3, 1) := by decide +kernel
theorem dX12_goesDownThen_34 : decode cX12_goesDownThen 34 = .ok (.aload_n 0, 1) := by decide +kernel
theorem dX12_goesDownThen_35 : decode cX12_goesDownThen 35 = .ok (.getfield 80, 3) := by decide +kernel
theorem dX12_goesDownThen_38 : decode cX12_goesDownThen 38 = .ok (.aload_n 0, 1) := by decide +kernel
theorem dX12_goesDownThen_39 : decode cX12_goesDownThen 39 = .ok (.getfield 262, 3) := by decide +kernel
theorem dX12_goesDownThen_42 : decode cX12_goesDownThen 42 = .ok (.iload_n 3, 1) := by decide +kernel
theorem dX12_goesDownThen_43 : decode cX12_goesDownThen 43 = .ok (.iastore, 1) := by decide +kernel
theorem dX12_goesDownThen_44 : decode cX12_goesDownThen 44 = .ok (.aload_n 0, 1) := by decide +kernel
theorem dX12_goesDownThen_45 : decode cX12_goesDownThen 45 = .ok (.dup, 1) := by decide +kernel
theorem dX12_goesDownThen_46 : decode cX12_goesDownThen 46 = .ok (.getfield 262, 3) := by decide +kernel
theorem dX12_goesDownThen_49 : decode cX12_goesDownThen 49 = .ok (.iconst 1, 1) := by decide +kernel
theorem dX12_goesDownThen_50 : decode cX12_goesDownThen 50 = .ok (.iadd, 1) := by decide +kernel
theorem dX12_goesDownThen_51 : decode cX12_goesDownThen 51 = .ok (.putfield 262, 3) := by decide +kernel
theorem dX12_goesDownThen_54 : decode cX12_goesDownThen 54 = .ok (.goto (-36), 3) := by decide +kernel
theorem dX12_goesDownThen_57 : decode cX12_goesDownThen 57 = .ok (.return_, 1) := by decide +kernel
theorem dX12_root_0 : decode cX12_root 0 = .ok (.aload_n 0, 1) := by decide +kernel
theorem dX12_root_1 : decode cX12_root 1 = .ok (.iload_n 1, 1) := by decide +kernel
theorem dX12_root_2 : decode cX12_root 2 = .ok (.invokevirtual 334, 3) := by decide +kernel
theorem dX12_root_5 : decode cX12_root 5 = .ok (.ifCond .eq 11, 3) := by decide +kernel
theorem dX12_root_8 : decode cX12_root 8 = .ok (.aload_n 0, 1) := by decide +kernel
theorem dX12_root_9 : decode cX12_root 9 = .ok (.iload_n 1, 1) := by decide +kernel
theorem dX12_root_10 : decode cX12_root 10 = .ok (.invokevirtual 355, 3) := by decide +kernel
theorem dX12_root_13 : decode cX12_root 13 = .ok (.goto 4, 3) := by decide +kernel
theorem dX12_root_16 : decode cX12_root 16 = .ok (.iconst (-1), 1) := by decide +kernel
theorem dX12_root_17 : decode cX12_root 17 = .ok (.ireturn, 1) := by decide +kernel
theorem dX12_deep_0 : decode cX12_deep 0 = .ok (.aload_n 0, 1) := by decide +kernel
theorem dX12_deep_1 : decode cX12_deep 1 = .ok (.iload_n 1, 1) := by decide +kernel
theorem dX12_deep_2 : decode cX12_deep 2 = .ok (.invokevirtual 334, 3) := by decide +kernel
theorem dX12_deep_5 : decode cX12_deep 5 = .ok (.ifCond .ne 5, 3) := by decide +kernel
theorem dX12_deep_8 : decode cX12_deep 8 = .ok (.iconst (-1), 1) := by decide +kernel
theorem dX12_deep_9 : decode cX12_deep 9 = .ok (.ireturn, 1) := by decide +kernel
theorem dX12_deep_10 : decode cX12_deep 10 = .ok (.aload_n 0, 1) := by decide +kernel
theorem dX12_deep_11 : decode cX12_deep 11 = .ok (.iconst 0, 1) := by decide +kernel
theorem dX12_deep_12 : decode cX12_deep 12 = .ok (.iload_n 1, 1) := by decide +kernel
theorem dX12_deep_13 : decode cX12_deep 13 = .ok (.invokevirtual 361, 3) := by decide +kernel
theorem dX12_deep_16 : decode cX12_deep 16 = .ok (.aload_n 0, 1) := by decide +kernel
theorem dX12_deep_17 : decode cX12_deep 17 = .ok (.getfield 262, 3) := by decide +kernel
theorem dX12_deep_20 : decode cX12_deep 20 = .ok (.ireturn, 1) := by decide +kernel
theorem dX12_leaf_0 : decode cX12_leaf 0 = .ok (.iload_n 1, 1) := by decide +kernel
theorem dX12_leaf_1 : decode cX12_leaf 1 = .ok (.invokestatic 328, 3) := by decide +kernel
theorem dX12_leaf_4 : decode cX12_leaf 4 = .ok (.ifCond .eq 11, 3) := by decide +kernel
theorem dX12_leaf_7 : decode cX12_leaf 7 = .ok (.aload_n 0, 1) := by decide +kernel
theorem dX12_leaf_8 : decode cX12_leaf 8 = .ok (.iload_n 2, 1) := by decide +kernel
theorem dX12_leaf_9 : decode cX12_leaf 9 = .ok (.invokevirtual 334, 3) := by decide +kernel
theorem dX12_leaf_12 : decode cX12_leaf 12 = .ok (.ifCond .ne 5, 3) := by decide +kernel
theorem dX12_leaf_15 : decode cX12_leaf 15 = .ok (.iconst (-1), 1) := by decide +kernel
theorem dX12_leaf_16 : decode cX12_leaf 16 = .ok (.ireturn, 1) := by decide +kernel
theorem dX12_leaf_17 : decode cX12_leaf 17 = .ok (.aload_n 0, 1) := by decide +kernel
theorem dX12_leaf_18 : decode cX12_leaf 18 = .ok (.iload_n 1, 1) := by decide +kernel
theorem dX12_leaf_19 : decode cX12_leaf 19 = .ok (.iload_n 2, 1) := by decide +kernel
theorem dX12_leaf_20 : decode cX12_leaf 20 = .ok (.invokevirtual 361, 3) := by decide +kernel
theorem dX12_leaf_23 : decode cX12_leaf 23 = .ok (.aload_n 0, 1) := by decide +kernel
theorem dX12_leaf_24 : decode cX12_leaf 24 = .ok (.getfield 80, 3) := by decide +kernel
theorem dX12_leaf_27 : decode cX12_leaf 27 = .ok (.aload_n 0, 1) := by decide +kernel
theorem dX12_leaf_28 : decode cX12_leaf 28 = .ok (.getfield 262, 3) := by decide +kernel
theorem dX12_leaf_31 : decode cX12_leaf 31 = .ok (.iconst 1, 1) := by decide +kernel
theorem dX12_leaf_32 : decode cX12_leaf 32 = .ok (.isub, 1) := by decide +kernel
theorem dX12_leaf_33 : decode cX12_leaf 33 = .ok (.iaload, 1) := by decide +kernel
theorem dX12_leaf_34 : decode cX12_leaf 34 = .ok (.ireturn, 1) := by decide +kernel
theorem dX12_way_0 : decode cX12_way 0 = .ok (.iload_n 1, 1) := by decide +kernel
theorem dX12_way_1 : decode cX12_way 1 = .ok (.invokestatic 328, 3) := by decide +kernel
theorem dX12_way_4 : decode cX12_way 4 = .ok (.ifCond .eq 11, 3) := by decide +kernel
theorem dX12_way_7 : decode cX12_way 7 = .ok (.aload_n 0, 1) := by decide +kernel
theorem dX12_way_8 : decode cX12_way 8 = .ok (.iload_n 2, 1) := by decide +kernel
theorem dX12_way_9 : decode cX12_way 9 = .ok (.invokevirtual 334, 3) := by decide +kernel
theorem dX12_way_12 : decode cX12_way 12 = .ok (.ifCond .ne 5, 3) := by decide +kernel
theorem dX12_way_15 : decode cX12_way 15 = .ok (.iconst (-1), 1) := by decide +kernel
theorem dX12_way_16 : decode cX12_way 16 = .ok (.ireturn, 1) := by decide +kernel
theorem dX12_way_17 : decode cX12_way 17 = .ok (.aload_n 0, 1) := by decide +kernel
theorem dX12_way_18 : decode cX12_way 18 = .ok (.iload_n 1, 1) := by decide +kernel
theorem dX12_way_19 : decode cX12_way 19 = .ok (.iload_n 2, 1) := by decide +kernel
theorem dX12_way_20 : decode cX12_way 20 = .ok (.invokevirtual 361, 3) := by decide +kernel
theorem dX12_way_23 : decode cX12_way 23 = .ok (.iload_n 3, 1) := by decide +kernel
theorem dX12_way_24 : decode cX12_way 24 = .ok (.iconst 0, 1) := by decide +kernel
theorem dX12_way_25 : decode cX12_way 25 = .ok (.aload_n 0, 1) := by decide +kernel
theorem dX12_way_26 : decode cX12_way 26 = .ok (.getfield 262, 3) := by decide +kernel
theorem dX12_way_29 : decode cX12_way 29 = .ok (.iconst 1, 1) := by decide +kernel
theorem dX12_way_30 : decode cX12_way 30 = .ok (.isub, 1) := by decide +kernel
theorem dX12_way_31 : decode cX12_way 31 = .ok (.invokestatic 324, 3) := by decide +kernel
theorem dX12_way_34 : decode cX12_way 34 = .ok (.ifCond .eq 12, 3) := by decide +kernel
theorem dX12_way_37 : decode cX12_way 37 = .ok (.aload_n 0, 1) := by decide +kernel
theorem dX12_way_38 : decode cX12_way 38 = .ok (.getfield 80, 3) := by decide +kernel
theorem dX12_way_41 : decode cX12_way 41 = .ok (.iload_n 3, 1) := by decide +kernel
theorem dX12_way_42 : decode cX12_way 42 = .ok (.iaload, 1) := by decide +kernel
theorem dX12_way_43 : decode cX12_way 43 = .ok (.goto 4, 3) := by decide +kernel
theorem dX12_way_46 : decode cX12_way 46 = .ok (.iconst (-1), 1) := by decide +kernel
theorem dX12_way_47 : decode cX12_way 47 = .ok (.ireturn, 1) := by decide +kernel
theorem dX12_spanTo_0 : decode cX12_spanTo 0 = .ok (.sipush 1000, 3) := by decide +kernel
theorem dX12_spanTo_3 : decode cX12_spanTo 3 = .ok (.istore 4, 2) := by decide +kernel
theorem dX12_spanTo_5 : decode cX12_spanTo 5 = .ok (.iconst 0, 1) := by decide +kernel
theorem dX12_spanTo_6 : decode cX12_spanTo 6 = .ok (.istore 5, 2) := by decide +kernel
theorem dX12_spanTo_8 : decode cX12_spanTo 8 = .ok (.iload 5, 2) := by decide +kernel
theorem dX12_spanTo_10 : decode cX12_spanTo 10 = .ok (.aload_n 0, 1) := by decide +kernel
theorem dX12_spanTo_11 : decode cX12_spanTo 11 = .ok (.iload_n 1, 1) := by decide +kernel
theorem dX12_spanTo_12 : decode cX12_spanTo 12 = .ok (.invokevirtual 249, 3) := by decide +kernel
theorem dX12_spanTo_15 : decode cX12_spanTo 15 = .ok (.if_icmp .ge 64, 3) := by decide +kernel
theorem dX12_spanTo_18 : decode cX12_spanTo 18 = .ok (.iload_n 1, 1) := by decide +kernel
theorem dX12_spanTo_19 : decode cX12_spanTo 19 = .ok (.iload 5, 2) := by decide +kernel
theorem dX12_spanTo_21 : decode cX12_spanTo 21 = .ok (.invokestatic 252, 3) := by decide +kernel
theorem dX12_spanTo_24 : decode cX12_spanTo 24 = .ok (.istore 6, 2) := by decide +kernel
theorem dX12_spanTo_26 : decode cX12_spanTo 26 = .ok (.aload_n 0, 1) := by decide +kernel
theorem dX12_spanTo_27 : decode cX12_spanTo 27 = .ok (.iload 6, 2) := by decide +kernel
theorem dX12_spanTo_29 : decode cX12_spanTo 29 = .ok (.iload_n 3, 1) := by decide +kernel
theorem dX12_spanTo_30 : decode cX12_spanTo 30 = .ok (.invokevirtual 352, 3) := by decide +kernel
theorem dX12_spanTo_33 : decode cX12_spanTo 33 = .ok (.ifCond .eq 40, 3) := by decide +kernel
theorem dX12_spanTo_36 : decode cX12_spanTo 36 = .ok (.aload_n 0, 1) := by decide +kernel
theorem dX12_spanTo_37 : decode cX12_spanTo 37 = .ok (.getfield 77, 3) := by decide +kernel
theorem dX12_spanTo_40 : decode cX12_spanTo 40 = .ok (.iload 6, 2) := by decide +kernel
theorem dX12_spanTo_42 : decode cX12_spanTo 42 = .ok (.iaload, 1) := by decide +kernel
theorem dX12_spanTo_43 : decode cX12_spanTo 43 = .ok (.aload_n 0, 1) := by decide +kernel
theorem dX12_spanTo_44 : decode cX12_spanTo 44 = .ok (.getfield 77, 3) := by decide +kernel
theorem dX12_spanTo_47 : decode cX12_spanTo 47 = .ok (.iload_n 2, 1) := by decide +kernel
theorem dX12_spanTo_48 : decode cX12_spanTo 48 = .ok (.iaload, 1) := by decide +kernel
theorem dX12_spanTo_49 : decode cX12_spanTo 49 = .ok (.if_icmp .le 24, 3) := by decide +kernel
theorem dX12_spanTo_52 : decode cX12_spanTo 52 = .ok (.aload_n 0, 1) := by decide +kernel
theorem dX12_spanTo_53 : decode cX12_spanTo 53 = .ok (.getfield 77, 3) := by decide +kernel
theorem dX12_spanTo_56 : decode cX12_spanTo 56 = .ok (.iload 6, 2) := by decide +kernel
theorem dX12_spanTo_58 : decode cX12_spanTo 58 = .ok (.iaload, 1) := by decide +kernel
theorem dX12_spanTo_59 : decode cX12_spanTo 59 = .ok (.iload 4, 2) := by decide +kernel
theorem dX12_spanTo_61 : decode cX12_spanTo 61 = .ok (.if_icmp .ge 12, 3) := by decide +kernel
theorem dX12_spanTo_64 : decode cX12_spanTo 64 = .ok (.aload_n 0, 1) := by decide +kernel
theorem dX12_spanTo_65 : decode cX12_spanTo 65 = .ok (.getfield 77, 3) := by decide +kernel
theorem dX12_spanTo_68 : decode cX12_spanTo 68 = .ok (.iload 6, 2) := by decide +kernel
theorem dX12_spanTo_70 : decode cX12_spanTo 70 = .ok (.iaload, 1) := by decide +kernel
theorem dX12_spanTo_71 : decode cX12_spanTo 71 = .ok (.istore 4, 2) := by decide +kernel
theorem dX12_spanTo_73 : decode cX12_spanTo 73 = .ok (.iinc 5 1, 3) := by decide +kernel
theorem dX12_spanTo_76 : decode cX12_spanTo 76 = .ok (.goto (-68), 3) := by decide +kernel
theorem dX12_spanTo_79 : decode cX12_spanTo 79 = .ok (.iload 4, 2) := by decide +kernel
theorem dX12_spanTo_81 : decode cX12_spanTo 81 = .ok (.iconst 1, 1) := by decide +kernel
theorem dX12_spanTo_82 : decode cX12_spanTo 82 = .ok (.isub, 1) := by decide +kernel
theorem dX12_spanTo_83 : decode cX12_spanTo 83 = .ok (.ireturn, 1) := by decide +kernel
theorem dX12_isLeast_0 : decode cX12_isLeast 0 = .ok (.iconst 0, 1) := by decide +kernel
theorem dX12_isLeast_1 : decode cX12_isLeast 1 = .ok (.istore 4, 2) := by decide +kernel
theorem dX12_isLeast_3 : decode cX12_isLeast 3 = .ok (.iload 4, 2) := by decide +kernel
theorem dX12_isLeast_5 : decode cX12_isLeast 5 = .ok (.aload_n 0, 1) := by decide +kernel
theorem dX12_isLeast_6 : decode cX12_isLeast 6 = .ok (.iload_n 1, 1) := by decide +kernel
theorem dX12_isLeast_7 : decode cX12_isLeast 7 = .ok (.invokevirtual 249, 3) := by decide +kernel
theorem dX12_isLeast_10 : decode cX12_isLeast 10 = .ok (.if_icmp .ge 45, 3) := by decide +kernel
theorem dX12_isLeast_13 : decode cX12_isLeast 13 = .ok (.aload_n 0, 1) := by decide +kernel
theorem dX12_isLeast_14 : decode cX12_isLeast 14 = .ok (.iload_n 1, 1) := by decide +kernel
theorem dX12_isLeast_15 : decode cX12_isLeast 15 = .ok (.iload 4, 2) := by decide +kernel
theorem dX12_isLeast_17 : decode cX12_isLeast 17 = .ok (.invokestatic 252, 3) := by decide +kernel
theorem dX12_isLeast_20 : decode cX12_isLeast 20 = .ok (.iload_n 3, 1) := by decide +kernel
theorem dX12_isLeast_21 : decode cX12_isLeast 21 = .ok (.invokevirtual 352, 3) := by decide +kernel
theorem dX12_isLeast_24 : decode cX12_isLeast 24 = .ok (.ifCond .eq 25, 3) := by decide +kernel
theorem dX12_isLeast_27 : decode cX12_isLeast 27 = .ok (.aload_n 0, 1) := by decide +kernel
theorem dX12_isLeast_28 : decode cX12_isLeast 28 = .ok (.getfield 77, 3) := by decide +kernel
theorem dX12_isLeast_31 : decode cX12_isLeast 31 = .ok (.iload_n 1, 1) := by decide +kernel
theorem dX12_isLeast_32 : decode cX12_isLeast 32 = .ok (.iload 4, 2) := by decide +kernel
theorem dX12_isLeast_34 : decode cX12_isLeast 34 = .ok (.invokestatic 252, 3) := by decide +kernel
theorem dX12_isLeast_37 : decode cX12_isLeast 37 = .ok (.iaload, 1) := by decide +kernel
theorem dX12_isLeast_38 : decode cX12_isLeast 38 = .ok (.aload_n 0, 1) := by decide +kernel
theorem dX12_isLeast_39 : decode cX12_isLeast 39 = .ok (.getfield 77, 3) := by decide +kernel
theorem dX12_isLeast_42 : decode cX12_isLeast 42 = .ok (.iload_n 2, 1) := by decide +kernel
theorem dX12_isLeast_43 : decode cX12_isLeast 43 = .ok (.iaload, 1) := by decide +kernel
theorem dX12_isLeast_44 : decode cX12_isLeast 44 = .ok (.if_icmp .ge 5, 3) := by decide +kernel
theorem dX12_isLeast_47 : decode cX12_isLeast 47 = .ok (.iconst 0, 1) := by decide +kernel
theorem dX12_isLeast_48 : decode cX12_isLeast 48 = .ok (.ireturn, 1) := by decide +kernel
theorem dX12_isLeast_49 : decode cX12_isLeast 49 = .ok (.iinc 4 1, 3) := by decide +kernel
theorem dX12_isLeast_52 : decode cX12_isLeast 52 = .ok (.goto (-49), 3) := by decide +kernel
theorem dX12_isLeast_55 : decode cX12_isLeast 55 = .ok (.iconst 1, 1) := by decide +kernel
theorem dX12_isLeast_56 : decode cX12_isLeast 56 = .ok (.ireturn, 1) := by decide +kernel
theorem dX12_isAsked_0 : decode cX12_isAsked 0 = .ok (.aload_n 0, 1) := by decide +kernel
theorem dX12_isAsked_1 : decode cX12_isAsked 1 = .ok (.iload_n 1, 1) := by decide +kernel
theorem dX12_isAsked_2 : decode cX12_isAsked 2 = .ok (.iload_n 2, 1) := by decide +kernel
theorem dX12_isAsked_3 : decode cX12_isAsked 3 = .ok (.iload_n 3, 1) := by decide +kernel
theorem dX12_isAsked_4 : decode cX12_isAsked 4 = .ok (.invokevirtual 364, 3) := by decide +kernel
theorem dX12_isAsked_7 : decode cX12_isAsked 7 = .ok (.ifCond .eq 7, 3) := by decide +kernel
theorem dX12_isAsked_10 : decode cX12_isAsked 10 = .ok (.iconst 0, 1) := by decide +kernel
theorem dX12_isAsked_11 : decode cX12_isAsked 11 = .ok (.goto 9, 3) := by decide +kernel
theorem dX12_isAsked_14 : decode cX12_isAsked 14 = .ok (.aload_n 0, 1) := by decide +kernel
theorem dX12_isAsked_15 : decode cX12_isAsked 15 = .ok (.getfield 77, 3) := by decide +kernel
theorem dX12_isAsked_18 : decode cX12_isAsked 18 = .ok (.iload_n 2, 1) := by decide +kernel
theorem dX12_isAsked_19 : decode cX12_isAsked 19 = .ok (.iaload, 1) := by decide +kernel
theorem dX12_isAsked_20 : decode cX12_isAsked 20 = .ok (.istore 6, 2) := by decide +kernel
theorem dX12_isAsked_22 : decode cX12_isAsked 22 = .ok (.iload 4, 2) := by decide +kernel
theorem dX12_isAsked_24 : decode cX12_isAsked 24 = .ok (.iload 5, 2) := by decide +kernel
theorem dX12_isAsked_26 : decode cX12_isAsked 26 = .ok (.if_icmp .gt 26, 3) := by decide +kernel
theorem dX12_isAsked_29 : decode cX12_isAsked 29 = .ok (.iload 6, 2) := by decide +kernel
theorem dX12_isAsked_31 : decode cX12_isAsked 31 = .ok (.iload 5, 2) := by decide +kernel
theorem dX12_isAsked_33 : decode cX12_isAsked 33 = .ok (.if_icmp .gt 19, 3) := by decide +kernel
theorem dX12_isAsked_36 : decode cX12_isAsked 36 = .ok (.aload_n 0, 1) := by decide +kernel
theorem dX12_isAsked_37 : decode cX12_isAsked 37 = .ok (.iload_n 1, 1) := by decide +kernel
theorem dX12_isAsked_38 : decode cX12_isAsked 38 = .ok (.iload_n 2, 1) := by decide +kernel
theorem dX12_isAsked_39 : decode cX12_isAsked 39 = .ok (.iload_n 3, 1) := by decide +kernel
theorem dX12_isAsked_40 : decode cX12_isAsked 40 = .ok (.invokevirtual 367, 3) := by decide +kernel
theorem dX12_isAsked_43 : decode cX12_isAsked 43 = .ok (.iload 4, 2) := by decide +kernel
theorem dX12_isAsked_45 : decode cX12_isAsked 45 = .ok (.if_icmp .lt 7, 3) := by decide +kernel
theorem dX12_isAsked_48 : decode cX12_isAsked 48 = .ok (.iconst 1, 1) := by decide +kernel
theorem dX12_isAsked_49 : decode cX12_isAsked 49 = .ok (.goto 4, 3) := by decide +kernel
theorem dX12_isAsked_52 : decode cX12_isAsked 52 = .ok (.iconst 0, 1) := by decide +kernel
theorem dX12_isAsked_53 : decode cX12_isAsked 53 = .ok (.ireturn, 1) := by decide +kernel
theorem dX12_goesThrough_0 : decode cX12_goesThrough 0 = .ok (.aload_n 0, 1) := by decide +kernel
theorem dX12_goesThrough_1 : decode cX12_goesThrough 1 = .ok (.getfield 101, 3) := by decide +kernel
theorem dX12_goesThrough_4 : decode cX12_goesThrough 4 = .ok (.iconst 0, 1) := by decide +kernel
theorem dX12_goesThrough_5 : decode cX12_goesThrough 5 = .ok (.aload_n 0, 1) := by decide +kernel
theorem dX12_goesThrough_6 : decode cX12_goesThrough 6 = .ok (.iload_n 1, 1) := by decide +kernel
theorem dX12_goesThrough_7 : decode cX12_goesThrough 7 = .ok (.invokevirtual 355, 3) := by decide +kernel
theorem dX12_goesThrough_10 : decode cX12_goesThrough 10 = .ok (.iastore, 1) := by decide +kernel
theorem dX12_goesThrough_11 : decode cX12_goesThrough 11 = .ok (.aload_n 0, 1) := by decide +kernel
theorem dX12_goesThrough_12 : decode cX12_goesThrough 12 = .ok (.iconst 1, 1) := by decide +kernel
theorem dX12_goesThrough_13 : decode cX12_goesThrough 13 = .ok (.putfield 370, 3) := by decide +kernel
theorem dX12_goesThrough_16 : decode cX12_goesThrough 16 = .ok (.iconst 0, 1) := by decide +kernel
theorem dX12_goesThrough_17 : decode cX12_goesThrough 17 = .ok (.istore 5, 2) := by decide +kernel
theorem dX12_goesThrough_19 : decode cX12_goesThrough 19 = .ok (.iload 5, 2) := by decide +kernel
theorem dX12_goesThrough_21 : decode cX12_goesThrough 21 = .ok (.aload_n 0, 1) := by decide +kernel
theorem dX12_goesThrough_22 : decode cX12_goesThrough 22 = .ok (.getfield 370, 3) := by decide +kernel
theorem dX12_goesThrough_25 : decode cX12_goesThrough 25 = .ok (.if_icmp .ge 116, 3) := by decide +kernel
theorem dX12_goesThrough_28 : decode cX12_goesThrough 28 = .ok (.aload_n 0, 1) := by decide +kernel
theorem dX12_goesThrough_29 : decode cX12_goesThrough 29 = .ok (.getfield 101, 3) := by decide +kernel
theorem dX12_goesThrough_32 : decode cX12_goesThrough 32 = .ok (.iload 5, 2) := by decide +kernel
theorem dX12_goesThrough_34 : decode cX12_goesThrough 34 = .ok (.iaload, 1) := by decide +kernel
theorem dX12_goesThrough_35 : decode cX12_goesThrough 35 = .ok (.istore 6, 2) := by decide +kernel
theorem dX12_goesThrough_37 : decode cX12_goesThrough 37 = .ok (.iconst 0, 1) := by decide +kernel
theorem dX12_goesThrough_38 : decode cX12_goesThrough 38 = .ok (.istore 7, 2) := by decide +kernel
theorem dX12_goesThrough_40 : decode cX12_goesThrough 40 = .ok (.iload 7, 2) := by decide +kernel
theorem dX12_goesThrough_42 : decode cX12_goesThrough 42 = .ok (.aload_n 0, 1) := by decide +kernel
theorem dX12_goesThrough_43 : decode cX12_goesThrough 43 = .ok (.iload 6, 2) := by decide +kernel
theorem dX12_goesThrough_45 : decode cX12_goesThrough 45 = .ok (.invokevirtual 249, 3) := by decide +kernel
theorem dX12_goesThrough_48 : decode cX12_goesThrough 48 = .ok (.if_icmp .ge 87, 3) := by decide +kernel
theorem dX12_goesThrough_51 : decode cX12_goesThrough 51 = .ok (.aload_n 0, 1) := by decide +kernel
theorem dX12_goesThrough_52 : decode cX12_goesThrough 52 = .ok (.iload 6, 2) := by decide +kernel
theorem dX12_goesThrough_54 : decode cX12_goesThrough 54 = .ok (.invokevirtual 265, 3) := by decide +kernel
theorem dX12_goesThrough_57 : decode cX12_goesThrough 57 = .ok (.ifCond .ne 78, 3) := by decide +kernel
theorem dX12_goesThrough_60 : decode cX12_goesThrough 60 = .ok (.iload 6, 2) := by decide +kernel
theorem dX12_goesThrough_62 : decode cX12_goesThrough 62 = .ok (.iload 7, 2) := by decide +kernel
theorem dX12_goesThrough_64 : decode cX12_goesThrough 64 = .ok (.invokestatic 252, 3) := by decide +kernel
theorem dX12_goesThrough_67 : decode cX12_goesThrough 67 = .ok (.istore 8, 2) := by decide +kernel
theorem dX12_goesThrough_69 : decode cX12_goesThrough 69 = .ok (.aload_n 0, 1) := by decide +kernel
theorem dX12_goesThrough_70 : decode cX12_goesThrough 70 = .ok (.iload 8, 2) := by decide +kernel
theorem dX12_goesThrough_72 : decode cX12_goesThrough 72 = .ok (.iload_n 1, 1) := by decide +kernel
theorem dX12_goesThrough_73 : decode cX12_goesThrough 73 = .ok (.invokevirtual 352, 3) := by decide +kernel
theorem dX12_goesThrough_76 : decode cX12_goesThrough 76 = .ok (.ifCond .eq 53, 3) := by decide +kernel
theorem dX12_goesThrough_79 : decode cX12_goesThrough 79 = .ok (.iload_n 2, 1) := by decide +kernel
theorem dX12_goesThrough_80 : decode cX12_goesThrough 80 = .ok (.ifCond .ne 21, 3) := by decide +kernel
theorem dX12_goesThrough_83 : decode cX12_goesThrough 83 = .ok (.aload_n 0, 1) := by decide +kernel
theorem dX12_goesThrough_84 : decode cX12_goesThrough 84 = .ok (.iload 6, 2) := by decide +kernel
theorem dX12_goesThrough_86 : decode cX12_goesThrough 86 = .ok (.iload 8, 2) := by decide +kernel
theorem dX12_goesThrough_88 : decode cX12_goesThrough 88 = .ok (.iload_n 1, 1) := by decide +kernel
theorem dX12_goesThrough_89 : decode cX12_goesThrough 89 = .ok (.iload_n 3, 1) := by decide +kernel
theorem dX12_goesThrough_90 : decode cX12_goesThrough 90 = .ok (.iload 4, 2) := by decide +kernel
theorem dX12_goesThrough_92 : decode cX12_goesThrough 92 = .ok (.invokevirtual 373, 3) := by decide +kernel
theorem dX12_goesThrough_95 : decode cX12_goesThrough 95 = .ok (.ifCond .ne 6, 3) := by decide +kernel
theorem dX12_goesThrough_98 : decode cX12_goesThrough 98 = .ok (.goto 31, 3) := by decide +kernel
theorem dX12_goesThrough_101 : decode cX12_goesThrough 101 = .ok (.aload_n 0, 1) := by decide +kernel
theorem dX12_goesThrough_102 : decode cX12_goesThrough 102 = .ok (.getfield 101, 3) := by decide +kernel
theorem dX12_goesThrough_105 : decode cX12_goesThrough 105 = .ok (.aload_n 0, 1) := by decide +kernel
theorem dX12_goesThrough_106 : decode cX12_goesThrough 106 = .ok (.getfield 370, 3) := by decide +kernel
theorem dX12_goesThrough_109 : decode cX12_goesThrough 109 = .ok (.aload_n 0, 1) := by decide +kernel
theorem dX12_goesThrough_110 : decode cX12_goesThrough 110 = .ok (.getfield 77, 3) := by decide +kernel
theorem dX12_goesThrough_113 : decode cX12_goesThrough 113 = .ok (.iload 8, 2) := by decide +kernel
theorem dX12_goesThrough_115 : decode cX12_goesThrough 115 = .ok (.iconst 3, 1) := by decide +kernel
theorem dX12_goesThrough_116 : decode cX12_goesThrough 116 = .ok (.iadd, 1) := by decide +kernel
theorem dX12_goesThrough_117 : decode cX12_goesThrough 117 = .ok (.iaload, 1) := by decide +kernel
theorem dX12_goesThrough_118 : decode cX12_goesThrough 118 = .ok (.iastore, 1) := by decide +kernel
theorem dX12_goesThrough_119 : decode cX12_goesThrough 119 = .ok (.aload_n 0, 1) := by decide +kernel
theorem dX12_goesThrough_120 : decode cX12_goesThrough 120 = .ok (.dup, 1) := by decide +kernel
theorem dX12_goesThrough_121 : decode cX12_goesThrough 121 = .ok (.getfield 370, 3) := by decide +kernel
theorem dX12_goesThrough_124 : decode cX12_goesThrough 124 = .ok (.iconst 1, 1) := by decide +kernel
theorem dX12_goesThrough_125 : decode cX12_goesThrough 125 = .ok (.iadd, 1) := by decide +kernel
theorem dX12_goesThrough_126 : decode cX12_goesThrough 126 = .ok (.putfield 370, 3) := by decide +kernel
theorem dX12_goesThrough_129 : decode cX12_goesThrough 129 = .ok (.iinc 7 1, 3) := by decide +kernel
theorem dX12_goesThrough_132 : decode cX12_goesThrough 132 = .ok (.goto (-92), 3) := by decide +kernel
theorem dX12_goesThrough_135 : decode cX12_goesThrough 135 = .ok (.iinc 5 1, 3) := by decide +kernel
theorem dX12_goesThrough_138 : decode cX12_goesThrough 138 = .ok (.goto (-119), 3) := by decide +kernel
theorem dX12_goesThrough_141 : decode cX12_goesThrough 141 = .ok (.return_, 1) := by decide +kernel
theorem dX12_reads_0 : decode cX12_reads 0 = .ok (.aload_n 0, 1) := by decide +kernel
theorem dX12_reads_1 : decode cX12_reads 1 = .ok (.iload_n 1, 1) := by decide +kernel
theorem dX12_reads_2 : decode cX12_reads 2 = .ok (.iload_n 2, 1) := by decide +kernel
theorem dX12_reads_3 : decode cX12_reads 3 = .ok (.invokevirtual 340, 3) := by decide +kernel
theorem dX12_reads_6 : decode cX12_reads 6 = .ok (.ifCond .eq 11, 3) := by decide +kernel
theorem dX12_reads_9 : decode cX12_reads 9 = .ok (.aload_n 0, 1) := by decide +kernel
theorem dX12_reads_10 : decode cX12_reads 10 = .ok (.iload_n 3, 1) := by decide +kernel
theorem dX12_reads_11 : decode cX12_reads 11 = .ok (.invokevirtual 334, 3) := by decide +kernel
theorem dX12_reads_14 : decode cX12_reads 14 = .ok (.ifCond .ne 5, 3) := by decide +kernel
theorem dX12_reads_17 : decode cX12_reads 17 = .ok (.iconst (-1), 1) := by decide +kernel
theorem dX12_reads_18 : decode cX12_reads 18 = .ok (.ireturn, 1) := by decide +kernel
theorem dX12_reads_19 : decode cX12_reads 19 = .ok (.aload_n 0, 1) := by decide +kernel
theorem dX12_reads_20 : decode cX12_reads 20 = .ok (.iload_n 3, 1) := by decide +kernel
theorem dX12_reads_21 : decode cX12_reads 21 = .ok (.iconst 0, 1) := by decide +kernel
theorem dX12_reads_22 : decode cX12_reads 22 = .ok (.iload_n 1, 1) := by decide +kernel
theorem dX12_reads_23 : decode cX12_reads 23 = .ok (.iload_n 2, 1) := by decide +kernel
theorem dX12_reads_24 : decode cX12_reads 24 = .ok (.invokevirtual 377, 3) := by decide +kernel
theorem dX12_reads_27 : decode cX12_reads 27 = .ok (.aload_n 0, 1) := by decide +kernel
theorem dX12_reads_28 : decode cX12_reads 28 = .ok (.getfield 370, 3) := by decide +kernel
theorem dX12_reads_31 : decode cX12_reads 31 = .ok (.ireturn, 1) := by decide +kernel
theorem dX12_livingThen_0 : decode cX12_livingThen 0 = .ok (.iconst 0, 1) := by decide +kernel
theorem dX12_livingThen_1 : decode cX12_livingThen 1 = .ok (.istore_n 3, 1) := by decide +kernel
theorem dX12_livingThen_2 : decode cX12_livingThen 2 = .ok (.iconst 0, 1) := by decide +kernel
theorem dX12_livingThen_3 : decode cX12_livingThen 3 = .ok (.istore 4, 2) := by decide +kernel
theorem dX12_livingThen_5 : decode cX12_livingThen 5 = .ok (.iload 4, 2) := by decide +kernel
theorem dX12_livingThen_7 : decode cX12_livingThen 7 = .ok (.aload_n 0, 1) := by decide +kernel
theorem dX12_livingThen_8 : decode cX12_livingThen 8 = .ok (.iload_n 1, 1) := by decide +kernel
theorem dX12_livingThen_9 : decode cX12_livingThen 9 = .ok (.invokevirtual 249, 3) := by decide +kernel
theorem dX12_livingThen_12 : decode cX12_livingThen 12 = .ok (.if_icmp .ge 26, 3) := by decide +kernel
theorem dX12_livingThen_15 : decode cX12_livingThen 15 = .ok (.aload_n 0, 1) := by decide +kernel
theorem dX12_livingThen_16 : decode cX12_livingThen 16 = .ok (.iload_n 1, 1) := by decide +kernel
theorem dX12_livingThen_17 : decode cX12_livingThen 17 = .ok (.iload 4, 2) := by decide +kernel
theorem dX12_livingThen_19 : decode cX12_livingThen 19 = .ok (.invokestatic 252, 3) := by decide +kernel
theorem dX12_livingThen_22 : decode cX12_livingThen 22 = .ok (.iload_n 2, 1) := by decide +kernel
theorem dX12_livingThen_23 : decode cX12_livingThen 23 = .ok (.invokevirtual 352, 3) := by decide +kernel
theorem dX12_livingThen_26 : decode cX12_livingThen 26 = .ok (.ifCond .eq 6, 3) := by decide +kernel
theorem dX12_livingThen_29 : decode cX12_livingThen 29 = .ok (.iinc 3 1, 3) := by decide +kernel
theorem dX12_livingThen_32 : decode cX12_livingThen 32 = .ok (.iinc 4 1, 3) := by decide +kernel
theorem dX12_livingThen_35 : decode cX12_livingThen 35 = .ok (.goto (-30), 3) := by decide +kernel
theorem dX12_livingThen_38 : decode cX12_livingThen 38 = .ok (.iload_n 3, 1) := by decide +kernel
theorem dX12_livingThen_39 : decode cX12_livingThen 39 = .ok (.ireturn, 1) := by decide +kernel
theorem dX12_thin_0 : decode cX12_thin 0 = .ok (.aload_n 0, 1) := by decide +kernel
theorem dX12_thin_1 : decode cX12_thin 1 = .ok (.iload_n 1, 1) := by decide +kernel
theorem dX12_thin_2 : decode cX12_thin 2 = .ok (.invokevirtual 334, 3) := by decide +kernel
theorem dX12_thin_5 : decode cX12_thin 5 = .ok (.ifCond .ne 5, 3) := by decide +kernel
theorem dX12_thin_8 : decode cX12_thin 8 = .ok (.iconst (-1), 1) := by decide +kernel
theorem dX12_thin_9 : decode cX12_thin 9 = .ok (.ireturn, 1) := by decide +kernel
theorem dX12_thin_10 : decode cX12_thin 10 = .ok (.aload_n 0, 1) := by decide +kernel
theorem dX12_thin_11 : decode cX12_thin 11 = .ok (.iload_n 1, 1) := by decide +kernel
theorem dX12_thin_12 : decode cX12_thin 12 = .ok (.iconst 1, 1) := by decide +kernel
theorem dX12_thin_13 : decode cX12_thin 13 = .ok (.iconst 0, 1) := by decide +kernel
theorem dX12_thin_14 : decode cX12_thin 14 = .ok (.sipush 999, 3) := by decide +kernel
theorem dX12_thin_17 : decode cX12_thin 17 = .ok (.invokevirtual 377, 3) := by decide +kernel
theorem dX12_thin_20 : decode cX12_thin 20 = .ok (.iconst 0, 1) := by decide +kernel
theorem dX12_thin_21 : decode cX12_thin 21 = .ok (.istore_n 2, 1) := by decide +kernel
theorem dX12_thin_22 : decode cX12_thin 22 = .ok (.iconst 1, 1) := by decide +kernel
theorem dX12_thin_23 : decode cX12_thin 23 = .ok (.istore_n 3, 1) := by decide +kernel
theorem dX12_thin_24 : decode cX12_thin 24 = .ok (.iload_n 3, 1) := by decide +kernel
theorem dX12_thin_25 : decode cX12_thin 25 = .ok (.aload_n 0, 1) := by decide +kernel
theorem dX12_thin_26 : decode cX12_thin 26 = .ok (.getfield 370, 3) := by decide +kernel
theorem dX12_thin_29 : decode cX12_thin 29 = .ok (.if_icmp .ge 30, 3) := by decide +kernel
theorem dX12_thin_32 : decode cX12_thin 32 = .ok (.aload_n 0, 1) := by decide +kernel
theorem dX12_thin_33 : decode cX12_thin 33 = .ok (.aload_n 0, 1) := by decide +kernel
theorem dX12_thin_34 : decode cX12_thin 34 = .ok (.getfield 101, 3) := by decide +kernel
theorem dX12_thin_37 : decode cX12_thin 37 = .ok (.iload_n 3, 1) := by decide +kernel
theorem dX12_thin_38 : decode cX12_thin 38 = .ok (.iaload, 1) := by decide +kernel
theorem dX12_thin_39 : decode cX12_thin 39 = .ok (.iload_n 1, 1) := by decide +kernel
theorem dX12_thin_40 : decode cX12_thin 40 = .ok (.invokevirtual 381, 3) := by decide +kernel
theorem dX12_thin_43 : decode cX12_thin 43 = .ok (.aload_n 0, 1) := by decide +kernel
theorem dX12_thin_44 : decode cX12_thin 44 = .ok (.invokevirtual 288, 3) := by decide +kernel
theorem dX12_thin_47 : decode cX12_thin 47 = .ok (.if_icmp .ge 6, 3) := by decide +kernel
theorem dX12_thin_50 : decode cX12_thin 50 = .ok (.iinc 2 1, 3) := by decide +kernel
theorem dX12_thin_53 : decode cX12_thin 53 = .ok (.iinc 3 1, 3) := by decide +kernel
theorem dX12_thin_56 : decode cX12_thin 56 = .ok (.goto (-32), 3) := by decide +kernel
theorem dX12_thin_59 : decode cX12_thin 59 = .ok (.iload_n 2, 1) := by decide +kernel
theorem dX12_thin_60 : decode cX12_thin 60 = .ok (.ireturn, 1) := by decide +kernel
theorem dX12_held_0 : decode cX12_held 0 = .ok (.aload_n 0, 1) := by decide +kernel
theorem dX12_held_1 : decode cX12_held 1 = .ok (.iload_n 1, 1) := by decide +kernel
theorem dX12_held_2 : decode cX12_held 2 = .ok (.invokevirtual 334, 3) := by decide +kernel
theorem dX12_held_5 : decode cX12_held 5 = .ok (.ifCond .eq 12, 3) := by decide +kernel
theorem dX12_held_8 : decode cX12_held 8 = .ok (.iload_n 2, 1) := by decide +kernel
theorem dX12_held_9 : decode cX12_held 9 = .ok (.iconst 0, 1) := by decide +kernel
theorem dX12_held_10 : decode cX12_held 10 = .ok (.iconst 3, 1) := by decide +kernel
theorem dX12_held_11 : decode cX12_held 11 = .ok (.invokestatic 324, 3) := by decide +kernel
theorem dX12_held_14 : decode cX12_held 14 = .ok (.ifCond .ne 5, 3) := by decide +kernel
theorem dX12_held_17 : decode cX12_held 17 = .ok (.iconst (-1), 1) := by decide +kernel
theorem dX12_held_18 : decode cX12_held 18 = .ok (.ireturn, 1) := by decide +kernel
theorem dX12_held_19 : decode cX12_held 19 = .ok (.aload_n 0, 1) := by decide +kernel
theorem dX12_held_20 : decode cX12_held 20 = .ok (.iload_n 1, 1) := by decide +kernel
theorem dX12_held_21 : decode cX12_held 21 = .ok (.iconst 1, 1) := by decide +kernel
theorem dX12_held_22 : decode cX12_held 22 = .ok (.iconst 0, 1) := by decide +kernel
theorem dX12_held_23 : decode cX12_held 23 = .ok (.sipush 999, 3) := by decide +kernel
theorem dX12_held_26 : decode cX12_held 26 = .ok (.invokevirtual 377, 3) := by decide +kernel
theorem dX12_held_29 : decode cX12_held 29 = .ok (.iconst 0, 1) := by decide +kernel
theorem dX12_held_30 : decode cX12_held 30 = .ok (.istore_n 3, 1) := by decide +kernel
theorem dX12_held_31 : decode cX12_held 31 = .ok (.iconst 0, 1) := by decide +kernel
theorem dX12_held_32 : decode cX12_held 32 = .ok (.istore 4, 2) := by decide +kernel
theorem dX12_held_34 : decode cX12_held 34 = .ok (.iconst 0, 1) := by decide +kernel
theorem dX12_held_35 : decode cX12_held 35 = .ok (.istore 5, 2) := by decide +kernel
theorem dX12_held_37 : decode cX12_held 37 = .ok (.iconst 0, 1) := by decide +kernel
theorem dX12_held_38 : decode cX12_held 38 = .ok (.istore 6, 2) := by decide +kernel
theorem dX12_held_40 : decode cX12_held 40 = .ok (.iload 6, 2) := by decide +kernel
theorem dX12_held_42 : decode cX12_held 42 = .ok (.aload_n 0, 1) := by decide +kernel
theorem dX12_held_43 : decode cX12_held 43 = .ok (.getfield 370, 3) := by decide +kernel
theorem dX12_held_46 : decode cX12_held 46 = .ok (.if_icmp .ge 59, 3) := by decide +kernel
theorem dX12_held_49 : decode cX12_held 49 = .ok (.aload_n 0, 1) := by decide +kernel
theorem dX12_held_50 : decode cX12_held 50 = .ok (.aload_n 0, 1) := by decide +kernel
theorem dX12_held_51 : decode cX12_held 51 = .ok (.getfield 101, 3) := by decide +kernel
theorem dX12_held_54 : decode cX12_held 54 = .ok (.iload 6, 2) := by decide +kernel
theorem dX12_held_56 : decode cX12_held 56 = .ok (.iaload, 1) := by decide +kernel
theorem dX12_held_57 : decode cX12_held 57 = .ok (.invokevirtual 265, 3) := by decide +kernel
theorem dX12_held_60 : decode cX12_held 60 = .ok (.ifCond .eq 6, 3) := by decide +kernel
theorem dX12_held_63 : decode cX12_held 63 = .ok (.iinc 3 1, 3) := by decide +kernel
theorem dX12_held_66 : decode cX12_held 66 = .ok (.iload 4, 2) := by decide +kernel
theorem dX12_held_68 : decode cX12_held 68 = .ok (.aload_n 0, 1) := by decide +kernel
theorem dX12_held_69 : decode cX12_held 69 = .ok (.aload_n 0, 1) := by decide +kernel
theorem dX12_held_70 : decode cX12_held 70 = .ok (.getfield 101, 3) := by decide +kernel
theorem dX12_held_73 : decode cX12_held 73 = .ok (.iload 6, 2) := by decide +kernel
theorem dX12_held_75 : decode cX12_held 75 = .ok (.iaload, 1) := by decide +kernel
theorem dX12_held_76 : decode cX12_held 76 = .ok (.iload_n 1, 1) := by decide +kernel
theorem dX12_held_77 : decode cX12_held 77 = .ok (.invokevirtual 381, 3) := by decide +kernel
theorem dX12_held_80 : decode cX12_held 80 = .ok (.iadd, 1) := by decide +kernel
theorem dX12_held_81 : decode cX12_held 81 = .ok (.istore 4, 2) := by decide +kernel
theorem dX12_held_83 : decode cX12_held 83 = .ok (.iload 5, 2) := by decide +kernel
theorem dX12_held_85 : decode cX12_held 85 = .ok (.aload_n 0, 1) := by decide +kernel
theorem dX12_held_86 : decode cX12_held 86 = .ok (.aload_n 0, 1) := by decide +kernel
theorem dX12_held_87 : decode cX12_held 87 = .ok (.getfield 101, 3) := by decide +kernel
theorem dX12_held_90 : decode cX12_held 90 = .ok (.iload 6, 2) := by decide +kernel
theorem dX12_held_92 : decode cX12_held 92 = .ok (.iaload, 1) := by decide +kernel
theorem dX12_held_93 : decode cX12_held 93 = .ok (.invokevirtual 249, 3) := by decide +kernel
theorem dX12_held_96 : decode cX12_held 96 = .ok (.iadd, 1) := by decide +kernel
theorem dX12_held_97 : decode cX12_held 97 = .ok (.istore 5, 2) := by decide +kernel
theorem dX12_held_99 : decode cX12_held 99 = .ok (.iinc 6 1, 3) := by decide +kernel
theorem dX12_held_102 : decode cX12_held 102 = .ok (.goto (-62), 3) := by decide +kernel
theorem dX12_held_105 : decode cX12_held 105 = .ok (.iload_n 2, 1) := by decide +kernel
theorem dX12_held_106 : decode cX12_held 106 = .ok (.tableswitch 38 0 2 #[26, 28, 35], 26) := by decide +kernel
theorem dX12_held_132 : decode cX12_held 132 = .ok (.iload_n 3, 1) := by decide +kernel
theorem dX12_held_133 : decode cX12_held 133 = .ok (.ireturn, 1) := by decide +kernel
theorem dX12_held_134 : decode cX12_held 134 = .ok (.aload_n 0, 1) := by decide +kernel
theorem dX12_held_135 : decode cX12_held 135 = .ok (.getfield 370, 3) := by decide +kernel
theorem dX12_held_138 : decode cX12_held 138 = .ok (.iload_n 3, 1) := by decide +kernel
theorem dX12_held_139 : decode cX12_held 139 = .ok (.isub, 1) := by decide +kernel
theorem dX12_held_140 : decode cX12_held 140 = .ok (.ireturn, 1) := by decide +kernel
theorem dX12_held_141 : decode cX12_held 141 = .ok (.iload 4, 2) := by decide +kernel
theorem dX12_held_143 : decode cX12_held 143 = .ok (.ireturn, 1) := by decide +kernel
theorem dX12_held_144 : decode cX12_held 144 = .ok (.aload_n 0, 1) := by decide +kernel
theorem dX12_held_145 : decode cX12_held 145 = .ok (.getfield 77, 3) := by decide +kernel
theorem dX12_held_148 : decode cX12_held 148 = .ok (.iconst 1, 1) := by decide +kernel
theorem dX12_held_149 : decode cX12_held 149 = .ok (.iaload, 1) := by decide +kernel
theorem dX12_held_150 : decode cX12_held 150 = .ok (.aload_n 0, 1) := by decide +kernel
theorem dX12_held_151 : decode cX12_held 151 = .ok (.getfield 370, 3) := by decide +kernel
theorem dX12_held_154 : decode cX12_held 154 = .ok (.imul, 1) := by decide +kernel
theorem dX12_held_155 : decode cX12_held 155 = .ok (.iload 5, 2) := by decide +kernel
theorem dX12_held_157 : decode cX12_held 157 = .ok (.isub, 1) := by decide +kernel
theorem dX12_held_158 : decode cX12_held 158 = .ok (.ireturn, 1) := by decide +kernel
theorem dX12_page_0 : decode cX12_page 0 = .ok (.iload_n 1, 1) := by decide +kernel
theorem dX12_page_1 : decode cX12_page 1 = .ok (.iconst 0, 1) := by decide +kernel
theorem dX12_page_2 : decode cX12_page 2 = .ok (.aload_n 0, 1) := by decide +kernel
theorem dX12_page_3 : decode cX12_page 3 = .ok (.getfield 77, 3) := by decide +kernel
theorem dX12_page_6 : decode cX12_page 6 = .ok (.iconst 3, 1) := by decide +kernel
theorem dX12_page_7 : decode cX12_page 7 = .ok (.iaload, 1) := by decide +kernel
theorem dX12_page_8 : decode cX12_page 8 = .ok (.iconst 1, 1) := by decide +kernel
theorem dX12_page_9 : decode cX12_page 9 = .ok (.isub, 1) := by decide +kernel
theorem dX12_page_10 : decode cX12_page 10 = .ok (.invokestatic 324, 3) := by decide +kernel
theorem dX12_page_13 : decode cX12_page 13 = .ok (.ifCond .eq 12, 3) := by decide +kernel
theorem dX12_page_16 : decode cX12_page 16 = .ok (.iload_n 2, 1) := by decide +kernel
theorem dX12_page_17 : decode cX12_page 17 = .ok (.iconst 0, 1) := by decide +kernel
theorem dX12_page_18 : decode cX12_page 18 = .ok (.iconst 4, 1) := by decide +kernel
theorem dX12_page_19 : decode cX12_page 19 = .ok (.invokestatic 324, 3) := by decide +kernel
theorem dX12_page_22 : decode cX12_page 22 = .ok (.ifCond .ne 5, 3) := by decide +kernel
theorem dX12_page_25 : decode cX12_page 25 = .ok (.iconst (-1), 1) := by decide +kernel
theorem dX12_page_26 : decode cX12_page 26 = .ok (.ireturn, 1) := by decide +kernel
theorem dX12_page_27 : decode cX12_page 27 = .ok (.iload_n 2, 1) := by decide +kernel
theorem dX12_page_28 : decode cX12_page 28 = .ok (.tableswitch 53 0 2 #[28, 41, 47], 28) := by decide +kernel
theorem dX12_page_56 : decode cX12_page 56 = .ok (.aload_n 0, 1) := by decide +kernel
theorem dX12_page_57 : decode cX12_page 57 = .ok (.getfield 77, 3) := by decide +kernel
theorem dX12_page_60 : decode cX12_page 60 = .ok (.sipush 1410, 3) := by decide +kernel
theorem dX12_page_63 : decode cX12_page 63 = .ok (.iconst 4, 1) := by decide +kernel
theorem dX12_page_64 : decode cX12_page 64 = .ok (.iload_n 1, 1) := by decide +kernel
theorem dX12_page_65 : decode cX12_page 65 = .ok (.imul, 1) := by decide +kernel
theorem dX12_page_66 : decode cX12_page 66 = .ok (.iadd, 1) := by decide +kernel
theorem dX12_page_67 : decode cX12_page 67 = .ok (.iaload, 1) := by decide +kernel
theorem dX12_page_68 : decode cX12_page 68 = .ok (.ireturn, 1) := by decide +kernel
theorem dX12_page_69 : decode cX12_page 69 = .ok (.aload_n 0, 1) := by decide +kernel
theorem dX12_page_70 : decode cX12_page 70 = .ok (.iload_n 1, 1) := by decide +kernel
theorem dX12_page_71 : decode cX12_page 71 = .ok (.invokevirtual 249, 3) := by decide +kernel
theorem dX12_page_74 : decode cX12_page 74 = .ok (.ireturn, 1) := by decide +kernel
theorem dX12_page_75 : decode cX12_page 75 = .ok (.aload_n 0, 1) := by decide +kernel
theorem dX12_page_76 : decode cX12_page 76 = .ok (.iload_n 1, 1) := by decide +kernel
theorem dX12_page_77 : decode cX12_page 77 = .ok (.invokevirtual 306, 3) := by decide +kernel
theorem dX12_page_80 : decode cX12_page 80 = .ok (.ireturn, 1) := by decide +kernel
theorem dX12_page_81 : decode cX12_page 81 = .ok (.aload_n 0, 1) := by decide +kernel
theorem dX12_page_82 : decode cX12_page 82 = .ok (.getfield 77, 3) := by decide +kernel
theorem dX12_page_85 : decode cX12_page 85 = .ok (.sipush 1410, 3) := by decide +kernel
theorem dX12_page_88 : decode cX12_page 88 = .ok (.iconst 4, 1) := by decide +kernel
theorem dX12_page_89 : decode cX12_page 89 = .ok (.iload_n 1, 1) := by decide +kernel
theorem dX12_page_90 : decode cX12_page 90 = .ok (.imul, 1) := by decide +kernel
theorem dX12_page_91 : decode cX12_page 91 = .ok (.iadd, 1) := by decide +kernel
theorem dX12_page_92 : decode cX12_page 92 = .ok (.iload_n 2, 1) := by decide +kernel
theorem dX12_page_93 : decode cX12_page 93 = .ok (.iadd, 1) := by decide +kernel
theorem dX12_page_94 : decode cX12_page 94 = .ok (.iconst 1, 1) := by decide +kernel
theorem dX12_page_95 : decode cX12_page 95 = .ok (.isub, 1) := by decide +kernel
theorem dX12_page_96 : decode cX12_page 96 = .ok (.iaload, 1) := by decide +kernel
theorem dX12_page_97 : decode cX12_page 97 = .ok (.ireturn, 1) := by decide +kernel
theorem dX12_entry_0 : decode cX12_entry 0 = .ok (.iload_n 1, 1) := by decide +kernel
theorem dX12_entry_1 : decode cX12_entry 1 = .ok (.iconst 0, 1) := by decide +kernel
theorem dX12_entry_2 : decode cX12_entry 2 = .ok (.aload_n 0, 1) := by decide +kernel
theorem dX12_entry_3 : decode cX12_entry 3 = .ok (.getfield 77, 3) := by decide +kernel
theorem dX12_entry_6 : decode cX12_entry 6 = .ok (.iconst 3, 1) := by decide +kernel
theorem dX12_entry_7 : decode cX12_entry 7 = .ok (.iaload, 1) := by decide +kernel
theorem dX12_entry_8 : decode cX12_entry 8 = .ok (.iconst 1, 1) := by decide +kernel
theorem dX12_entry_9 : decode cX12_entry 9 = .ok (.isub, 1) := by decide +kernel
theorem dX12_entry_10 : decode cX12_entry 10 = .ok (.invokestatic 324, 3) := by decide +kernel
theorem dX12_entry_13 : decode cX12_entry 13 = .ok (.ifCond .eq 27, 3) := by decide +kernel
theorem dX12_entry_16 : decode cX12_entry 16 = .ok (.iload_n 2, 1) := by decide +kernel
theorem dX12_entry_17 : decode cX12_entry 17 = .ok (.iconst 0, 1) := by decide +kernel
theorem dX12_entry_18 : decode cX12_entry 18 = .ok (.aload_n 0, 1) := by decide +kernel
theorem dX12_entry_19 : decode cX12_entry 19 = .ok (.iload_n 1, 1) := by decide +kernel
theorem dX12_entry_20 : decode cX12_entry 20 = .ok (.invokevirtual 249, 3) := by decide +kernel
theorem dX12_entry_23 : decode cX12_entry 23 = .ok (.iconst 1, 1) := by decide +kernel
theorem dX12_entry_24 : decode cX12_entry 24 = .ok (.isub, 1) := by decide +kernel
theorem dX12_entry_25 : decode cX12_entry 25 = .ok (.invokestatic 324, 3) := by decide +kernel
theorem dX12_entry_28 : decode cX12_entry 28 = .ok (.ifCond .eq 12, 3) := by decide +kernel
theorem dX12_entry_31 : decode cX12_entry 31 = .ok (.iload_n 3, 1) := by decide +kernel
theorem dX12_entry_32 : decode cX12_entry 32 = .ok (.iconst 0, 1) := by decide +kernel
theorem dX12_entry_33 : decode cX12_entry 33 = .ok (.iconst 3, 1) := by decide +kernel
theorem dX12_entry_34 : decode cX12_entry 34 = .ok (.invokestatic 324, 3) := by decide +kernel
theorem dX12_entry_37 : decode cX12_entry 37 = .ok (.ifCond .ne 7, 3) := by decide +kernel
theorem dX12_entry_40 : decode cX12_entry 40 = .ok (.sipush (-1000), 3) := by decide +kernel
theorem dX12_entry_43 : decode cX12_entry 43 = .ok (.ireturn, 1) := by decide +kernel
theorem dX12_entry_44 : decode cX12_entry 44 = .ok (.aload_n 0, 1) := by decide +kernel
theorem dX12_entry_45 : decode cX12_entry 45 = .ok (.getfield 77, 3) := by decide +kernel
theorem dX12_entry_48 : decode cX12_entry 48 = .ok (.iload_n 1, 1) := by decide +kernel
theorem dX12_entry_49 : decode cX12_entry 49 = .ok (.iload_n 2, 1) := by decide +kernel
theorem dX12_entry_50 : decode cX12_entry 50 = .ok (.invokestatic 252, 3) := by decide +kernel
theorem dX12_entry_53 : decode cX12_entry 53 = .ok (.iload_n 3, 1) := by decide +kernel
theorem dX12_entry_54 : decode cX12_entry 54 = .ok (.iadd, 1) := by decide +kernel
theorem dX12_entry_55 : decode cX12_entry 55 = .ok (.iaload, 1) := by decide +kernel
theorem dX12_entry_56 : decode cX12_entry 56 = .ok (.ireturn, 1) := by decide +kernel
theorem dX12_copiesIn_0 : decode cX12_copiesIn 0 = .ok (.iconst 0, 1) := by decide +kernel
theorem dX12_copiesIn_1 : decode cX12_copiesIn 1 = .ok (.istore_n 2, 1) := by decide +kernel
theorem dX12_copiesIn_2 : decode cX12_copiesIn 2 = .ok (.iconst 0, 1) := by decide +kernel
theorem dX12_copiesIn_3 : decode cX12_copiesIn 3 = .ok (.istore_n 3, 1) := by decide +kernel
theorem dX12_copiesIn_4 : decode cX12_copiesIn 4 = .ok (.iload_n 3, 1) := by decide +kernel
theorem dX12_copiesIn_5 : decode cX12_copiesIn 5 = .ok (.aload_n 0, 1) := by decide +kernel
theorem dX12_copiesIn_6 : decode cX12_copiesIn 6 = .ok (.iload_n 1, 1) := by decide +kernel
theorem dX12_copiesIn_7 : decode cX12_copiesIn 7 = .ok (.invokevirtual 249, 3) := by decide +kernel
theorem dX12_copiesIn_10 : decode cX12_copiesIn 10 = .ok (.if_icmp .ge 41, 3) := by decide +kernel
theorem dX12_copiesIn_13 : decode cX12_copiesIn 13 = .ok (.aload_n 0, 1) := by decide +kernel
theorem dX12_copiesIn_14 : decode cX12_copiesIn 14 = .ok (.getfield 77, 3) := by decide +kernel
theorem dX12_copiesIn_17 : decode cX12_copiesIn 17 = .ok (.iload_n 1, 1) := by decide +kernel
theorem dX12_copiesIn_18 : decode cX12_copiesIn 18 = .ok (.iload_n 3, 1) := by decide +kernel
theorem dX12_copiesIn_19 : decode cX12_copiesIn 19 = .ok (.invokestatic 252, 3) := by decide +kernel
theorem dX12_copiesIn_22 : decode cX12_copiesIn 22 = .ok (.iconst 1, 1) := by decide +kernel
theorem dX12_copiesIn_23 : decode cX12_copiesIn 23 = .ok (.iadd, 1) := by decide +kernel
theorem dX12_copiesIn_24 : decode cX12_copiesIn 24 = .ok (.iaload, 1) := by decide +kernel
theorem dX12_copiesIn_25 : decode cX12_copiesIn 25 = .ok (.aload_n 0, 1) := by decide +kernel
theorem dX12_copiesIn_26 : decode cX12_copiesIn 26 = .ok (.getfield 77, 3) := by decide +kernel
theorem dX12_copiesIn_29 : decode cX12_copiesIn 29 = .ok (.sipush 1410, 3) := by decide +kernel
theorem dX12_copiesIn_32 : decode cX12_copiesIn 32 = .ok (.iconst 4, 1) := by decide +kernel
theorem dX12_copiesIn_33 : decode cX12_copiesIn 33 = .ok (.iload_n 1, 1) := by decide +kernel
theorem dX12_copiesIn_34 : decode cX12_copiesIn 34 = .ok (.imul, 1) := by decide +kernel
theorem dX12_copiesIn_35 : decode cX12_copiesIn 35 = .ok (.iadd, 1) := by decide +kernel
theorem dX12_copiesIn_36 : decode cX12_copiesIn 36 = .ok (.iconst 2, 1) := by decide +kernel
theorem dX12_copiesIn_37 : decode cX12_copiesIn 37 = .ok (.iadd, 1) := by decide +kernel
theorem dX12_copiesIn_38 : decode cX12_copiesIn 38 = .ok (.iaload, 1) := by decide +kernel
theorem dX12_copiesIn_39 : decode cX12_copiesIn 39 = .ok (.if_icmp .ge 6, 3) := by decide +kernel
theorem dX12_copiesIn_42 : decode cX12_copiesIn 42 = .ok (.iinc 2 1, 3) := by decide +kernel
theorem dX12_copiesIn_45 : decode cX12_copiesIn 45 = .ok (.iinc 3 1, 3) := by decide +kernel
theorem dX12_copiesIn_48 : decode cX12_copiesIn 48 = .ok (.goto (-44), 3) := by decide +kernel
theorem dX12_copiesIn_51 : decode cX12_copiesIn 51 = .ok (.iload_n 2, 1) := by decide +kernel
theorem dX12_copiesIn_52 : decode cX12_copiesIn 52 = .ok (.ireturn, 1) := by decide +kernel
theorem dX12_room_0 : decode cX12_room 0 = .ok (.iload_n 1, 1) := by decide +kernel
theorem dX12_room_1 : decode cX12_room 1 = .ok (.iconst 0, 1) := by decide +kernel
theorem dX12_room_2 : decode cX12_room 2 = .ok (.iconst 5, 1) := by decide +kernel
theorem dX12_room_3 : decode cX12_room 3 = .ok (.invokestatic 324, 3) := by decide +kernel
theorem dX12_room_6 : decode cX12_room 6 = .ok (.ifCond .ne 5, 3) := by decide +kernel
theorem dX12_room_9 : decode cX12_room 9 = .ok (.iconst (-1), 1) := by decide +kernel
theorem dX12_room_10 : decode cX12_room 10 = .ok (.ireturn, 1) := by decide +kernel
theorem dX12_room_11 : decode cX12_room 11 = .ok (.iconst 0, 1) := by decide +kernel
theorem dX12_room_12 : decode cX12_room 12 = .ok (.istore_n 2, 1) := by decide +kernel
theorem dX12_room_13 : decode cX12_room 13 = .ok (.iconst 0, 1) := by decide +kernel
theorem dX12_room_14 : decode cX12_room 14 = .ok (.istore_n 3, 1) := by decide +kernel
theorem dX12_room_15 : decode cX12_room 15 = .ok (.iconst 0, 1) := by decide +kernel
theorem dX12_room_16 : decode cX12_room 16 = .ok (.istore 4, 2) := by decide +kernel
theorem dX12_room_18 : decode cX12_room 18 = .ok (.iconst 0, 1) := by decide +kernel
theorem dX12_room_19 : decode cX12_room 19 = .ok (.istore 5, 2) := by decide +kernel
theorem dX12_room_21 : decode cX12_room 21 = .ok (.iload 5, 2) := by decide +kernel
theorem dX12_room_23 : decode cX12_room 23 = .ok (.aload_n 0, 1) := by decide +kernel
theorem dX12_room_24 : decode cX12_room 24 = .ok (.getfield 77, 3) := by decide +kernel
theorem dX12_room_27 : decode cX12_room 27 = .ok (.iconst 3, 1) := by decide +kernel
theorem dX12_room_28 : decode cX12_room 28 = .ok (.iaload, 1) := by decide +kernel
theorem dX12_room_29 : decode cX12_room 29 = .ok (.if_icmp .ge 61, 3) := by decide +kernel
theorem dX12_room_32 : decode cX12_room 32 = .ok (.iload_n 2, 1) := by decide +kernel
theorem dX12_room_33 : decode cX12_room 33 = .ok (.aload_n 0, 1) := by decide +kernel
theorem dX12_room_34 : decode cX12_room 34 = .ok (.iload 5, 2) := by decide +kernel
theorem dX12_room_36 : decode cX12_room 36 = .ok (.invokevirtual 249, 3) := by decide +kernel
theorem dX12_room_39 : decode cX12_room 39 = .ok (.iadd, 1) := by decide +kernel
theorem dX12_room_40 : decode cX12_room 40 = .ok (.istore_n 2, 1) := by decide +kernel
theorem dX12_room_41 : decode cX12_room 41 = .ok (.aload_n 0, 1) := by decide +kernel
theorem dX12_room_42 : decode cX12_room 42 = .ok (.getfield 77, 3) := by decide +kernel
theorem dX12_room_45 : decode cX12_room 45 = .ok (.sipush 1410, 3) := by decide +kernel
theorem dX12_room_48 : decode cX12_room 48 = .ok (.iconst 4, 1) := by decide +kernel
theorem dX12_room_49 : decode cX12_room 49 = .ok (.iload 5, 2) := by decide +kernel
theorem dX12_room_51 : decode cX12_room 51 = .ok (.imul, 1) := by decide +kernel
theorem dX12_room_52 : decode cX12_room 52 = .ok (.iadd, 1) := by decide +kernel
theorem dX12_room_53 : decode cX12_room 53 = .ok (.iconst 3, 1) := by decide +kernel
theorem dX12_room_54 : decode cX12_room 54 = .ok (.iadd, 1) := by decide +kernel
theorem dX12_room_55 : decode cX12_room 55 = .ok (.iaload, 1) := by decide +kernel
theorem dX12_room_56 : decode cX12_room 56 = .ok (.bipush (-2), 2) := by decide +kernel
theorem dX12_room_58 : decode cX12_room 58 = .ok (.if_icmp .eq 6, 3) := by decide +kernel
theorem dX12_room_61 : decode cX12_room 61 = .ok (.iinc 3 1, 3) := by decide +kernel
theorem dX12_room_64 : decode cX12_room 64 = .ok (.aload_n 0, 1) := by decide +kernel
theorem dX12_room_65 : decode cX12_room 65 = .ok (.iload 5, 2) := by decide +kernel
theorem dX12_room_67 : decode cX12_room 67 = .ok (.invokevirtual 265, 3) := by decide +kernel
theorem dX12_room_70 : decode cX12_room 70 = .ok (.ifCond .eq 14, 3) := by decide +kernel
theorem dX12_room_73 : decode cX12_room 73 = .ok (.iload 4, 2) := by decide +kernel
theorem dX12_room_75 : decode cX12_room 75 = .ok (.aload_n 0, 1) := by decide +kernel
theorem dX12_room_76 : decode cX12_room 76 = .ok (.iload 5, 2) := by decide +kernel
theorem dX12_room_78 : decode cX12_room 78 = .ok (.invokevirtual 384, 3) := by decide +kernel
theorem dX12_room_81 : decode cX12_room 81 = .ok (.iadd, 1) := by decide +kernel
theorem dX12_room_82 : decode cX12_room 82 = .ok (.istore 4, 2) := by decide +kernel
theorem dX12_room_84 : decode cX12_room 84 = .ok (.iinc 5 1, 3) := by decide +kernel
theorem dX12_room_87 : decode cX12_room 87 = .ok (.goto (-66), 3) := by decide +kernel
theorem dX12_room_90 : decode cX12_room 90 = .ok (.iload_n 1, 1) := by decide +kernel
theorem dX12_room_91 : decode cX12_room 91 = .ok (.tableswitch 54 0 4 #[33, 40, 42, 44, 51], 33) := by decide +kernel
theorem dX12_room_124 : decode cX12_room 124 = .ok (.aload_n 0, 1) := by decide +kernel
theorem dX12_room_125 : decode cX12_room 125 = .ok (.getfield 77, 3) := by decide +kernel
theorem dX12_room_128 : decode cX12_room 128 = .ok (.iconst 3, 1) := by decide +kernel
theorem dX12_room_129 : decode cX12_room 129 = .ok (.iaload, 1) := by decide +kernel
theorem dX12_room_130 : decode cX12_room 130 = .ok (.ireturn, 1) := by decide +kernel
theorem dX12_room_131 : decode cX12_room 131 = .ok (.iload_n 2, 1) := by decide +kernel
theorem dX12_room_132 : decode cX12_room 132 = .ok (.ireturn, 1) := by decide +kernel
theorem dX12_room_133 : decode cX12_room 133 = .ok (.iload_n 3, 1) := by decide +kernel
theorem dX12_room_134 : decode cX12_room 134 = .ok (.ireturn, 1) := by decide +kernel
theorem dX12_room_135 : decode cX12_room 135 = .ok (.aload_n 0, 1) := by decide +kernel
theorem dX12_room_136 : decode cX12_room 136 = .ok (.getfield 77, 3) := by decide +kernel
theorem dX12_room_139 : decode cX12_room 139 = .ok (.iconst 2, 1) := by decide +kernel
theorem dX12_room_140 : decode cX12_room 140 = .ok (.iaload, 1) := by decide +kernel
theorem dX12_room_141 : decode cX12_room 141 = .ok (.ireturn, 1) := by decide +kernel
theorem dX12_room_142 : decode cX12_room 142 = .ok (.iload 4, 2) := by decide +kernel
theorem dX12_room_144 : decode cX12_room 144 = .ok (.ireturn, 1) := by decide +kernel
theorem dX12_room_145 : decode cX12_room 145 = .ok (.aload_n 0, 1) := by decide +kernel
theorem dX12_room_146 : decode cX12_room 146 = .ok (.getfield 77, 3) := by decide +kernel
theorem dX12_room_149 : decode cX12_room 149 = .ok (.iconst 0, 1) := by decide +kernel
theorem dX12_room_150 : decode cX12_room 150 = .ok (.iaload, 1) := by decide +kernel
theorem dX12_room_151 : decode cX12_room 151 = .ok (.ifCond .ne 7, 3) := by decide +kernel
theorem dX12_room_154 : decode cX12_room 154 = .ok (.iconst 0, 1) := by decide +kernel
theorem dX12_room_155 : decode cX12_room 155 = .ok (.goto 15, 3) := by decide +kernel
theorem dX12_room_158 : decode cX12_room 158 = .ok (.sipush 1000, 3) := by decide +kernel
theorem dX12_room_161 : decode cX12_room 161 = .ok (.iload_n 2, 1) := by decide +kernel
theorem dX12_room_162 : decode cX12_room 162 = .ok (.imul, 1) := by decide +kernel
theorem dX12_room_163 : decode cX12_room 163 = .ok (.aload_n 0, 1) := by decide +kernel
theorem dX12_room_164 : decode cX12_room 164 = .ok (.getfield 77, 3) := by decide +kernel
theorem dX12_room_167 : decode cX12_room 167 = .ok (.iconst 0, 1) := by decide +kernel
theorem dX12_room_168 : decode cX12_room 168 = .ok (.iaload, 1) := by decide +kernel
theorem dX12_room_169 : decode cX12_room 169 = .ok (.idiv, 1) := by decide +kernel
theorem dX12_room_170 : decode cX12_room 170 = .ok (.ireturn, 1) := by decide +kernel
theorem dX12_hold_0 : decode cX12_hold 0 = .ok (.iload_n 1, 1) := by decide +kernel
theorem dX12_hold_1 : decode cX12_hold 1 = .ok (.iconst 0, 1) := by decide +kernel
theorem dX12_hold_2 : decode cX12_hold 2 = .ok (.iconst 2, 1) := by decide +kernel
theorem dX12_hold_3 : decode cX12_hold 3 = .ok (.invokestatic 324, 3) := by decide +kernel
theorem dX12_hold_6 : decode cX12_hold 6 = .ok (.ifCond .ne 5, 3) := by decide +kernel
theorem dX12_hold_9 : decode cX12_hold 9 = .ok (.iconst 0, 1) := by decide +kernel
theorem dX12_hold_10 : decode cX12_hold 10 = .ok (.ireturn, 1) := by decide +kernel
theorem dX12_hold_11 : decode cX12_hold 11 = .ok (.aload_n 0, 1) := by decide +kernel
theorem dX12_hold_12 : decode cX12_hold 12 = .ok (.getfield 104, 3) := by decide +kernel
theorem dX12_hold_15 : decode cX12_hold 15 = .ok (.iload_n 1, 1) := by decide +kernel
theorem dX12_hold_16 : decode cX12_hold 16 = .ok (.iconst 1, 1) := by decide +kernel
theorem dX12_hold_17 : decode cX12_hold 17 = .ok (.bastore, 1) := by decide +kernel
theorem dX12_hold_18 : decode cX12_hold 18 = .ok (.iconst 0, 1) := by decide +kernel
theorem dX12_hold_19 : decode cX12_hold 19 = .ok (.istore_n 2, 1) := by decide +kernel
theorem dX12_hold_20 : decode cX12_hold 20 = .ok (.iload_n 2, 1) := by decide +kernel
theorem dX12_hold_21 : decode cX12_hold 21 = .ok (.ldc 76, 2) := by decide +kernel
theorem dX12_hold_23 : decode cX12_hold 23 = .ok (.if_icmp .ge 26, 3) := by decide +kernel
theorem dX12_hold_26 : decode cX12_hold 26 = .ok (.aload_n 0, 1) := by decide +kernel
theorem dX12_hold_27 : decode cX12_hold 27 = .ok (.getfield 109, 3) := by decide +kernel
theorem dX12_hold_30 : decode cX12_hold 30 = .ok (.ldc 76, 2) := by decide +kernel
theorem dX12_hold_32 : decode cX12_hold 32 = .ok (.iload_n 1, 1) := by decide +kernel
theorem dX12_hold_33 : decode cX12_hold 33 = .ok (.imul, 1) := by decide +kernel
theorem dX12_hold_34 : decode cX12_hold 34 = .ok (.iload_n 2, 1) := by decide +kernel
theorem dX12_hold_35 : decode cX12_hold 35 = .ok (.iadd, 1) := by decide +kernel
theorem dX12_hold_36 : decode cX12_hold 36 = .ok (.aload_n 0, 1) := by decide +kernel
theorem dX12_hold_37 : decode cX12_hold 37 = .ok (.getfield 77, 3) := by decide +kernel
theorem dX12_hold_40 : decode cX12_hold 40 = .ok (.iload_n 2, 1) := by decide +kernel
theorem dX12_hold_41 : decode cX12_hold 41 = .ok (.iaload, 1) := by decide +kernel
theorem dX12_hold_42 : decode cX12_hold 42 = .ok (.iastore, 1) := by decide +kernel
theorem dX12_hold_43 : decode cX12_hold 43 = .ok (.iinc 2 1, 3) := by decide +kernel
theorem dX12_hold_46 : decode cX12_hold 46 = .ok (.goto (-26), 3) := by decide +kernel
theorem dX12_hold_49 : decode cX12_hold 49 = .ok (.iconst 1, 1) := by decide +kernel
theorem dX12_hold_50 : decode cX12_hold 50 = .ok (.ireturn, 1) := by decide +kernel
theorem dX12_restore_0 : decode cX12_restore 0 = .ok (.iload_n 1, 1) := by decide +kernel
theorem dX12_restore_1 : decode cX12_restore 1 = .ok (.iconst 0, 1) := by decide +kernel
theorem dX12_restore_2 : decode cX12_restore 2 = .ok (.iconst 2, 1) := by decide +kernel
theorem dX12_restore_3 : decode cX12_restore 3 = .ok (.invokestatic 324, 3) := by decide +kernel
theorem dX12_restore_6 : decode cX12_restore 6 = .ok (.ifCond .eq 12, 3) := by decide +kernel
theorem dX12_restore_9 : decode cX12_restore 9 = .ok (.aload_n 0, 1) := by decide +kernel
theorem dX12_restore_10 : decode cX12_restore 10 = .ok (.getfield 104, 3) := by decide +kernel
theorem dX12_restore_13 : decode cX12_restore 13 = .ok (.iload_n 1, 1) := by decide +kernel
theorem dX12_restore_14 : decode cX12_restore 14 = .ok (.baload, 1) := by decide +kernel
theorem dX12_restore_15 : decode cX12_restore 15 = .ok (.ifCond .ne 5, 3) := by decide +kernel
theorem dX12_restore_18 : decode cX12_restore 18 = .ok (.iconst 0, 1) := by decide +kernel
theorem dX12_restore_19 : decode cX12_restore 19 = .ok (.ireturn, 1) := by decide +kernel
theorem dX12_restore_20 : decode cX12_restore 20 = .ok (.iconst 0, 1) := by decide +kernel
theorem dX12_restore_21 : decode cX12_restore 21 = .ok (.istore_n 2, 1) := by decide +kernel
theorem dX12_restore_22 : decode cX12_restore 22 = .ok (.iload_n 2, 1) := by decide +kernel
theorem dX12_restore_23 : decode cX12_restore 23 = .ok (.ldc 76, 2) := by decide +kernel
theorem dX12_restore_25 : decode cX12_restore 25 = .ok (.if_icmp .ge 26, 3) := by decide +kernel
theorem dX12_restore_28 : decode cX12_restore 28 = .ok (.aload_n 0, 1) := by decide +kernel
theorem dX12_restore_29 : decode cX12_restore 29 = .ok (.getfield 77, 3) := by decide +kernel
theorem dX12_restore_32 : decode cX12_restore 32 = .ok (.iload_n 2, 1) := by decide +kernel
theorem dX12_restore_33 : decode cX12_restore 33 = .ok (.aload_n 0, 1) := by decide +kernel
theorem dX12_restore_34 : decode cX12_restore 34 = .ok (.getfield 109, 3) := by decide +kernel
theorem dX12_restore_37 : decode cX12_restore 37 = .ok (.ldc 76, 2) := by decide +kernel
theorem dX12_restore_39 : decode cX12_restore 39 = .ok (.iload_n 1, 1) := by decide +kernel
theorem dX12_restore_40 : decode cX12_restore 40 = .ok (.imul, 1) := by decide +kernel
theorem dX12_restore_41 : decode cX12_restore 41 = .ok (.iload_n 2, 1) := by decide +kernel
theorem dX12_restore_42 : decode cX12_restore 42 = .ok (.iadd, 1) := by decide +kernel
theorem dX12_restore_43 : decode cX12_restore 43 = .ok (.iaload, 1) := by decide +kernel
theorem dX12_restore_44 : decode cX12_restore 44 = .ok (.iastore, 1) := by decide +kernel
theorem dX12_restore_45 : decode cX12_restore 45 = .ok (.iinc 2 1, 3) := by decide +kernel
theorem dX12_restore_48 : decode cX12_restore 48 = .ok (.goto (-26), 3) := by decide +kernel
theorem dX12_restore_51 : decode cX12_restore 51 = .ok (.iconst 1, 1) := by decide +kernel
theorem dX12_restore_52 : decode cX12_restore 52 = .ok (.ireturn, 1) := by decide +kernel
theorem dX12_keyFrom_0 : decode cX12_keyFrom 0 = .ok (.iload_n 1, 1) := by decide +kernel
theorem dX12_keyFrom_1 : decode cX12_keyFrom 1 = .ok (.istore_n 3, 1) := by decide +kernel
theorem dX12_keyFrom_2 : decode cX12_keyFrom 2 = .ok (.iload_n 3, 1) := by decide +kernel
theorem dX12_keyFrom_3 : decode cX12_keyFrom 3 = .ok (.invokestatic 328, 3) := by decide +kernel
theorem dX12_keyFrom_6 : decode cX12_keyFrom 6 = .ok (.ifCond .eq 24, 3) := by decide +kernel
theorem dX12_keyFrom_9 : decode cX12_keyFrom 9 = .ok (.aload_n 0, 1) := by decide +kernel
theorem dX12_keyFrom_10 : decode cX12_keyFrom 10 = .ok (.getfield 77, 3) := by decide +kernel
theorem dX12_keyFrom_13 : decode cX12_keyFrom 13 = .ok (.ldc 242, 2) := by decide +kernel
theorem dX12_keyFrom_15 : decode cX12_keyFrom 15 = .ok (.iload_n 3, 1) := by decide +kernel
theorem dX12_keyFrom_16 : decode cX12_keyFrom 16 = .ok (.iadd, 1) := by decide +kernel
theorem dX12_keyFrom_17 : decode cX12_keyFrom 17 = .ok (.iaload, 1) := by decide +kernel
theorem dX12_keyFrom_18 : decode cX12_keyFrom 18 = .ok (.ifCond .lt 5, 3) := by decide +kernel
theorem dX12_keyFrom_21 : decode cX12_keyFrom 21 = .ok (.iload_n 3, 1) := by decide +kernel
theorem dX12_keyFrom_22 : decode cX12_keyFrom 22 = .ok (.ireturn, 1) := by decide +kernel
theorem dX12_keyFrom_23 : decode cX12_keyFrom 23 = .ok (.iload_n 3, 1) := by decide +kernel
theorem dX12_keyFrom_24 : decode cX12_keyFrom 24 = .ok (.iload_n 2, 1) := by decide +kernel
theorem dX12_keyFrom_25 : decode cX12_keyFrom 25 = .ok (.iadd, 1) := by decide +kernel
theorem dX12_keyFrom_26 : decode cX12_keyFrom 26 = .ok (.istore_n 3, 1) := by decide +kernel
theorem dX12_keyFrom_27 : decode cX12_keyFrom 27 = .ok (.goto (-25), 3) := by decide +kernel
theorem dX12_keyFrom_30 : decode cX12_keyFrom 30 = .ok (.bipush (-2), 2) := by decide +kernel
theorem dX12_keyFrom_32 : decode cX12_keyFrom 32 = .ok (.ireturn, 1) := by decide +kernel
theorem dX12_count_0 : decode cX12_count 0 = .ok (.iconst 0, 1) := by decide +kernel
theorem dX12_count_1 : decode cX12_count 1 = .ok (.istore_n 2, 1) := by decide +kernel
theorem dX12_count_2 : decode cX12_count 2 = .ok (.iload_n 1, 1) := by decide +kernel
theorem dX12_count_3 : decode cX12_count 3 = .ok (.tableswitch 211 0 10 #[57, 64, 72, 79, 84, 91, 99, 104, 149, 158, 165], 57) := by decide +kernel
theorem dX12_count_60 : decode cX12_count 60 = .ok (.aload_n 0, 1) := by decide +kernel
theorem dX12_count_61 : decode cX12_count 61 = .ok (.getfield 77, 3) := by decide +kernel
theorem dX12_count_64 : decode cX12_count 64 = .ok (.iconst 0, 1) := by decide +kernel
theorem dX12_count_65 : decode cX12_count 65 = .ok (.iaload, 1) := by decide +kernel
theorem dX12_count_66 : decode cX12_count 66 = .ok (.ireturn, 1) := by decide +kernel
theorem dX12_count_67 : decode cX12_count 67 = .ok (.aload_n 0, 1) := by decide +kernel
theorem dX12_count_68 : decode cX12_count 68 = .ok (.getfield 77, 3) := by decide +kernel
theorem dX12_count_71 : decode cX12_count 71 = .ok (.bipush 7, 2) := by decide +kernel
theorem dX12_count_73 : decode cX12_count 73 = .ok (.iaload, 1) := by decide +kernel
theorem dX12_count_74 : decode cX12_count 74 = .ok (.ireturn, 1) := by decide +kernel
theorem dX12_count_75 : decode cX12_count 75 = .ok (.aload_n 0, 1) := by decide +kernel
theorem dX12_count_76 : decode cX12_count 76 = .ok (.getfield 77, 3) := by decide +kernel
theorem dX12_count_79 : decode cX12_count 79 = .ok (.iconst 1, 1) := by decide +kernel
theorem dX12_count_80 : decode cX12_count 80 = .ok (.iaload, 1) := by decide +kernel
theorem dX12_count_81 : decode cX12_count 81 = .ok (.ireturn, 1) := by decide +kernel
theorem dX12_count_82 : decode cX12_count 82 = .ok (.aload_n 0, 1) := by decide +kernel
theorem dX12_count_83 : decode cX12_count 83 = .ok (.invokevirtual 288, 3) := by decide +kernel
theorem dX12_count_86 : decode cX12_count 86 = .ok (.ireturn, 1) := by decide +kernel
theorem dX12_count_87 : decode cX12_count 87 = .ok (.aload_n 0, 1) := by decide +kernel
theorem dX12_count_88 : decode cX12_count 88 = .ok (.getfield 77, 3) := by decide +kernel
theorem dX12_count_91 : decode cX12_count 91 = .ok (.iconst 5, 1) := by decide +kernel
theorem dX12_count_92 : decode cX12_count 92 = .ok (.iaload, 1) := by decide +kernel
theorem dX12_count_93 : decode cX12_count 93 = .ok (.ireturn, 1) := by decide +kernel
theorem dX12_count_94 : decode cX12_count 94 = .ok (.aload_n 0, 1) := by decide +kernel
theorem dX12_count_95 : decode cX12_count 95 = .ok (.getfield 77, 3) := by decide +kernel
theorem dX12_count_98 : decode cX12_count 98 = .ok (.bipush 6, 2) := by decide +kernel
theorem dX12_count_100 : decode cX12_count 100 = .ok (.iaload, 1) := by decide +kernel
theorem dX12_count_101 : decode cX12_count 101 = .ok (.ireturn, 1) := by decide +kernel
theorem dX12_count_102 : decode cX12_count 102 = .ok (.aload_n 0, 1) := by decide +kernel
theorem dX12_count_103 : decode cX12_count 103 = .ok (.getfield 120, 3) := by decide +kernel
theorem dX12_count_106 : decode cX12_count 106 = .ok (.ireturn, 1) := by decide +kernel
theorem dX12_count_107 : decode cX12_count 107 = .ok (.aload_n 0, 1) := by decide +kernel
theorem dX12_count_108 : decode cX12_count 108 = .ok (.getfield 104, 3) := by decide +kernel
theorem dX12_count_111 : decode cX12_count 111 = .ok (.iconst 0, 1) := by decide +kernel
theorem dX12_count_112 : decode cX12_count 112 = .ok (.baload, 1) := by decide +kernel
theorem dX12_count_113 : decode cX12_count 113 = .ok (.ifCond .eq 7, 3) := by decide +kernel
theorem dX12_count_116 : decode cX12_count 116 = .ok (.iconst 1, 1) := by decide +kernel
theorem dX12_count_117 : decode cX12_count 117 = .ok (.goto 4, 3) := by decide +kernel
theorem dX12_count_120 : decode cX12_count 120 = .ok (.iconst 0, 1) := by decide +kernel
theorem dX12_count_121 : decode cX12_count 121 = .ok (.aload_n 0, 1) := by decide +kernel
theorem dX12_count_122 : decode cX12_count 122 = .ok (.getfield 104, 3) := by decide +kernel
theorem dX12_count_125 : decode cX12_count 125 = .ok (.iconst 1, 1) := by decide +kernel
theorem dX12_count_126 : decode cX12_count 126 = .ok (.baload, 1) := by decide +kernel
theorem dX12_count_127 : decode cX12_count 127 = .ok (.ifCond .eq 7, 3) := by decide +kernel
theorem dX12_count_130 : decode cX12_count 130 = .ok (.iconst 1, 1) := by decide +kernel
theorem dX12_count_131 : decode cX12_count 131 = .ok (.goto 4, 3) := by decide +kernel
theorem dX12_count_134 : decode cX12_count 134 = .ok (.iconst 0, 1) := by decide +kernel
theorem dX12_count_135 : decode cX12_count 135 = .ok (.iadd, 1) := by decide +kernel
theorem dX12_count_136 : decode cX12_count 136 = .ok (.aload_n 0, 1) := by decide +kernel
theorem dX12_count_137 : decode cX12_count 137 = .ok (.getfield 104, 3) := by decide +kernel
theorem dX12_count_140 : decode cX12_count 140 = .ok (.iconst 2, 1) := by decide +kernel
theorem dX12_count_141 : decode cX12_count 141 = .ok (.baload, 1) := by decide +kernel
theorem dX12_count_142 : decode cX12_count 142 = .ok (.ifCond .eq 7, 3) := by decide +kernel
theorem dX12_count_145 : decode cX12_count 145 = .ok (.iconst 1, 1) := by decide +kernel
theorem dX12_count_146 : decode cX12_count 146 = .ok (.goto 4, 3) := by decide +kernel
theorem dX12_count_149 : decode cX12_count 149 = .ok (.iconst 0, 1) := by decide +kernel
theorem dX12_count_150 : decode cX12_count 150 = .ok (.iadd, 1) := by decide +kernel
theorem dX12_count_151 : decode cX12_count 151 = .ok (.ireturn, 1) := by decide +kernel
theorem dX12_count_152 : decode cX12_count 152 = .ok (.aload_n 0, 1) := by decide +kernel
theorem dX12_count_153 : decode cX12_count 153 = .ok (.sipush 999, 3) := by decide +kernel
theorem dX12_count_156 : decode cX12_count 156 = .ok (.iconst (-1), 1) := by decide +kernel
theorem dX12_count_157 : decode cX12_count 157 = .ok (.invokevirtual 387, 3) := by decide +kernel
theorem dX12_count_160 : decode cX12_count 160 = .ok (.ireturn, 1) := by decide +kernel
theorem dX12_count_161 : decode cX12_count 161 = .ok (.aload_n 0, 1) := by decide +kernel
theorem dX12_count_162 : decode cX12_count 162 = .ok (.iconst 0, 1) := by decide +kernel
theorem dX12_count_163 : decode cX12_count 163 = .ok (.iconst 1, 1) := by decide +kernel
theorem dX12_count_164 : decode cX12_count 164 = .ok (.invokevirtual 387, 3) := by decide +kernel
theorem dX12_count_167 : decode cX12_count 167 = .ok (.ireturn, 1) := by decide +kernel
theorem dX12_count_168 : decode cX12_count 168 = .ok (.iconst 0, 1) := by decide +kernel
theorem dX12_count_169 : decode cX12_count 169 = .ok (.istore_n 3, 1) := by decide +kernel
theorem dX12_count_170 : decode cX12_count 170 = .ok (.iload_n 3, 1) := by decide +kernel
theorem dX12_count_171 : decode cX12_count 171 = .ok (.aload_n 0, 1) := by decide +kernel
theorem dX12_count_172 : decode cX12_count 172 = .ok (.getfield 77, 3) := by decide +kernel
theorem dX12_count_175 : decode cX12_count 175 = .ok (.iconst 3, 1) := by decide +kernel
theorem dX12_count_176 : decode cX12_count 176 = .ok (.iaload, 1) := by decide +kernel
theorem dX12_count_177 : decode cX12_count 177 = .ok (.if_icmp .ge 35, 3) := by decide +kernel
theorem dX12_count_180 : decode cX12_count 180 = .ok (.aload_n 0, 1) := by decide +kernel
theorem dX12_count_181 : decode cX12_count 181 = .ok (.getfield 77, 3) := by decide +kernel
theorem dX12_count_184 : decode cX12_count 184 = .ok (.sipush 1410, 3) := by decide +kernel
theorem dX12_count_187 : decode cX12_count 187 = .ok (.iconst 4, 1) := by decide +kernel
theorem dX12_count_188 : decode cX12_count 188 = .ok (.iload_n 3, 1) := by decide +kernel
theorem dX12_count_189 : decode cX12_count 189 = .ok (.imul, 1) := by decide +kernel
theorem dX12_count_190 : decode cX12_count 190 = .ok (.iadd, 1) := by decide +kernel
theorem dX12_count_191 : decode cX12_count 191 = .ok (.iconst 2, 1) := by decide +kernel
theorem dX12_count_192 : decode cX12_count 192 = .ok (.iadd, 1) := by decide +kernel
theorem dX12_count_193 : decode cX12_count 193 = .ok (.iaload, 1) := by decide +kernel
theorem dX12_count_194 : decode cX12_count 194 = .ok (.aload_n 0, 1) := by decide +kernel
theorem dX12_count_195 : decode cX12_count 195 = .ok (.getfield 77, 3) := by decide +kernel
theorem dX12_count_198 : decode cX12_count 198 = .ok (.iconst 0, 1) := by decide +kernel
theorem dX12_count_199 : decode cX12_count 199 = .ok (.iaload, 1) := by decide +kernel
theorem dX12_count_200 : decode cX12_count 200 = .ok (.if_icmp .ne 6, 3) := by decide +kernel
theorem dX12_count_203 : decode cX12_count 203 = .ok (.iinc 2 1, 3) := by decide +kernel
theorem dX12_count_206 : decode cX12_count 206 = .ok (.iinc 3 1, 3) := by decide +kernel
theorem dX12_count_209 : decode cX12_count 209 = .ok (.goto (-39), 3) := by decide +kernel
theorem dX12_count_212 : decode cX12_count 212 = .ok (.iload_n 2, 1) := by decide +kernel
theorem dX12_count_213 : decode cX12_count 213 = .ok (.ireturn, 1) := by decide +kernel
theorem dX12_count_214 : decode cX12_count 214 = .ok (.iconst (-1), 1) := by decide +kernel
theorem dX12_count_215 : decode cX12_count 215 = .ok (.ireturn, 1) := by decide +kernel
