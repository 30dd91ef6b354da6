/-! the law's rows -/
theorem dL_0 : decode code 0 = .ok (.new 7, 3) := by decide +kernel
theorem dL_3 : decode code 3 = .ok (.dup, 1) := by decide +kernel
theorem dL_4 : decode code 4 = .ok (.invokespecial 9, 3) := by decide +kernel
theorem dL_7 : decode code 7 = .ok (.astore_n 1, 1) := by decide +kernel
theorem dL_8 : decode code 8 = .ok (.new 10, 3) := by decide +kernel
theorem dL_11 : decode code 11 = .ok (.dup, 1) := by decide +kernel
theorem dL_12 : decode code 12 = .ok (.invokespecial 12, 3) := by decide +kernel
theorem dL_15 : decode code 15 = .ok (.astore_n 2, 1) := by decide +kernel
theorem dL_16 : decode code 16 = .ok (.iconst 0, 1) := by decide +kernel
theorem dL_17 : decode code 17 = .ok (.istore_n 3, 1) := by decide +kernel
theorem dL_18 : decode code 18 = .ok (.iload_n 3, 1) := by decide +kernel
theorem dL_19 : decode code 19 = .ok (.aload_n 0, 1) := by decide +kernel
theorem dL_20 : decode code 20 = .ok (.arraylength, 1) := by decide +kernel
theorem dL_21 : decode code 21 = .ok (.bipush 6, 2) := by decide +kernel
theorem dL_23 : decode code 23 = .ok (.isub, 1) := by decide +kernel
theorem dL_24 : decode code 24 = .ok (.if_icmp .gt 1382, 3) := by decide +kernel
theorem dL_27 : decode code 27 = .ok (.aload_n 0, 1) := by decide +kernel
theorem dL_28 : decode code 28 = .ok (.iload_n 3, 1) := by decide +kernel
theorem dL_29 : decode code 29 = .ok (.iaload, 1) := by decide +kernel
theorem dL_30 : decode code 30 = .ok (.bipush 63, 2) := by decide +kernel
theorem dL_32 : decode code 32 = .ok (.iand, 1) := by decide +kernel
theorem dL_33 : decode code 33 = .ok (.tableswitch 1367 0 35 #[159, 222, 245, 258, 271, 304, 327, 360, 393, 426, 469, 512, 545, 578, 611, 664, 717, 760, 783, 826, 869, 892, 915, 948, 991, 1014, 1057, 1090, 1133, 1166, 1199, 1232, 1275, 1298, 1321, 1344], 159) := by decide +kernel
theorem dL_192 : decode code 192 = .ok (.aload_n 1, 1) := by decide +kernel
theorem dL_193 : decode code 193 = .ok (.aload_n 0, 1) := by decide +kernel
theorem dL_194 : decode code 194 = .ok (.iload_n 3, 1) := by decide +kernel
theorem dL_195 : decode code 195 = .ok (.iconst 1, 1) := by decide +kernel
theorem dL_196 : decode code 196 = .ok (.iadd, 1) := by decide +kernel
theorem dL_197 : decode code 197 = .ok (.iaload, 1) := by decide +kernel
theorem dL_198 : decode code 198 = .ok (.aload_n 0, 1) := by decide +kernel
theorem dL_199 : decode code 199 = .ok (.iload_n 3, 1) := by decide +kernel
theorem dL_200 : decode code 200 = .ok (.iconst 2, 1) := by decide +kernel
theorem dL_201 : decode code 201 = .ok (.iadd, 1) := by decide +kernel
theorem dL_202 : decode code 202 = .ok (.iaload, 1) := by decide +kernel
theorem dL_203 : decode code 203 = .ok (.aload_n 0, 1) := by decide +kernel
theorem dL_204 : decode code 204 = .ok (.iload_n 3, 1) := by decide +kernel
theorem dL_205 : decode code 205 = .ok (.iconst 3, 1) := by decide +kernel
theorem dL_206 : decode code 206 = .ok (.iadd, 1) := by decide +kernel
theorem dL_207 : decode code 207 = .ok (.iaload, 1) := by decide +kernel
theorem dL_208 : decode code 208 = .ok (.aload_n 0, 1) := by decide +kernel
theorem dL_209 : decode code 209 = .ok (.iload_n 3, 1) := by decide +kernel
theorem dL_210 : decode code 210 = .ok (.iconst 4, 1) := by decide +kernel
theorem dL_211 : decode code 211 = .ok (.iadd, 1) := by decide +kernel
theorem dL_212 : decode code 212 = .ok (.iaload, 1) := by decide +kernel
theorem dL_213 : decode code 213 = .ok (.aload_n 0, 1) := by decide +kernel
theorem dL_214 : decode code 214 = .ok (.iload_n 3, 1) := by decide +kernel
theorem dL_215 : decode code 215 = .ok (.iconst 5, 1) := by decide +kernel
theorem dL_216 : decode code 216 = .ok (.iadd, 1) := by decide +kernel
theorem dL_217 : decode code 217 = .ok (.iaload, 1) := by decide +kernel
theorem dL_218 : decode code 218 = .ok (.invokevirtual 13, 3) := by decide +kernel
theorem dL_221 : decode code 221 = .ok (.aload_n 2, 1) := by decide +kernel
theorem dL_222 : decode code 222 = .ok (.aload_n 0, 1) := by decide +kernel
theorem dL_223 : decode code 223 = .ok (.iload_n 3, 1) := by decide +kernel
theorem dL_224 : decode code 224 = .ok (.iconst 1, 1) := by decide +kernel
theorem dL_225 : decode code 225 = .ok (.iadd, 1) := by decide +kernel
theorem dL_226 : decode code 226 = .ok (.iaload, 1) := by decide +kernel
theorem dL_227 : decode code 227 = .ok (.aload_n 0, 1) := by decide +kernel
theorem dL_228 : decode code 228 = .ok (.iload_n 3, 1) := by decide +kernel
theorem dL_229 : decode code 229 = .ok (.iconst 2, 1) := by decide +kernel
theorem dL_230 : decode code 230 = .ok (.iadd, 1) := by decide +kernel
theorem dL_231 : decode code 231 = .ok (.iaload, 1) := by decide +kernel
theorem dL_232 : decode code 232 = .ok (.aload_n 0, 1) := by decide +kernel
theorem dL_233 : decode code 233 = .ok (.iload_n 3, 1) := by decide +kernel
theorem dL_234 : decode code 234 = .ok (.iconst 3, 1) := by decide +kernel
theorem dL_235 : decode code 235 = .ok (.iadd, 1) := by decide +kernel
theorem dL_236 : decode code 236 = .ok (.iaload, 1) := by decide +kernel
theorem dL_237 : decode code 237 = .ok (.aload_n 0, 1) := by decide +kernel
theorem dL_238 : decode code 238 = .ok (.iload_n 3, 1) := by decide +kernel
theorem dL_239 : decode code 239 = .ok (.iconst 4, 1) := by decide +kernel
theorem dL_240 : decode code 240 = .ok (.iadd, 1) := by decide +kernel
theorem dL_241 : decode code 241 = .ok (.iaload, 1) := by decide +kernel
theorem dL_242 : decode code 242 = .ok (.aload_n 0, 1) := by decide +kernel
theorem dL_243 : decode code 243 = .ok (.iload_n 3, 1) := by decide +kernel
theorem dL_244 : decode code 244 = .ok (.iconst 5, 1) := by decide +kernel
theorem dL_245 : decode code 245 = .ok (.iadd, 1) := by decide +kernel
theorem dL_246 : decode code 246 = .ok (.iaload, 1) := by decide +kernel
theorem dL_247 : decode code 247 = .ok (.invokevirtual 17, 3) := by decide +kernel
theorem dL_250 : decode code 250 = .ok (.if_icmp .eq 1150, 3) := by decide +kernel
theorem dL_253 : decode code 253 = .ok (.iconst 0, 1) := by decide +kernel
theorem dL_254 : decode code 254 = .ok (.ireturn, 1) := by decide +kernel
theorem dL_255 : decode code 255 = .ok (.aload_n 1, 1) := by decide +kernel
theorem dL_256 : decode code 256 = .ok (.aload_n 0, 1) := by decide +kernel
theorem dL_257 : decode code 257 = .ok (.iload_n 3, 1) := by decide +kernel
theorem dL_258 : decode code 258 = .ok (.iconst 1, 1) := by decide +kernel
theorem dL_259 : decode code 259 = .ok (.iadd, 1) := by decide +kernel
theorem dL_260 : decode code 260 = .ok (.iaload, 1) := by decide +kernel
theorem dL_261 : decode code 261 = .ok (.invokevirtual 18, 3) := by decide +kernel
theorem dL_264 : decode code 264 = .ok (.aload_n 2, 1) := by decide +kernel
theorem dL_265 : decode code 265 = .ok (.aload_n 0, 1) := by decide +kernel
theorem dL_266 : decode code 266 = .ok (.iload_n 3, 1) := by decide +kernel
theorem dL_267 : decode code 267 = .ok (.iconst 1, 1) := by decide +kernel
theorem dL_268 : decode code 268 = .ok (.iadd, 1) := by decide +kernel
theorem dL_269 : decode code 269 = .ok (.iaload, 1) := by decide +kernel
theorem dL_270 : decode code 270 = .ok (.invokevirtual 22, 3) := by decide +kernel
theorem dL_273 : decode code 273 = .ok (.if_icmp .eq 1127, 3) := by decide +kernel
theorem dL_276 : decode code 276 = .ok (.iconst 0, 1) := by decide +kernel
theorem dL_277 : decode code 277 = .ok (.ireturn, 1) := by decide +kernel
theorem dL_278 : decode code 278 = .ok (.aload_n 1, 1) := by decide +kernel
theorem dL_279 : decode code 279 = .ok (.invokevirtual 23, 3) := by decide +kernel
theorem dL_282 : decode code 282 = .ok (.aload_n 2, 1) := by decide +kernel
theorem dL_283 : decode code 283 = .ok (.invokevirtual 27, 3) := by decide +kernel
theorem dL_286 : decode code 286 = .ok (.if_icmp .eq 1114, 3) := by decide +kernel
theorem dL_289 : decode code 289 = .ok (.iconst 0, 1) := by decide +kernel
theorem dL_290 : decode code 290 = .ok (.ireturn, 1) := by decide +kernel
theorem dL_291 : decode code 291 = .ok (.aload_n 1, 1) := by decide +kernel
theorem dL_292 : decode code 292 = .ok (.invokevirtual 28, 3) := by decide +kernel
theorem dL_295 : decode code 295 = .ok (.aload_n 2, 1) := by decide +kernel
theorem dL_296 : decode code 296 = .ok (.invokevirtual 31, 3) := by decide +kernel
theorem dL_299 : decode code 299 = .ok (.if_icmp .eq 1101, 3) := by decide +kernel
theorem dL_302 : decode code 302 = .ok (.iconst 0, 1) := by decide +kernel
theorem dL_303 : decode code 303 = .ok (.ireturn, 1) := by decide +kernel
theorem dL_304 : decode code 304 = .ok (.aload_n 1, 1) := by decide +kernel
theorem dL_305 : decode code 305 = .ok (.aload_n 0, 1) := by decide +kernel
theorem dL_306 : decode code 306 = .ok (.iload_n 3, 1) := by decide +kernel
theorem dL_307 : decode code 307 = .ok (.iconst 1, 1) := by decide +kernel
theorem dL_308 : decode code 308 = .ok (.iadd, 1) := by decide +kernel
theorem dL_309 : decode code 309 = .ok (.iaload, 1) := by decide +kernel
theorem dL_310 : decode code 310 = .ok (.aload_n 0, 1) := by decide +kernel
theorem dL_311 : decode code 311 = .ok (.iload_n 3, 1) := by decide +kernel
theorem dL_312 : decode code 312 = .ok (.iconst 2, 1) := by decide +kernel
theorem dL_313 : decode code 313 = .ok (.iadd, 1) := by decide +kernel
theorem dL_314 : decode code 314 = .ok (.iaload, 1) := by decide +kernel
theorem dL_315 : decode code 315 = .ok (.invokevirtual 32, 3) := by decide +kernel
theorem dL_318 : decode code 318 = .ok (.aload_n 2, 1) := by decide +kernel
theorem dL_319 : decode code 319 = .ok (.aload_n 0, 1) := by decide +kernel
theorem dL_320 : decode code 320 = .ok (.iload_n 3, 1) := by decide +kernel
theorem dL_321 : decode code 321 = .ok (.iconst 1, 1) := by decide +kernel
theorem dL_322 : decode code 322 = .ok (.iadd, 1) := by decide +kernel
theorem dL_323 : decode code 323 = .ok (.iaload, 1) := by decide +kernel
theorem dL_324 : decode code 324 = .ok (.aload_n 0, 1) := by decide +kernel
theorem dL_325 : decode code 325 = .ok (.iload_n 3, 1) := by decide +kernel
theorem dL_326 : decode code 326 = .ok (.iconst 2, 1) := by decide +kernel
theorem dL_327 : decode code 327 = .ok (.iadd, 1) := by decide +kernel
theorem dL_328 : decode code 328 = .ok (.iaload, 1) := by decide +kernel
theorem dL_329 : decode code 329 = .ok (.invokevirtual 36, 3) := by decide +kernel
theorem dL_332 : decode code 332 = .ok (.if_icmp .eq 1068, 3) := by decide +kernel
theorem dL_335 : decode code 335 = .ok (.iconst 0, 1) := by decide +kernel
theorem dL_336 : decode code 336 = .ok (.ireturn, 1) := by decide +kernel
theorem dL_337 : decode code 337 = .ok (.aload_n 1, 1) := by decide +kernel
theorem dL_338 : decode code 338 = .ok (.aload_n 0, 1) := by decide +kernel
theorem dL_339 : decode code 339 = .ok (.iload_n 3, 1) := by decide +kernel
theorem dL_340 : decode code 340 = .ok (.iconst 1, 1) := by decide +kernel
theorem dL_341 : decode code 341 = .ok (.iadd, 1) := by decide +kernel
theorem dL_342 : decode code 342 = .ok (.iaload, 1) := by decide +kernel
theorem dL_343 : decode code 343 = .ok (.invokevirtual 37, 3) := by decide +kernel
theorem dL_346 : decode code 346 = .ok (.aload_n 2, 1) := by decide +kernel
theorem dL_347 : decode code 347 = .ok (.aload_n 0, 1) := by decide +kernel
theorem dL_348 : decode code 348 = .ok (.iload_n 3, 1) := by decide +kernel
theorem dL_349 : decode code 349 = .ok (.iconst 1, 1) := by decide +kernel
theorem dL_350 : decode code 350 = .ok (.iadd, 1) := by decide +kernel
theorem dL_351 : decode code 351 = .ok (.iaload, 1) := by decide +kernel
theorem dL_352 : decode code 352 = .ok (.invokevirtual 40, 3) := by decide +kernel
theorem dL_355 : decode code 355 = .ok (.if_icmp .eq 1045, 3) := by decide +kernel
theorem dL_358 : decode code 358 = .ok (.iconst 0, 1) := by decide +kernel
theorem dL_359 : decode code 359 = .ok (.ireturn, 1) := by decide +kernel
theorem dL_360 : decode code 360 = .ok (.aload_n 1, 1) := by decide +kernel
theorem dL_361 : decode code 361 = .ok (.aload_n 0, 1) := by decide +kernel
theorem dL_362 : decode code 362 = .ok (.iload_n 3, 1) := by decide +kernel
theorem dL_363 : decode code 363 = .ok (.iconst 1, 1) := by decide +kernel
theorem dL_364 : decode code 364 = .ok (.iadd, 1) := by decide +kernel
theorem dL_365 : decode code 365 = .ok (.iaload, 1) := by decide +kernel
theorem dL_366 : decode code 366 = .ok (.aload_n 0, 1) := by decide +kernel
theorem dL_367 : decode code 367 = .ok (.iload_n 3, 1) := by decide +kernel
theorem dL_368 : decode code 368 = .ok (.iconst 2, 1) := by decide +kernel
theorem dL_369 : decode code 369 = .ok (.iadd, 1) := by decide +kernel
theorem dL_370 : decode code 370 = .ok (.iaload, 1) := by decide +kernel
theorem dL_371 : decode code 371 = .ok (.invokevirtual 41, 3) := by decide +kernel
theorem dL_374 : decode code 374 = .ok (.aload_n 2, 1) := by decide +kernel
theorem dL_375 : decode code 375 = .ok (.aload_n 0, 1) := by decide +kernel
theorem dL_376 : decode code 376 = .ok (.iload_n 3, 1) := by decide +kernel
theorem dL_377 : decode code 377 = .ok (.iconst 1, 1) := by decide +kernel
theorem dL_378 : decode code 378 = .ok (.iadd, 1) := by decide +kernel
theorem dL_379 : decode code 379 = .ok (.iaload, 1) := by decide +kernel
theorem dL_380 : decode code 380 = .ok (.aload_n 0, 1) := by decide +kernel
theorem dL_381 : decode code 381 = .ok (.iload_n 3, 1) := by decide +kernel
theorem dL_382 : decode code 382 = .ok (.iconst 2, 1) := by decide +kernel
theorem dL_383 : decode code 383 = .ok (.iadd, 1) := by decide +kernel
theorem dL_384 : decode code 384 = .ok (.iaload, 1) := by decide +kernel
theorem dL_385 : decode code 385 = .ok (.invokevirtual 44, 3) := by decide +kernel
theorem dL_388 : decode code 388 = .ok (.if_icmp .eq 1012, 3) := by decide +kernel
theorem dL_391 : decode code 391 = .ok (.iconst 0, 1) := by decide +kernel
theorem dL_392 : decode code 392 = .ok (.ireturn, 1) := by decide +kernel
theorem dL_393 : decode code 393 = .ok (.aload_n 1, 1) := by decide +kernel
theorem dL_394 : decode code 394 = .ok (.aload_n 0, 1) := by decide +kernel
theorem dL_395 : decode code 395 = .ok (.iload_n 3, 1) := by decide +kernel
theorem dL_396 : decode code 396 = .ok (.iconst 1, 1) := by decide +kernel
theorem dL_397 : decode code 397 = .ok (.iadd, 1) := by decide +kernel
theorem dL_398 : decode code 398 = .ok (.iaload, 1) := by decide +kernel
theorem dL_399 : decode code 399 = .ok (.aload_n 0, 1) := by decide +kernel
theorem dL_400 : decode code 400 = .ok (.iload_n 3, 1) := by decide +kernel
theorem dL_401 : decode code 401 = .ok (.iconst 2, 1) := by decide +kernel
theorem dL_402 : decode code 402 = .ok (.iadd, 1) := by decide +kernel
theorem dL_403 : decode code 403 = .ok (.iaload, 1) := by decide +kernel
theorem dL_404 : decode code 404 = .ok (.invokevirtual 45, 3) := by decide +kernel
theorem dL_407 : decode code 407 = .ok (.aload_n 2, 1) := by decide +kernel
theorem dL_408 : decode code 408 = .ok (.aload_n 0, 1) := by decide +kernel
theorem dL_409 : decode code 409 = .ok (.iload_n 3, 1) := by decide +kernel
theorem dL_410 : decode code 410 = .ok (.iconst 1, 1) := by decide +kernel
theorem dL_411 : decode code 411 = .ok (.iadd, 1) := by decide +kernel
theorem dL_412 : decode code 412 = .ok (.iaload, 1) := by decide +kernel
theorem dL_413 : decode code 413 = .ok (.aload_n 0, 1) := by decide +kernel
theorem dL_414 : decode code 414 = .ok (.iload_n 3, 1) := by decide +kernel
theorem dL_415 : decode code 415 = .ok (.iconst 2, 1) := by decide +kernel
theorem dL_416 : decode code 416 = .ok (.iadd, 1) := by decide +kernel
theorem dL_417 : decode code 417 = .ok (.iaload, 1) := by decide +kernel
theorem dL_418 : decode code 418 = .ok (.invokevirtual 48, 3) := by decide +kernel
theorem dL_421 : decode code 421 = .ok (.if_icmp .eq 979, 3) := by decide +kernel
theorem dL_424 : decode code 424 = .ok (.iconst 0, 1) := by decide +kernel
theorem dL_425 : decode code 425 = .ok (.ireturn, 1) := by decide +kernel
theorem dL_426 : decode code 426 = .ok (.aload_n 1, 1) := by decide +kernel
theorem dL_427 : decode code 427 = .ok (.aload_n 0, 1) := by decide +kernel
theorem dL_428 : decode code 428 = .ok (.iload_n 3, 1) := by decide +kernel
theorem dL_429 : decode code 429 = .ok (.iconst 1, 1) := by decide +kernel
theorem dL_430 : decode code 430 = .ok (.iadd, 1) := by decide +kernel
theorem dL_431 : decode code 431 = .ok (.iaload, 1) := by decide +kernel
theorem dL_432 : decode code 432 = .ok (.aload_n 0, 1) := by decide +kernel
theorem dL_433 : decode code 433 = .ok (.iload_n 3, 1) := by decide +kernel
theorem dL_434 : decode code 434 = .ok (.iconst 2, 1) := by decide +kernel
theorem dL_435 : decode code 435 = .ok (.iadd, 1) := by decide +kernel
theorem dL_436 : decode code 436 = .ok (.iaload, 1) := by decide +kernel
theorem dL_437 : decode code 437 = .ok (.invokevirtual 49, 3) := by decide +kernel
theorem dL_440 : decode code 440 = .ok (.aload_n 2, 1) := by decide +kernel
theorem dL_441 : decode code 441 = .ok (.aload_n 0, 1) := by decide +kernel
theorem dL_442 : decode code 442 = .ok (.iload_n 3, 1) := by decide +kernel
theorem dL_443 : decode code 443 = .ok (.iconst 1, 1) := by decide +kernel
theorem dL_444 : decode code 444 = .ok (.iadd, 1) := by decide +kernel
theorem dL_445 : decode code 445 = .ok (.iaload, 1) := by decide +kernel
theorem dL_446 : decode code 446 = .ok (.aload_n 0, 1) := by decide +kernel
theorem dL_447 : decode code 447 = .ok (.iload_n 3, 1) := by decide +kernel
theorem dL_448 : decode code 448 = .ok (.iconst 2, 1) := by decide +kernel
theorem dL_449 : decode code 449 = .ok (.iadd, 1) := by decide +kernel
theorem dL_450 : decode code 450 = .ok (.iaload, 1) := by decide +kernel
theorem dL_451 : decode code 451 = .ok (.invokevirtual 52, 3) := by decide +kernel
theorem dL_454 : decode code 454 = .ok (.if_icmp .eq 946, 3) := by decide +kernel
theorem dL_457 : decode code 457 = .ok (.iconst 0, 1) := by decide +kernel
theorem dL_458 : decode code 458 = .ok (.ireturn, 1) := by decide +kernel
theorem dL_459 : decode code 459 = .ok (.aload_n 1, 1) := by decide +kernel
theorem dL_460 : decode code 460 = .ok (.aload_n 0, 1) := by decide +kernel
theorem dL_461 : decode code 461 = .ok (.iload_n 3, 1) := by decide +kernel
theorem dL_462 : decode code 462 = .ok (.iconst 1, 1) := by decide +kernel
theorem dL_463 : decode code 463 = .ok (.iadd, 1) := by decide +kernel
theorem dL_464 : decode code 464 = .ok (.iaload, 1) := by decide +kernel
theorem dL_465 : decode code 465 = .ok (.aload_n 0, 1) := by decide +kernel
theorem dL_466 : decode code 466 = .ok (.iload_n 3, 1) := by decide +kernel
theorem dL_467 : decode code 467 = .ok (.iconst 2, 1) := by decide +kernel
theorem dL_468 : decode code 468 = .ok (.iadd, 1) := by decide +kernel
theorem dL_469 : decode code 469 = .ok (.iaload, 1) := by decide +kernel
theorem dL_470 : decode code 470 = .ok (.aload_n 0, 1) := by decide +kernel
theorem dL_471 : decode code 471 = .ok (.iload_n 3, 1) := by decide +kernel
theorem dL_472 : decode code 472 = .ok (.iconst 3, 1) := by decide +kernel
theorem dL_473 : decode code 473 = .ok (.iadd, 1) := by decide +kernel
theorem dL_474 : decode code 474 = .ok (.iaload, 1) := by decide +kernel
theorem dL_475 : decode code 475 = .ok (.invokevirtual 53, 3) := by decide +kernel
theorem dL_478 : decode code 478 = .ok (.aload_n 2, 1) := by decide +kernel
theorem dL_479 : decode code 479 = .ok (.aload_n 0, 1) := by decide +kernel
theorem dL_480 : decode code 480 = .ok (.iload_n 3, 1) := by decide +kernel
theorem dL_481 : decode code 481 = .ok (.iconst 1, 1) := by decide +kernel
theorem dL_482 : decode code 482 = .ok (.iadd, 1) := by decide +kernel
theorem dL_483 : decode code 483 = .ok (.iaload, 1) := by decide +kernel
theorem dL_484 : decode code 484 = .ok (.aload_n 0, 1) := by decide +kernel
theorem dL_485 : decode code 485 = .ok (.iload_n 3, 1) := by decide +kernel
theorem dL_486 : decode code 486 = .ok (.iconst 2, 1) := by decide +kernel
theorem dL_487 : decode code 487 = .ok (.iadd, 1) := by decide +kernel
theorem dL_488 : decode code 488 = .ok (.iaload, 1) := by decide +kernel
theorem dL_489 : decode code 489 = .ok (.aload_n 0, 1) := by decide +kernel
theorem dL_490 : decode code 490 = .ok (.iload_n 3, 1) := by decide +kernel
theorem dL_491 : decode code 491 = .ok (.iconst 3, 1) := by decide +kernel
theorem dL_492 : decode code 492 = .ok (.iadd, 1) := by decide +kernel
theorem dL_493 : decode code 493 = .ok (.iaload, 1) := by decide +kernel
theorem dL_494 : decode code 494 = .ok (.invokevirtual 57, 3) := by decide +kernel
theorem dL_497 : decode code 497 = .ok (.if_icmp .eq 903, 3) := by decide +kernel
theorem dL_500 : decode code 500 = .ok (.iconst 0, 1) := by decide +kernel
theorem dL_501 : decode code 501 = .ok (.ireturn, 1) := by decide +kernel
theorem dL_502 : decode code 502 = .ok (.aload_n 1, 1) := by decide +kernel
theorem dL_503 : decode code 503 = .ok (.aload_n 0, 1) := by decide +kernel
theorem dL_504 : decode code 504 = .ok (.iload_n 3, 1) := by decide +kernel
theorem dL_505 : decode code 505 = .ok (.iconst 1, 1) := by decide +kernel
theorem dL_506 : decode code 506 = .ok (.iadd, 1) := by decide +kernel
theorem dL_507 : decode code 507 = .ok (.iaload, 1) := by decide +kernel
theorem dL_508 : decode code 508 = .ok (.aload_n 0, 1) := by decide +kernel
theorem dL_509 : decode code 509 = .ok (.iload_n 3, 1) := by decide +kernel
theorem dL_510 : decode code 510 = .ok (.iconst 2, 1) := by decide +kernel
theorem dL_511 : decode code 511 = .ok (.iadd, 1) := by decide +kernel
theorem dL_512 : decode code 512 = .ok (.iaload, 1) := by decide +kernel
theorem dL_513 : decode code 513 = .ok (.aload_n 0, 1) := by decide +kernel
theorem dL_514 : decode code 514 = .ok (.iload_n 3, 1) := by decide +kernel
theorem dL_515 : decode code 515 = .ok (.iconst 3, 1) := by decide +kernel
theorem dL_516 : decode code 516 = .ok (.iadd, 1) := by decide +kernel
theorem dL_517 : decode code 517 = .ok (.iaload, 1) := by decide +kernel
theorem dL_518 : decode code 518 = .ok (.invokevirtual 58, 3) := by decide +kernel
theorem dL_521 : decode code 521 = .ok (.aload_n 2, 1) := by decide +kernel
theorem dL_522 : decode code 522 = .ok (.aload_n 0, 1) := by decide +kernel
theorem dL_523 : decode code 523 = .ok (.iload_n 3, 1) := by decide +kernel
theorem dL_524 : decode code 524 = .ok (.iconst 1, 1) := by decide +kernel
theorem dL_525 : decode code 525 = .ok (.iadd, 1) := by decide +kernel
theorem dL_526 : decode code 526 = .ok (.iaload, 1) := by decide +kernel
theorem dL_527 : decode code 527 = .ok (.aload_n 0, 1) := by decide +kernel
theorem dL_528 : decode code 528 = .ok (.iload_n 3, 1) := by decide +kernel
theorem dL_529 : decode code 529 = .ok (.iconst 2, 1) := by decide +kernel
theorem dL_530 : decode code 530 = .ok (.iadd, 1) := by decide +kernel
theorem dL_531 : decode code 531 = .ok (.iaload, 1) := by decide +kernel
theorem dL_532 : decode code 532 = .ok (.aload_n 0, 1) := by decide +kernel
theorem dL_533 : decode code 533 = .ok (.iload_n 3, 1) := by decide +kernel
theorem dL_534 : decode code 534 = .ok (.iconst 3, 1) := by decide +kernel
theorem dL_535 : decode code 535 = .ok (.iadd, 1) := by decide +kernel
theorem dL_536 : decode code 536 = .ok (.iaload, 1) := by decide +kernel
theorem dL_537 : decode code 537 = .ok (.invokevirtual 61, 3) := by decide +kernel
theorem dL_540 : decode code 540 = .ok (.if_icmp .eq 860, 3) := by decide +kernel
theorem dL_543 : decode code 543 = .ok (.iconst 0, 1) := by decide +kernel
theorem dL_544 : decode code 544 = .ok (.ireturn, 1) := by decide +kernel
theorem dL_545 : decode code 545 = .ok (.aload_n 1, 1) := by decide +kernel
theorem dL_546 : decode code 546 = .ok (.aload_n 0, 1) := by decide +kernel
theorem dL_547 : decode code 547 = .ok (.iload_n 3, 1) := by decide +kernel
theorem dL_548 : decode code 548 = .ok (.iconst 1, 1) := by decide +kernel
theorem dL_549 : decode code 549 = .ok (.iadd, 1) := by decide +kernel
theorem dL_550 : decode code 550 = .ok (.iaload, 1) := by decide +kernel
theorem dL_551 : decode code 551 = .ok (.aload_n 0, 1) := by decide +kernel
theorem dL_552 : decode code 552 = .ok (.iload_n 3, 1) := by decide +kernel
theorem dL_553 : decode code 553 = .ok (.iconst 2, 1) := by decide +kernel
theorem dL_554 : decode code 554 = .ok (.iadd, 1) := by decide +kernel
theorem dL_555 : decode code 555 = .ok (.iaload, 1) := by decide +kernel
theorem dL_556 : decode code 556 = .ok (.invokevirtual 62, 3) := by decide +kernel
theorem dL_559 : decode code 559 = .ok (.aload_n 2, 1) := by decide +kernel
theorem dL_560 : decode code 560 = .ok (.aload_n 0, 1) := by decide +kernel
theorem dL_561 : decode code 561 = .ok (.iload_n 3, 1) := by decide +kernel
theorem dL_562 : decode code 562 = .ok (.iconst 1, 1) := by decide +kernel
theorem dL_563 : decode code 563 = .ok (.iadd, 1) := by decide +kernel
theorem dL_564 : decode code 564 = .ok (.iaload, 1) := by decide +kernel
theorem dL_565 : decode code 565 = .ok (.aload_n 0, 1) := by decide +kernel
theorem dL_566 : decode code 566 = .ok (.iload_n 3, 1) := by decide +kernel
theorem dL_567 : decode code 567 = .ok (.iconst 2, 1) := by decide +kernel
theorem dL_568 : decode code 568 = .ok (.iadd, 1) := by decide +kernel
theorem dL_569 : decode code 569 = .ok (.iaload, 1) := by decide +kernel
theorem dL_570 : decode code 570 = .ok (.invokevirtual 65, 3) := by decide +kernel
theorem dL_573 : decode code 573 = .ok (.if_icmp .eq 827, 3) := by decide +kernel
theorem dL_576 : decode code 576 = .ok (.iconst 0, 1) := by decide +kernel
theorem dL_577 : decode code 577 = .ok (.ireturn, 1) := by decide +kernel
theorem dL_578 : decode code 578 = .ok (.aload_n 1, 1) := by decide +kernel
theorem dL_579 : decode code 579 = .ok (.aload_n 0, 1) := by decide +kernel
theorem dL_580 : decode code 580 = .ok (.iload_n 3, 1) := by decide +kernel
theorem dL_581 : decode code 581 = .ok (.iconst 1, 1) := by decide +kernel
theorem dL_582 : decode code 582 = .ok (.iadd, 1) := by decide +kernel
theorem dL_583 : decode code 583 = .ok (.iaload, 1) := by decide +kernel
theorem dL_584 : decode code 584 = .ok (.aload_n 0, 1) := by decide +kernel
theorem dL_585 : decode code 585 = .ok (.iload_n 3, 1) := by decide +kernel
theorem dL_586 : decode code 586 = .ok (.iconst 2, 1) := by decide +kernel
theorem dL_587 : decode code 587 = .ok (.iadd, 1) := by decide +kernel
theorem dL_588 : decode code 588 = .ok (.iaload, 1) := by decide +kernel
theorem dL_589 : decode code 589 = .ok (.invokevirtual 66, 3) := by decide +kernel
theorem dL_592 : decode code 592 = .ok (.aload_n 2, 1) := by decide +kernel
theorem dL_593 : decode code 593 = .ok (.aload_n 0, 1) := by decide +kernel
theorem dL_594 : decode code 594 = .ok (.iload_n 3, 1) := by decide +kernel
theorem dL_595 : decode code 595 = .ok (.iconst 1, 1) := by decide +kernel
theorem dL_596 : decode code 596 = .ok (.iadd, 1) := by decide +kernel
theorem dL_597 : decode code 597 = .ok (.iaload, 1) := by decide +kernel
theorem dL_598 : decode code 598 = .ok (.aload_n 0, 1) := by decide +kernel
theorem dL_599 : decode code 599 = .ok (.iload_n 3, 1) := by decide +kernel
theorem dL_600 : decode code 600 = .ok (.iconst 2, 1) := by decide +kernel
theorem dL_601 : decode code 601 = .ok (.iadd, 1) := by decide +kernel
theorem dL_602 : decode code 602 = .ok (.iaload, 1) := by decide +kernel
theorem dL_603 : decode code 603 = .ok (.invokevirtual 69, 3) := by decide +kernel
theorem dL_606 : decode code 606 = .ok (.if_icmp .eq 794, 3) := by decide +kernel
theorem dL_609 : decode code 609 = .ok (.iconst 0, 1) := by decide +kernel
theorem dL_610 : decode code 610 = .ok (.ireturn, 1) := by decide +kernel
theorem dL_611 : decode code 611 = .ok (.aload_n 1, 1) := by decide +kernel
theorem dL_612 : decode code 612 = .ok (.aload_n 0, 1) := by decide +kernel
theorem dL_613 : decode code 613 = .ok (.iload_n 3, 1) := by decide +kernel
theorem dL_614 : decode code 614 = .ok (.iconst 1, 1) := by decide +kernel
theorem dL_615 : decode code 615 = .ok (.iadd, 1) := by decide +kernel
theorem dL_616 : decode code 616 = .ok (.iaload, 1) := by decide +kernel
theorem dL_617 : decode code 617 = .ok (.aload_n 0, 1) := by decide +kernel
theorem dL_618 : decode code 618 = .ok (.iload_n 3, 1) := by decide +kernel
theorem dL_619 : decode code 619 = .ok (.iconst 2, 1) := by decide +kernel
theorem dL_620 : decode code 620 = .ok (.iadd, 1) := by decide +kernel
theorem dL_621 : decode code 621 = .ok (.iaload, 1) := by decide +kernel
theorem dL_622 : decode code 622 = .ok (.invokevirtual 70, 3) := by decide +kernel
theorem dL_625 : decode code 625 = .ok (.aload_n 2, 1) := by decide +kernel
theorem dL_626 : decode code 626 = .ok (.aload_n 0, 1) := by decide +kernel
theorem dL_627 : decode code 627 = .ok (.iload_n 3, 1) := by decide +kernel
theorem dL_628 : decode code 628 = .ok (.iconst 1, 1) := by decide +kernel
theorem dL_629 : decode code 629 = .ok (.iadd, 1) := by decide +kernel
theorem dL_630 : decode code 630 = .ok (.iaload, 1) := by decide +kernel
theorem dL_631 : decode code 631 = .ok (.aload_n 0, 1) := by decide +kernel
theorem dL_632 : decode code 632 = .ok (.iload_n 3, 1) := by decide +kernel
theorem dL_633 : decode code 633 = .ok (.iconst 2, 1) := by decide +kernel
theorem dL_634 : decode code 634 = .ok (.iadd, 1) := by decide +kernel
theorem dL_635 : decode code 635 = .ok (.iaload, 1) := by decide +kernel
theorem dL_636 : decode code 636 = .ok (.invokevirtual 73, 3) := by decide +kernel
theorem dL_639 : decode code 639 = .ok (.if_icmp .eq 761, 3) := by decide +kernel
theorem dL_642 : decode code 642 = .ok (.iconst 0, 1) := by decide +kernel
theorem dL_643 : decode code 643 = .ok (.ireturn, 1) := by decide +kernel
theorem dL_644 : decode code 644 = .ok (.aload_n 1, 1) := by decide +kernel
theorem dL_645 : decode code 645 = .ok (.aload_n 0, 1) := by decide +kernel
theorem dL_646 : decode code 646 = .ok (.iload_n 3, 1) := by decide +kernel
theorem dL_647 : decode code 647 = .ok (.iconst 1, 1) := by decide +kernel
theorem dL_648 : decode code 648 = .ok (.iadd, 1) := by decide +kernel
theorem dL_649 : decode code 649 = .ok (.iaload, 1) := by decide +kernel
theorem dL_650 : decode code 650 = .ok (.aload_n 0, 1) := by decide +kernel
theorem dL_651 : decode code 651 = .ok (.iload_n 3, 1) := by decide +kernel
theorem dL_652 : decode code 652 = .ok (.iconst 2, 1) := by decide +kernel
theorem dL_653 : decode code 653 = .ok (.iadd, 1) := by decide +kernel
theorem dL_654 : decode code 654 = .ok (.iaload, 1) := by decide +kernel
theorem dL_655 : decode code 655 = .ok (.aload_n 0, 1) := by decide +kernel
theorem dL_656 : decode code 656 = .ok (.iload_n 3, 1) := by decide +kernel
theorem dL_657 : decode code 657 = .ok (.iconst 3, 1) := by decide +kernel
theorem dL_658 : decode code 658 = .ok (.iadd, 1) := by decide +kernel
theorem dL_659 : decode code 659 = .ok (.iaload, 1) := by decide +kernel
theorem dL_660 : decode code 660 = .ok (.aload_n 0, 1) := by decide +kernel
theorem dL_661 : decode code 661 = .ok (.iload_n 3, 1) := by decide +kernel
theorem dL_662 : decode code 662 = .ok (.iconst 4, 1) := by decide +kernel
theorem dL_663 : decode code 663 = .ok (.iadd, 1) := by decide +kernel
theorem dL_664 : decode code 664 = .ok (.iaload, 1) := by decide +kernel
theorem dL_665 : decode code 665 = .ok (.invokevirtual 74, 3) := by decide +kernel
theorem dL_668 : decode code 668 = .ok (.aload_n 2, 1) := by decide +kernel
theorem dL_669 : decode code 669 = .ok (.aload_n 0, 1) := by decide +kernel
theorem dL_670 : decode code 670 = .ok (.iload_n 3, 1) := by decide +kernel
theorem dL_671 : decode code 671 = .ok (.iconst 1, 1) := by decide +kernel
theorem dL_672 : decode code 672 = .ok (.iadd, 1) := by decide +kernel
theorem dL_673 : decode code 673 = .ok (.iaload, 1) := by decide +kernel
theorem dL_674 : decode code 674 = .ok (.aload_n 0, 1) := by decide +kernel
theorem dL_675 : decode code 675 = .ok (.iload_n 3, 1) := by decide +kernel
theorem dL_676 : decode code 676 = .ok (.iconst 2, 1) := by decide +kernel
theorem dL_677 : decode code 677 = .ok (.iadd, 1) := by decide +kernel
theorem dL_678 : decode code 678 = .ok (.iaload, 1) := by decide +kernel
theorem dL_679 : decode code 679 = .ok (.aload_n 0, 1) := by decide +kernel
theorem dL_680 : decode code 680 = .ok (.iload_n 3, 1) := by decide +kernel
theorem dL_681 : decode code 681 = .ok (.iconst 3, 1) := by decide +kernel
theorem dL_682 : decode code 682 = .ok (.iadd, 1) := by decide +kernel
theorem dL_683 : decode code 683 = .ok (.iaload, 1) := by decide +kernel
theorem dL_684 : decode code 684 = .ok (.aload_n 0, 1) := by decide +kernel
theorem dL_685 : decode code 685 = .ok (.iload_n 3, 1) := by decide +kernel
theorem dL_686 : decode code 686 = .ok (.iconst 4, 1) := by decide +kernel
theorem dL_687 : decode code 687 = .ok (.iadd, 1) := by decide +kernel
theorem dL_688 : decode code 688 = .ok (.iaload, 1) := by decide +kernel
theorem dL_689 : decode code 689 = .ok (.invokevirtual 78, 3) := by decide +kernel
theorem dL_692 : decode code 692 = .ok (.if_icmp .eq 708, 3) := by decide +kernel
theorem dL_695 : decode code 695 = .ok (.iconst 0, 1) := by decide +kernel
theorem dL_696 : decode code 696 = .ok (.ireturn, 1) := by decide +kernel
theorem dL_697 : decode code 697 = .ok (.aload_n 1, 1) := by decide +kernel
theorem dL_698 : decode code 698 = .ok (.aload_n 0, 1) := by decide +kernel
theorem dL_699 : decode code 699 = .ok (.iload_n 3, 1) := by decide +kernel
theorem dL_700 : decode code 700 = .ok (.iconst 1, 1) := by decide +kernel
theorem dL_701 : decode code 701 = .ok (.iadd, 1) := by decide +kernel
theorem dL_702 : decode code 702 = .ok (.iaload, 1) := by decide +kernel
theorem dL_703 : decode code 703 = .ok (.aload_n 0, 1) := by decide +kernel
theorem dL_704 : decode code 704 = .ok (.iload_n 3, 1) := by decide +kernel
theorem dL_705 : decode code 705 = .ok (.iconst 2, 1) := by decide +kernel
theorem dL_706 : decode code 706 = .ok (.iadd, 1) := by decide +kernel
theorem dL_707 : decode code 707 = .ok (.iaload, 1) := by decide +kernel
theorem dL_708 : decode code 708 = .ok (.aload_n 0, 1) := by decide +kernel
theorem dL_709 : decode code 709 = .ok (.iload_n 3, 1) := by decide +kernel
theorem dL_710 : decode code 710 = .ok (.iconst 3, 1) := by decide +kernel
theorem dL_711 : decode code 711 = .ok (.iadd, 1) := by decide +kernel
theorem dL_712 : decode code 712 = .ok (.iaload, 1) := by decide +kernel
theorem dL_713 : decode code 713 = .ok (.aload_n 0, 1) := by decide +kernel
theorem dL_714 : decode code 714 = .ok (.iload_n 3, 1) := by decide +kernel
theorem dL_715 : decode code 715 = .ok (.iconst 4, 1) := by decide +kernel
theorem dL_716 : decode code 716 = .ok (.iadd, 1) := by decide +kernel
theorem dL_717 : decode code 717 = .ok (.iaload, 1) := by decide +kernel
theorem dL_718 : decode code 718 = .ok (.invokevirtual 79, 3) := by decide +kernel
theorem dL_721 : decode code 721 = .ok (.aload_n 2, 1) := by decide +kernel
theorem dL_722 : decode code 722 = .ok (.aload_n 0, 1) := by decide +kernel
theorem dL_723 : decode code 723 = .ok (.iload_n 3, 1) := by decide +kernel
theorem dL_724 : decode code 724 = .ok (.iconst 1, 1) := by decide +kernel
theorem dL_725 : decode code 725 = .ok (.iadd, 1) := by decide +kernel
theorem dL_726 : decode code 726 = .ok (.iaload, 1) := by decide +kernel
theorem dL_727 : decode code 727 = .ok (.aload_n 0, 1) := by decide +kernel
theorem dL_728 : decode code 728 = .ok (.iload_n 3, 1) := by decide +kernel
theorem dL_729 : decode code 729 = .ok (.iconst 2, 1) := by decide +kernel
theorem dL_730 : decode code 730 = .ok (.iadd, 1) := by decide +kernel
theorem dL_731 : decode code 731 = .ok (.iaload, 1) := by decide +kernel
theorem dL_732 : decode code 732 = .ok (.aload_n 0, 1) := by decide +kernel
theorem dL_733 : decode code 733 = .ok (.iload_n 3, 1) := by decide +kernel
theorem dL_734 : decode code 734 = .ok (.iconst 3, 1) := by decide +kernel
theorem dL_735 : decode code 735 = .ok (.iadd, 1) := by decide +kernel
theorem dL_736 : decode code 736 = .ok (.iaload, 1) := by decide +kernel
theorem dL_737 : decode code 737 = .ok (.aload_n 0, 1) := by decide +kernel
theorem dL_738 : decode code 738 = .ok (.iload_n 3, 1) := by decide +kernel
theorem dL_739 : decode code 739 = .ok (.iconst 4, 1) := by decide +kernel
theorem dL_740 : decode code 740 = .ok (.iadd, 1) := by decide +kernel
theorem dL_741 : decode code 741 = .ok (.iaload, 1) := by decide +kernel
theorem dL_742 : decode code 742 = .ok (.invokevirtual 82, 3) := by decide +kernel
theorem dL_745 : decode code 745 = .ok (.if_icmp .eq 655, 3) := by decide +kernel
theorem dL_748 : decode code 748 = .ok (.iconst 0, 1) := by decide +kernel
theorem dL_749 : decode code 749 = .ok (.ireturn, 1) := by decide +kernel
theorem dL_750 : decode code 750 = .ok (.aload_n 1, 1) := by decide +kernel
theorem dL_751 : decode code 751 = .ok (.aload_n 0, 1) := by decide +kernel
theorem dL_752 : decode code 752 = .ok (.iload_n 3, 1) := by decide +kernel
theorem dL_753 : decode code 753 = .ok (.iconst 1, 1) := by decide +kernel
theorem dL_754 : decode code 754 = .ok (.iadd, 1) := by decide +kernel
theorem dL_755 : decode code 755 = .ok (.iaload, 1) := by decide +kernel
theorem dL_756 : decode code 756 = .ok (.aload_n 0, 1) := by decide +kernel
theorem dL_757 : decode code 757 = .ok (.iload_n 3, 1) := by decide +kernel
theorem dL_758 : decode code 758 = .ok (.iconst 2, 1) := by decide +kernel
theorem dL_759 : decode code 759 = .ok (.iadd, 1) := by decide +kernel
theorem dL_760 : decode code 760 = .ok (.iaload, 1) := by decide +kernel
theorem dL_761 : decode code 761 = .ok (.aload_n 0, 1) := by decide +kernel
theorem dL_762 : decode code 762 = .ok (.iload_n 3, 1) := by decide +kernel
theorem dL_763 : decode code 763 = .ok (.iconst 3, 1) := by decide +kernel
theorem dL_764 : decode code 764 = .ok (.iadd, 1) := by decide +kernel
theorem dL_765 : decode code 765 = .ok (.iaload, 1) := by decide +kernel
theorem dL_766 : decode code 766 = .ok (.invokevirtual 83, 3) := by decide +kernel
theorem dL_769 : decode code 769 = .ok (.aload_n 2, 1) := by decide +kernel
theorem dL_770 : decode code 770 = .ok (.aload_n 0, 1) := by decide +kernel
theorem dL_771 : decode code 771 = .ok (.iload_n 3, 1) := by decide +kernel
theorem dL_772 : decode code 772 = .ok (.iconst 1, 1) := by decide +kernel
theorem dL_773 : decode code 773 = .ok (.iadd, 1) := by decide +kernel
theorem dL_774 : decode code 774 = .ok (.iaload, 1) := by decide +kernel
theorem dL_775 : decode code 775 = .ok (.aload_n 0, 1) := by decide +kernel
theorem dL_776 : decode code 776 = .ok (.iload_n 3, 1) := by decide +kernel
theorem dL_777 : decode code 777 = .ok (.iconst 2, 1) := by decide +kernel
theorem dL_778 : decode code 778 = .ok (.iadd, 1) := by decide +kernel
theorem dL_779 : decode code 779 = .ok (.iaload, 1) := by decide +kernel
theorem dL_780 : decode code 780 = .ok (.aload_n 0, 1) := by decide +kernel
theorem dL_781 : decode code 781 = .ok (.iload_n 3, 1) := by decide +kernel
theorem dL_782 : decode code 782 = .ok (.iconst 3, 1) := by decide +kernel
theorem dL_783 : decode code 783 = .ok (.iadd, 1) := by decide +kernel
theorem dL_784 : decode code 784 = .ok (.iaload, 1) := by decide +kernel
theorem dL_785 : decode code 785 = .ok (.invokevirtual 86, 3) := by decide +kernel
theorem dL_788 : decode code 788 = .ok (.if_icmp .eq 612, 3) := by decide +kernel
theorem dL_791 : decode code 791 = .ok (.iconst 0, 1) := by decide +kernel
theorem dL_792 : decode code 792 = .ok (.ireturn, 1) := by decide +kernel
theorem dL_793 : decode code 793 = .ok (.aload_n 1, 1) := by decide +kernel
theorem dL_794 : decode code 794 = .ok (.aload_n 0, 1) := by decide +kernel
theorem dL_795 : decode code 795 = .ok (.iload_n 3, 1) := by decide +kernel
theorem dL_796 : decode code 796 = .ok (.iconst 1, 1) := by decide +kernel
theorem dL_797 : decode code 797 = .ok (.iadd, 1) := by decide +kernel
theorem dL_798 : decode code 798 = .ok (.iaload, 1) := by decide +kernel
theorem dL_799 : decode code 799 = .ok (.invokevirtual 87, 3) := by decide +kernel
theorem dL_802 : decode code 802 = .ok (.aload_n 2, 1) := by decide +kernel
theorem dL_803 : decode code 803 = .ok (.aload_n 0, 1) := by decide +kernel
theorem dL_804 : decode code 804 = .ok (.iload_n 3, 1) := by decide +kernel
theorem dL_805 : decode code 805 = .ok (.iconst 1, 1) := by decide +kernel
theorem dL_806 : decode code 806 = .ok (.iadd, 1) := by decide +kernel
theorem dL_807 : decode code 807 = .ok (.iaload, 1) := by decide +kernel
theorem dL_808 : decode code 808 = .ok (.invokevirtual 90, 3) := by decide +kernel
theorem dL_811 : decode code 811 = .ok (.if_icmp .eq 589, 3) := by decide +kernel
theorem dL_814 : decode code 814 = .ok (.iconst 0, 1) := by decide +kernel
theorem dL_815 : decode code 815 = .ok (.ireturn, 1) := by decide +kernel
theorem dL_816 : decode code 816 = .ok (.aload_n 1, 1) := by decide +kernel
theorem dL_817 : decode code 817 = .ok (.aload_n 0, 1) := by decide +kernel
theorem dL_818 : decode code 818 = .ok (.iload_n 3, 1) := by decide +kernel
theorem dL_819 : decode code 819 = .ok (.iconst 1, 1) := by decide +kernel
theorem dL_820 : decode code 820 = .ok (.iadd, 1) := by decide +kernel
theorem dL_821 : decode code 821 = .ok (.iaload, 1) := by decide +kernel
theorem dL_822 : decode code 822 = .ok (.aload_n 0, 1) := by decide +kernel
theorem dL_823 : decode code 823 = .ok (.iload_n 3, 1) := by decide +kernel
theorem dL_824 : decode code 824 = .ok (.iconst 2, 1) := by decide +kernel
theorem dL_825 : decode code 825 = .ok (.iadd, 1) := by decide +kernel
theorem dL_826 : decode code 826 = .ok (.iaload, 1) := by decide +kernel
theorem dL_827 : decode code 827 = .ok (.aload_n 0, 1) := by decide +kernel
theorem dL_828 : decode code 828 = .ok (.iload_n 3, 1) := by decide +kernel
theorem dL_829 : decode code 829 = .ok (.iconst 3, 1) := by decide +kernel
theorem dL_830 : decode code 830 = .ok (.iadd, 1) := by decide +kernel
theorem dL_831 : decode code 831 = .ok (.iaload, 1) := by decide +kernel
theorem dL_832 : decode code 832 = .ok (.invokevirtual 91, 3) := by decide +kernel
theorem dL_835 : decode code 835 = .ok (.aload_n 2, 1) := by decide +kernel
theorem dL_836 : decode code 836 = .ok (.aload_n 0, 1) := by decide +kernel
theorem dL_837 : decode code 837 = .ok (.iload_n 3, 1) := by decide +kernel
theorem dL_838 : decode code 838 = .ok (.iconst 1, 1) := by decide +kernel
theorem dL_839 : decode code 839 = .ok (.iadd, 1) := by decide +kernel
theorem dL_840 : decode code 840 = .ok (.iaload, 1) := by decide +kernel
theorem dL_841 : decode code 841 = .ok (.aload_n 0, 1) := by decide +kernel
theorem dL_842 : decode code 842 = .ok (.iload_n 3, 1) := by decide +kernel
theorem dL_843 : decode code 843 = .ok (.iconst 2, 1) := by decide +kernel
theorem dL_844 : decode code 844 = .ok (.iadd, 1) := by decide +kernel
theorem dL_845 : decode code 845 = .ok (.iaload, 1) := by decide +kernel
theorem dL_846 : decode code 846 = .ok (.aload_n 0, 1) := by decide +kernel
theorem dL_847 : decode code 847 = .ok (.iload_n 3, 1) := by decide +kernel
theorem dL_848 : decode code 848 = .ok (.iconst 3, 1) := by decide +kernel
theorem dL_849 : decode code 849 = .ok (.iadd, 1) := by decide +kernel
theorem dL_850 : decode code 850 = .ok (.iaload, 1) := by decide +kernel
theorem dL_851 : decode code 851 = .ok (.invokevirtual 94, 3) := by decide +kernel
theorem dL_854 : decode code 854 = .ok (.if_icmp .eq 546, 3) := by decide +kernel
theorem dL_857 : decode code 857 = .ok (.iconst 0, 1) := by decide +kernel
theorem dL_858 : decode code 858 = .ok (.ireturn, 1) := by decide +kernel
theorem dL_859 : decode code 859 = .ok (.aload_n 1, 1) := by decide +kernel
theorem dL_860 : decode code 860 = .ok (.aload_n 0, 1) := by decide +kernel
theorem dL_861 : decode code 861 = .ok (.iload_n 3, 1) := by decide +kernel
theorem dL_862 : decode code 862 = .ok (.iconst 1, 1) := by decide +kernel
theorem dL_863 : decode code 863 = .ok (.iadd, 1) := by decide +kernel
theorem dL_864 : decode code 864 = .ok (.iaload, 1) := by decide +kernel
theorem dL_865 : decode code 865 = .ok (.aload_n 0, 1) := by decide +kernel
theorem dL_866 : decode code 866 = .ok (.iload_n 3, 1) := by decide +kernel
theorem dL_867 : decode code 867 = .ok (.iconst 2, 1) := by decide +kernel
theorem dL_868 : decode code 868 = .ok (.iadd, 1) := by decide +kernel
theorem dL_869 : decode code 869 = .ok (.iaload, 1) := by decide +kernel
theorem dL_870 : decode code 870 = .ok (.aload_n 0, 1) := by decide +kernel
theorem dL_871 : decode code 871 = .ok (.iload_n 3, 1) := by decide +kernel
theorem dL_872 : decode code 872 = .ok (.iconst 3, 1) := by decide +kernel
theorem dL_873 : decode code 873 = .ok (.iadd, 1) := by decide +kernel
theorem dL_874 : decode code 874 = .ok (.iaload, 1) := by decide +kernel
theorem dL_875 : decode code 875 = .ok (.invokevirtual 95, 3) := by decide +kernel
theorem dL_878 : decode code 878 = .ok (.aload_n 2, 1) := by decide +kernel
theorem dL_879 : decode code 879 = .ok (.aload_n 0, 1) := by decide +kernel
theorem dL_880 : decode code 880 = .ok (.iload_n 3, 1) := by decide +kernel
theorem dL_881 : decode code 881 = .ok (.iconst 1, 1) := by decide +kernel
theorem dL_882 : decode code 882 = .ok (.iadd, 1) := by decide +kernel
theorem dL_883 : decode code 883 = .ok (.iaload, 1) := by decide +kernel
theorem dL_884 : decode code 884 = .ok (.aload_n 0, 1) := by decide +kernel
theorem dL_885 : decode code 885 = .ok (.iload_n 3, 1) := by decide +kernel
theorem dL_886 : decode code 886 = .ok (.iconst 2, 1) := by decide +kernel
theorem dL_887 : decode code 887 = .ok (.iadd, 1) := by decide +kernel
theorem dL_888 : decode code 888 = .ok (.iaload, 1) := by decide +kernel
theorem dL_889 : decode code 889 = .ok (.aload_n 0, 1) := by decide +kernel
theorem dL_890 : decode code 890 = .ok (.iload_n 3, 1) := by decide +kernel
theorem dL_891 : decode code 891 = .ok (.iconst 3, 1) := by decide +kernel
theorem dL_892 : decode code 892 = .ok (.iadd, 1) := by decide +kernel
theorem dL_893 : decode code 893 = .ok (.iaload, 1) := by decide +kernel
theorem dL_894 : decode code 894 = .ok (.invokevirtual 98, 3) := by decide +kernel
theorem dL_897 : decode code 897 = .ok (.if_icmp .eq 503, 3) := by decide +kernel
theorem dL_900 : decode code 900 = .ok (.iconst 0, 1) := by decide +kernel
theorem dL_901 : decode code 901 = .ok (.ireturn, 1) := by decide +kernel
theorem dL_902 : decode code 902 = .ok (.aload_n 1, 1) := by decide +kernel
theorem dL_903 : decode code 903 = .ok (.aload_n 0, 1) := by decide +kernel
theorem dL_904 : decode code 904 = .ok (.iload_n 3, 1) := by decide +kernel
theorem dL_905 : decode code 905 = .ok (.iconst 1, 1) := by decide +kernel
theorem dL_906 : decode code 906 = .ok (.iadd, 1) := by decide +kernel
theorem dL_907 : decode code 907 = .ok (.iaload, 1) := by decide +kernel
theorem dL_908 : decode code 908 = .ok (.invokevirtual 99, 3) := by decide +kernel
theorem dL_911 : decode code 911 = .ok (.aload_n 2, 1) := by decide +kernel
theorem dL_912 : decode code 912 = .ok (.aload_n 0, 1) := by decide +kernel
theorem dL_913 : decode code 913 = .ok (.iload_n 3, 1) := by decide +kernel
theorem dL_914 : decode code 914 = .ok (.iconst 1, 1) := by decide +kernel
theorem dL_915 : decode code 915 = .ok (.iadd, 1) := by decide +kernel
theorem dL_916 : decode code 916 = .ok (.iaload, 1) := by decide +kernel
theorem dL_917 : decode code 917 = .ok (.invokevirtual 102, 3) := by decide +kernel
theorem dL_920 : decode code 920 = .ok (.if_icmp .eq 480, 3) := by decide +kernel
theorem dL_923 : decode code 923 = .ok (.iconst 0, 1) := by decide +kernel
theorem dL_924 : decode code 924 = .ok (.ireturn, 1) := by decide +kernel
theorem dL_925 : decode code 925 = .ok (.aload_n 1, 1) := by decide +kernel
theorem dL_926 : decode code 926 = .ok (.aload_n 0, 1) := by decide +kernel
theorem dL_927 : decode code 927 = .ok (.iload_n 3, 1) := by decide +kernel
theorem dL_928 : decode code 928 = .ok (.iconst 1, 1) := by decide +kernel
theorem dL_929 : decode code 929 = .ok (.iadd, 1) := by decide +kernel
theorem dL_930 : decode code 930 = .ok (.iaload, 1) := by decide +kernel
theorem dL_931 : decode code 931 = .ok (.invokevirtual 103, 3) := by decide +kernel
theorem dL_934 : decode code 934 = .ok (.aload_n 2, 1) := by decide +kernel
theorem dL_935 : decode code 935 = .ok (.aload_n 0, 1) := by decide +kernel
theorem dL_936 : decode code 936 = .ok (.iload_n 3, 1) := by decide +kernel
theorem dL_937 : decode code 937 = .ok (.iconst 1, 1) := by decide +kernel
theorem dL_938 : decode code 938 = .ok (.iadd, 1) := by decide +kernel
theorem dL_939 : decode code 939 = .ok (.iaload, 1) := by decide +kernel
theorem dL_940 : decode code 940 = .ok (.invokevirtual 106, 3) := by decide +kernel
theorem dL_943 : decode code 943 = .ok (.if_icmp .eq 457, 3) := by decide +kernel
theorem dL_946 : decode code 946 = .ok (.iconst 0, 1) := by decide +kernel
theorem dL_947 : decode code 947 = .ok (.ireturn, 1) := by decide +kernel
theorem dL_948 : decode code 948 = .ok (.aload_n 1, 1) := by decide +kernel
theorem dL_949 : decode code 949 = .ok (.aload_n 0, 1) := by decide +kernel
theorem dL_950 : decode code 950 = .ok (.iload_n 3, 1) := by decide +kernel
theorem dL_951 : decode code 951 = .ok (.iconst 1, 1) := by decide +kernel
theorem dL_952 : decode code 952 = .ok (.iadd, 1) := by decide +kernel
theorem dL_953 : decode code 953 = .ok (.iaload, 1) := by decide +kernel
theorem dL_954 : decode code 954 = .ok (.aload_n 0, 1) := by decide +kernel
theorem dL_955 : decode code 955 = .ok (.iload_n 3, 1) := by decide +kernel
theorem dL_956 : decode code 956 = .ok (.iconst 2, 1) := by decide +kernel
theorem dL_957 : decode code 957 = .ok (.iadd, 1) := by decide +kernel
theorem dL_958 : decode code 958 = .ok (.iaload, 1) := by decide +kernel
theorem dL_959 : decode code 959 = .ok (.invokevirtual 107, 3) := by decide +kernel
theorem dL_962 : decode code 962 = .ok (.aload_n 2, 1) := by decide +kernel
theorem dL_963 : decode code 963 = .ok (.aload_n 0, 1) := by decide +kernel
theorem dL_964 : decode code 964 = .ok (.iload_n 3, 1) := by decide +kernel
theorem dL_965 : decode code 965 = .ok (.iconst 1, 1) := by decide +kernel
theorem dL_966 : decode code 966 = .ok (.iadd, 1) := by decide +kernel
theorem dL_967 : decode code 967 = .ok (.iaload, 1) := by decide +kernel
theorem dL_968 : decode code 968 = .ok (.aload_n 0, 1) := by decide +kernel
theorem dL_969 : decode code 969 = .ok (.iload_n 3, 1) := by decide +kernel
theorem dL_970 : decode code 970 = .ok (.iconst 2, 1) := by decide +kernel
theorem dL_971 : decode code 971 = .ok (.iadd, 1) := by decide +kernel
theorem dL_972 : decode code 972 = .ok (.iaload, 1) := by decide +kernel
theorem dL_973 : decode code 973 = .ok (.invokevirtual 110, 3) := by decide +kernel
theorem dL_976 : decode code 976 = .ok (.if_icmp .eq 424, 3) := by decide +kernel
theorem dL_979 : decode code 979 = .ok (.iconst 0, 1) := by decide +kernel
theorem dL_980 : decode code 980 = .ok (.ireturn, 1) := by decide +kernel
theorem dL_981 : decode code 981 = .ok (.aload_n 1, 1) := by decide +kernel
theorem dL_982 : decode code 982 = .ok (.aload_n 0, 1) := by decide +kernel
theorem dL_983 : decode code 983 = .ok (.iload_n 3, 1) := by decide +kernel
theorem dL_984 : decode code 984 = .ok (.iconst 1, 1) := by decide +kernel
theorem dL_985 : decode code 985 = .ok (.iadd, 1) := by decide +kernel
theorem dL_986 : decode code 986 = .ok (.iaload, 1) := by decide +kernel
theorem dL_987 : decode code 987 = .ok (.aload_n 0, 1) := by decide +kernel
theorem dL_988 : decode code 988 = .ok (.iload_n 3, 1) := by decide +kernel
theorem dL_989 : decode code 989 = .ok (.iconst 2, 1) := by decide +kernel
theorem dL_990 : decode code 990 = .ok (.iadd, 1) := by decide +kernel
theorem dL_991 : decode code 991 = .ok (.iaload, 1) := by decide +kernel
theorem dL_992 : decode code 992 = .ok (.aload_n 0, 1) := by decide +kernel
theorem dL_993 : decode code 993 = .ok (.iload_n 3, 1) := by decide +kernel
theorem dL_994 : decode code 994 = .ok (.iconst 3, 1) := by decide +kernel
theorem dL_995 : decode code 995 = .ok (.iadd, 1) := by decide +kernel
theorem dL_996 : decode code 996 = .ok (.iaload, 1) := by decide +kernel
theorem dL_997 : decode code 997 = .ok (.invokevirtual 111, 3) := by decide +kernel
theorem dL_1000 : decode code 1000 = .ok (.aload_n 2, 1) := by decide +kernel
theorem dL_1001 : decode code 1001 = .ok (.aload_n 0, 1) := by decide +kernel
theorem dL_1002 : decode code 1002 = .ok (.iload_n 3, 1) := by decide +kernel
theorem dL_1003 : decode code 1003 = .ok (.iconst 1, 1) := by decide +kernel
theorem dL_1004 : decode code 1004 = .ok (.iadd, 1) := by decide +kernel
theorem dL_1005 : decode code 1005 = .ok (.iaload, 1) := by decide +kernel
theorem dL_1006 : decode code 1006 = .ok (.aload_n 0, 1) := by decide +kernel
theorem dL_1007 : decode code 1007 = .ok (.iload_n 3, 1) := by decide +kernel
theorem dL_1008 : decode code 1008 = .ok (.iconst 2, 1) := by decide +kernel
theorem dL_1009 : decode code 1009 = .ok (.iadd, 1) := by decide +kernel
theorem dL_1010 : decode code 1010 = .ok (.iaload, 1) := by decide +kernel
theorem dL_1011 : decode code 1011 = .ok (.aload_n 0, 1) := by decide +kernel
theorem dL_1012 : decode code 1012 = .ok (.iload_n 3, 1) := by decide +kernel
theorem dL_1013 : decode code 1013 = .ok (.iconst 3, 1) := by decide +kernel
theorem dL_1014 : decode code 1014 = .ok (.iadd, 1) := by decide +kernel
theorem dL_1015 : decode code 1015 = .ok (.iaload, 1) := by decide +kernel
theorem dL_1016 : decode code 1016 = .ok (.invokevirtual 114, 3) := by decide +kernel
theorem dL_1019 : decode code 1019 = .ok (.if_icmp .eq 381, 3) := by decide +kernel
theorem dL_1022 : decode code 1022 = .ok (.iconst 0, 1) := by decide +kernel
theorem dL_1023 : decode code 1023 = .ok (.ireturn, 1) := by decide +kernel
theorem dL_1024 : decode code 1024 = .ok (.aload_n 1, 1) := by decide +kernel
theorem dL_1025 : decode code 1025 = .ok (.aload_n 0, 1) := by decide +kernel
theorem dL_1026 : decode code 1026 = .ok (.iload_n 3, 1) := by decide +kernel
theorem dL_1027 : decode code 1027 = .ok (.iconst 1, 1) := by decide +kernel
theorem dL_1028 : decode code 1028 = .ok (.iadd, 1) := by decide +kernel
theorem dL_1029 : decode code 1029 = .ok (.iaload, 1) := by decide +kernel
theorem dL_1030 : decode code 1030 = .ok (.invokevirtual 115, 3) := by decide +kernel
theorem dL_1033 : decode code 1033 = .ok (.aload_n 2, 1) := by decide +kernel
theorem dL_1034 : decode code 1034 = .ok (.aload_n 0, 1) := by decide +kernel
theorem dL_1035 : decode code 1035 = .ok (.iload_n 3, 1) := by decide +kernel
theorem dL_1036 : decode code 1036 = .ok (.iconst 1, 1) := by decide +kernel
theorem dL_1037 : decode code 1037 = .ok (.iadd, 1) := by decide +kernel
theorem dL_1038 : decode code 1038 = .ok (.iaload, 1) := by decide +kernel
theorem dL_1039 : decode code 1039 = .ok (.invokevirtual 118, 3) := by decide +kernel
theorem dL_1042 : decode code 1042 = .ok (.if_icmp .eq 358, 3) := by decide +kernel
theorem dL_1045 : decode code 1045 = .ok (.iconst 0, 1) := by decide +kernel
theorem dL_1046 : decode code 1046 = .ok (.ireturn, 1) := by decide +kernel
theorem dL_1047 : decode code 1047 = .ok (.aload_n 1, 1) := by decide +kernel
theorem dL_1048 : decode code 1048 = .ok (.aload_n 0, 1) := by decide +kernel
theorem dL_1049 : decode code 1049 = .ok (.iload_n 3, 1) := by decide +kernel
theorem dL_1050 : decode code 1050 = .ok (.iconst 1, 1) := by decide +kernel
theorem dL_1051 : decode code 1051 = .ok (.iadd, 1) := by decide +kernel
theorem dL_1052 : decode code 1052 = .ok (.iaload, 1) := by decide +kernel
theorem dL_1053 : decode code 1053 = .ok (.aload_n 0, 1) := by decide +kernel
theorem dL_1054 : decode code 1054 = .ok (.iload_n 3, 1) := by decide +kernel
theorem dL_1055 : decode code 1055 = .ok (.iconst 2, 1) := by decide +kernel
theorem dL_1056 : decode code 1056 = .ok (.iadd, 1) := by decide +kernel
theorem dL_1057 : decode code 1057 = .ok (.iaload, 1) := by decide +kernel
theorem dL_1058 : decode code 1058 = .ok (.aload_n 0, 1) := by decide +kernel
theorem dL_1059 : decode code 1059 = .ok (.iload_n 3, 1) := by decide +kernel
theorem dL_1060 : decode code 1060 = .ok (.iconst 3, 1) := by decide +kernel
theorem dL_1061 : decode code 1061 = .ok (.iadd, 1) := by decide +kernel
theorem dL_1062 : decode code 1062 = .ok (.iaload, 1) := by decide +kernel
theorem dL_1063 : decode code 1063 = .ok (.invokevirtual 119, 3) := by decide +kernel
theorem dL_1066 : decode code 1066 = .ok (.aload_n 2, 1) := by decide +kernel
theorem dL_1067 : decode code 1067 = .ok (.aload_n 0, 1) := by decide +kernel
theorem dL_1068 : decode code 1068 = .ok (.iload_n 3, 1) := by decide +kernel
theorem dL_1069 : decode code 1069 = .ok (.iconst 1, 1) := by decide +kernel
theorem dL_1070 : decode code 1070 = .ok (.iadd, 1) := by decide +kernel
theorem dL_1071 : decode code 1071 = .ok (.iaload, 1) := by decide +kernel
theorem dL_1072 : decode code 1072 = .ok (.aload_n 0, 1) := by decide +kernel
theorem dL_1073 : decode code 1073 = .ok (.iload_n 3, 1) := by decide +kernel
theorem dL_1074 : decode code 1074 = .ok (.iconst 2, 1) := by decide +kernel
theorem dL_1075 : decode code 1075 = .ok (.iadd, 1) := by decide +kernel
theorem dL_1076 : decode code 1076 = .ok (.iaload, 1) := by decide +kernel
theorem dL_1077 : decode code 1077 = .ok (.aload_n 0, 1) := by decide +kernel
theorem dL_1078 : decode code 1078 = .ok (.iload_n 3, 1) := by decide +kernel
theorem dL_1079 : decode code 1079 = .ok (.iconst 3, 1) := by decide +kernel
theorem dL_1080 : decode code 1080 = .ok (.iadd, 1) := by decide +kernel
theorem dL_1081 : decode code 1081 = .ok (.iaload, 1) := by decide +kernel
theorem dL_1082 : decode code 1082 = .ok (.invokevirtual 122, 3) := by decide +kernel
theorem dL_1085 : decode code 1085 = .ok (.if_icmp .eq 315, 3) := by decide +kernel
theorem dL_1088 : decode code 1088 = .ok (.iconst 0, 1) := by decide +kernel
theorem dL_1089 : decode code 1089 = .ok (.ireturn, 1) := by decide +kernel
theorem dL_1090 : decode code 1090 = .ok (.aload_n 1, 1) := by decide +kernel
theorem dL_1091 : decode code 1091 = .ok (.aload_n 0, 1) := by decide +kernel
theorem dL_1092 : decode code 1092 = .ok (.iload_n 3, 1) := by decide +kernel
theorem dL_1093 : decode code 1093 = .ok (.iconst 1, 1) := by decide +kernel
theorem dL_1094 : decode code 1094 = .ok (.iadd, 1) := by decide +kernel
theorem dL_1095 : decode code 1095 = .ok (.iaload, 1) := by decide +kernel
theorem dL_1096 : decode code 1096 = .ok (.aload_n 0, 1) := by decide +kernel
theorem dL_1097 : decode code 1097 = .ok (.iload_n 3, 1) := by decide +kernel
theorem dL_1098 : decode code 1098 = .ok (.iconst 2, 1) := by decide +kernel
theorem dL_1099 : decode code 1099 = .ok (.iadd, 1) := by decide +kernel
theorem dL_1100 : decode code 1100 = .ok (.iaload, 1) := by decide +kernel
theorem dL_1101 : decode code 1101 = .ok (.invokevirtual 123, 3) := by decide +kernel
theorem dL_1104 : decode code 1104 = .ok (.aload_n 2, 1) := by decide +kernel
theorem dL_1105 : decode code 1105 = .ok (.aload_n 0, 1) := by decide +kernel
theorem dL_1106 : decode code 1106 = .ok (.iload_n 3, 1) := by decide +kernel
theorem dL_1107 : decode code 1107 = .ok (.iconst 1, 1) := by decide +kernel
theorem dL_1108 : decode code 1108 = .ok (.iadd, 1) := by decide +kernel
theorem dL_1109 : decode code 1109 = .ok (.iaload, 1) := by decide +kernel
theorem dL_1110 : decode code 1110 = .ok (.aload_n 0, 1) := by decide +kernel
theorem dL_1111 : decode code 1111 = .ok (.iload_n 3, 1) := by decide +kernel
theorem dL_1112 : decode code 1112 = .ok (.iconst 2, 1) := by decide +kernel
theorem dL_1113 : decode code 1113 = .ok (.iadd, 1) := by decide +kernel
theorem dL_1114 : decode code 1114 = .ok (.iaload, 1) := by decide +kernel
theorem dL_1115 : decode code 1115 = .ok (.invokevirtual 126, 3) := by decide +kernel
theorem dL_1118 : decode code 1118 = .ok (.if_icmp .eq 282, 3) := by decide +kernel
theorem dL_1121 : decode code 1121 = .ok (.iconst 0, 1) := by decide +kernel
theorem dL_1122 : decode code 1122 = .ok (.ireturn, 1) := by decide +kernel
theorem dL_1123 : decode code 1123 = .ok (.aload_n 1, 1) := by decide +kernel
theorem dL_1124 : decode code 1124 = .ok (.aload_n 0, 1) := by decide +kernel
theorem dL_1125 : decode code 1125 = .ok (.iload_n 3, 1) := by decide +kernel
theorem dL_1126 : decode code 1126 = .ok (.iconst 1, 1) := by decide +kernel
theorem dL_1127 : decode code 1127 = .ok (.iadd, 1) := by decide +kernel
theorem dL_1128 : decode code 1128 = .ok (.iaload, 1) := by decide +kernel
theorem dL_1129 : decode code 1129 = .ok (.aload_n 0, 1) := by decide +kernel
theorem dL_1130 : decode code 1130 = .ok (.iload_n 3, 1) := by decide +kernel
theorem dL_1131 : decode code 1131 = .ok (.iconst 2, 1) := by decide +kernel
theorem dL_1132 : decode code 1132 = .ok (.iadd, 1) := by decide +kernel
theorem dL_1133 : decode code 1133 = .ok (.iaload, 1) := by decide +kernel
theorem dL_1134 : decode code 1134 = .ok (.aload_n 0, 1) := by decide +kernel
theorem dL_1135 : decode code 1135 = .ok (.iload_n 3, 1) := by decide +kernel
theorem dL_1136 : decode code 1136 = .ok (.iconst 3, 1) := by decide +kernel
theorem dL_1137 : decode code 1137 = .ok (.iadd, 1) := by decide +kernel
theorem dL_1138 : decode code 1138 = .ok (.iaload, 1) := by decide +kernel
theorem dL_1139 : decode code 1139 = .ok (.invokevirtual 127, 3) := by decide +kernel
theorem dL_1142 : decode code 1142 = .ok (.aload_n 2, 1) := by decide +kernel
theorem dL_1143 : decode code 1143 = .ok (.aload_n 0, 1) := by decide +kernel
theorem dL_1144 : decode code 1144 = .ok (.iload_n 3, 1) := by decide +kernel
theorem dL_1145 : decode code 1145 = .ok (.iconst 1, 1) := by decide +kernel
theorem dL_1146 : decode code 1146 = .ok (.iadd, 1) := by decide +kernel
theorem dL_1147 : decode code 1147 = .ok (.iaload, 1) := by decide +kernel
theorem dL_1148 : decode code 1148 = .ok (.aload_n 0, 1) := by decide +kernel
theorem dL_1149 : decode code 1149 = .ok (.iload_n 3, 1) := by decide +kernel
theorem dL_1150 : decode code 1150 = .ok (.iconst 2, 1) := by decide +kernel
theorem dL_1151 : decode code 1151 = .ok (.iadd, 1) := by decide +kernel
theorem dL_1152 : decode code 1152 = .ok (.iaload, 1) := by decide +kernel
theorem dL_1153 : decode code 1153 = .ok (.aload_n 0, 1) := by decide +kernel
theorem dL_1154 : decode code 1154 = .ok (.iload_n 3, 1) := by decide +kernel
theorem dL_1155 : decode code 1155 = .ok (.iconst 3, 1) := by decide +kernel
theorem dL_1156 : decode code 1156 = .ok (.iadd, 1) := by decide +kernel
theorem dL_1157 : decode code 1157 = .ok (.iaload, 1) := by decide +kernel
theorem dL_1158 : decode code 1158 = .ok (.invokevirtual 130, 3) := by decide +kernel
theorem dL_1161 : decode code 1161 = .ok (.if_icmp .eq 239, 3) := by decide +kernel
theorem dL_1164 : decode code 1164 = .ok (.iconst 0, 1) := by decide +kernel
theorem dL_1165 : decode code 1165 = .ok (.ireturn, 1) := by decide +kernel
theorem dL_1166 : decode code 1166 = .ok (.aload_n 1, 1) := by decide +kernel
theorem dL_1167 : decode code 1167 = .ok (.aload_n 0, 1) := by decide +kernel
theorem dL_1168 : decode code 1168 = .ok (.iload_n 3, 1) := by decide +kernel
theorem dL_1169 : decode code 1169 = .ok (.iconst 1, 1) := by decide +kernel
theorem dL_1170 : decode code 1170 = .ok (.iadd, 1) := by decide +kernel
theorem dL_1171 : decode code 1171 = .ok (.iaload, 1) := by decide +kernel
theorem dL_1172 : decode code 1172 = .ok (.aload_n 0, 1) := by decide +kernel
theorem dL_1173 : decode code 1173 = .ok (.iload_n 3, 1) := by decide +kernel
theorem dL_1174 : decode code 1174 = .ok (.iconst 2, 1) := by decide +kernel
theorem dL_1175 : decode code 1175 = .ok (.iadd, 1) := by decide +kernel
theorem dL_1176 : decode code 1176 = .ok (.iaload, 1) := by decide +kernel
theorem dL_1177 : decode code 1177 = .ok (.invokevirtual 131, 3) := by decide +kernel
theorem dL_1180 : decode code 1180 = .ok (.aload_n 2, 1) := by decide +kernel
theorem dL_1181 : decode code 1181 = .ok (.aload_n 0, 1) := by decide +kernel
theorem dL_1182 : decode code 1182 = .ok (.iload_n 3, 1) := by decide +kernel
theorem dL_1183 : decode code 1183 = .ok (.iconst 1, 1) := by decide +kernel
theorem dL_1184 : decode code 1184 = .ok (.iadd, 1) := by decide +kernel
theorem dL_1185 : decode code 1185 = .ok (.iaload, 1) := by decide +kernel
theorem dL_1186 : decode code 1186 = .ok (.aload_n 0, 1) := by decide +kernel
theorem dL_1187 : decode code 1187 = .ok (.iload_n 3, 1) := by decide +kernel
theorem dL_1188 : decode code 1188 = .ok (.iconst 2, 1) := by decide +kernel
theorem dL_1189 : decode code 1189 = .ok (.iadd, 1) := by decide +kernel
theorem dL_1190 : decode code 1190 = .ok (.iaload, 1) := by decide +kernel
theorem dL_1191 : decode code 1191 = .ok (.invokevirtual 134, 3) := by decide +kernel
theorem dL_1194 : decode code 1194 = .ok (.if_icmp .eq 206, 3) := by decide +kernel
theorem dL_1197 : decode code 1197 = .ok (.iconst 0, 1) := by decide +kernel
theorem dL_1198 : decode code 1198 = .ok (.ireturn, 1) := by decide +kernel
theorem dL_1199 : decode code 1199 = .ok (.aload_n 1, 1) := by decide +kernel
theorem dL_1200 : decode code 1200 = .ok (.aload_n 0, 1) := by decide +kernel
theorem dL_1201 : decode code 1201 = .ok (.iload_n 3, 1) := by decide +kernel
theorem dL_1202 : decode code 1202 = .ok (.iconst 1, 1) := by decide +kernel
theorem dL_1203 : decode code 1203 = .ok (.iadd, 1) := by decide +kernel
theorem dL_1204 : decode code 1204 = .ok (.iaload, 1) := by decide +kernel
theorem dL_1205 : decode code 1205 = .ok (.aload_n 0, 1) := by decide +kernel
theorem dL_1206 : decode code 1206 = .ok (.iload_n 3, 1) := by decide +kernel
theorem dL_1207 : decode code 1207 = .ok (.iconst 2, 1) := by decide +kernel
theorem dL_1208 : decode code 1208 = .ok (.iadd, 1) := by decide +kernel
theorem dL_1209 : decode code 1209 = .ok (.iaload, 1) := by decide +kernel
theorem dL_1210 : decode code 1210 = .ok (.invokevirtual 135, 3) := by decide +kernel
theorem dL_1213 : decode code 1213 = .ok (.aload_n 2, 1) := by decide +kernel
theorem dL_1214 : decode code 1214 = .ok (.aload_n 0, 1) := by decide +kernel
theorem dL_1215 : decode code 1215 = .ok (.iload_n 3, 1) := by decide +kernel
theorem dL_1216 : decode code 1216 = .ok (.iconst 1, 1) := by decide +kernel
theorem dL_1217 : decode code 1217 = .ok (.iadd, 1) := by decide +kernel
theorem dL_1218 : decode code 1218 = .ok (.iaload, 1) := by decide +kernel
theorem dL_1219 : decode code 1219 = .ok (.aload_n 0, 1) := by decide +kernel
theorem dL_1220 : decode code 1220 = .ok (.iload_n 3, 1) := by decide +kernel
theorem dL_1221 : decode code 1221 = .ok (.iconst 2, 1) := by decide +kernel
theorem dL_1222 : decode code 1222 = .ok (.iadd, 1) := by decide +kernel
theorem dL_1223 : decode code 1223 = .ok (.iaload, 1) := by decide +kernel
theorem dL_1224 : decode code 1224 = .ok (.invokevirtual 138, 3) := by decide +kernel
theorem dL_1227 : decode code 1227 = .ok (.if_icmp .eq 173, 3) := by decide +kernel
theorem dL_1230 : decode code 1230 = .ok (.iconst 0, 1) := by decide +kernel
theorem dL_1231 : decode code 1231 = .ok (.ireturn, 1) := by decide +kernel
theorem dL_1232 : decode code 1232 = .ok (.aload_n 1, 1) := by decide +kernel
theorem dL_1233 : decode code 1233 = .ok (.aload_n 0, 1) := by decide +kernel
theorem dL_1234 : decode code 1234 = .ok (.iload_n 3, 1) := by decide +kernel
theorem dL_1235 : decode code 1235 = .ok (.iconst 1, 1) := by decide +kernel
theorem dL_1236 : decode code 1236 = .ok (.iadd, 1) := by decide +kernel
theorem dL_1237 : decode code 1237 = .ok (.iaload, 1) := by decide +kernel
theorem dL_1238 : decode code 1238 = .ok (.aload_n 0, 1) := by decide +kernel
theorem dL_1239 : decode code 1239 = .ok (.iload_n 3, 1) := by decide +kernel
theorem dL_1240 : decode code 1240 = .ok (.iconst 2, 1) := by decide +kernel
theorem dL_1241 : decode code 1241 = .ok (.iadd, 1) := by decide +kernel
theorem dL_1242 : decode code 1242 = .ok (.iaload, 1) := by decide +kernel
theorem dL_1243 : decode code 1243 = .ok (.invokevirtual 139, 3) := by decide +kernel
theorem dL_1246 : decode code 1246 = .ok (.aload_n 2, 1) := by decide +kernel
theorem dL_1247 : decode code 1247 = .ok (.aload_n 0, 1) := by decide +kernel
theorem dL_1248 : decode code 1248 = .ok (.iload_n 3, 1) := by decide +kernel
theorem dL_1249 : decode code 1249 = .ok (.iconst 1, 1) := by decide +kernel
theorem dL_1250 : decode code 1250 = .ok (.iadd, 1) := by decide +kernel
theorem dL_1251 : decode code 1251 = .ok (.iaload, 1) := by decide +kernel
theorem dL_1252 : decode code 1252 = .ok (.aload_n 0, 1) := by decide +kernel
theorem dL_1253 : decode code 1253 = .ok (.iload_n 3, 1) := by decide +kernel
theorem dL_1254 : decode code 1254 = .ok (.iconst 2, 1) := by decide +kernel
theorem dL_1255 : decode code 1255 = .ok (.iadd, 1) := by decide +kernel
theorem dL_1256 : decode code 1256 = .ok (.iaload, 1) := by decide +kernel
theorem dL_1257 : decode code 1257 = .ok (.invokevirtual 142, 3) := by decide +kernel
theorem dL_1260 : decode code 1260 = .ok (.if_icmp .eq 140, 3) := by decide +kernel
theorem dL_1263 : decode code 1263 = .ok (.iconst 0, 1) := by decide +kernel
theorem dL_1264 : decode code 1264 = .ok (.ireturn, 1) := by decide +kernel
theorem dL_1265 : decode code 1265 = .ok (.aload_n 1, 1) := by decide +kernel
theorem dL_1266 : decode code 1266 = .ok (.aload_n 0, 1) := by decide +kernel
theorem dL_1267 : decode code 1267 = .ok (.iload_n 3, 1) := by decide +kernel
theorem dL_1268 : decode code 1268 = .ok (.iconst 1, 1) := by decide +kernel
theorem dL_1269 : decode code 1269 = .ok (.iadd, 1) := by decide +kernel
theorem dL_1270 : decode code 1270 = .ok (.iaload, 1) := by decide +kernel
theorem dL_1271 : decode code 1271 = .ok (.aload_n 0, 1) := by decide +kernel
theorem dL_1272 : decode code 1272 = .ok (.iload_n 3, 1) := by decide +kernel
theorem dL_1273 : decode code 1273 = .ok (.iconst 2, 1) := by decide +kernel
theorem dL_1274 : decode code 1274 = .ok (.iadd, 1) := by decide +kernel
theorem dL_1275 : decode code 1275 = .ok (.iaload, 1) := by decide +kernel
theorem dL_1276 : decode code 1276 = .ok (.aload_n 0, 1) := by decide +kernel
theorem dL_1277 : decode code 1277 = .ok (.iload_n 3, 1) := by decide +kernel
theorem dL_1278 : decode code 1278 = .ok (.iconst 3, 1) := by decide +kernel
theorem dL_1279 : decode code 1279 = .ok (.iadd, 1) := by decide +kernel
theorem dL_1280 : decode code 1280 = .ok (.iaload, 1) := by decide +kernel
theorem dL_1281 : decode code 1281 = .ok (.invokevirtual 143, 3) := by decide +kernel
theorem dL_1284 : decode code 1284 = .ok (.aload_n 2, 1) := by decide +kernel
theorem dL_1285 : decode code 1285 = .ok (.aload_n 0, 1) := by decide +kernel
theorem dL_1286 : decode code 1286 = .ok (.iload_n 3, 1) := by decide +kernel
theorem dL_1287 : decode code 1287 = .ok (.iconst 1, 1) := by decide +kernel
theorem dL_1288 : decode code 1288 = .ok (.iadd, 1) := by decide +kernel
theorem dL_1289 : decode code 1289 = .ok (.iaload, 1) := by decide +kernel
theorem dL_1290 : decode code 1290 = .ok (.aload_n 0, 1) := by decide +kernel
theorem dL_1291 : decode code 1291 = .ok (.iload_n 3, 1) := by decide +kernel
theorem dL_1292 : decode code 1292 = .ok (.iconst 2, 1) := by decide +kernel
theorem dL_1293 : decode code 1293 = .ok (.iadd, 1) := by decide +kernel
theorem dL_1294 : decode code 1294 = .ok (.iaload, 1) := by decide +kernel
theorem dL_1295 : decode code 1295 = .ok (.aload_n 0, 1) := by decide +kernel
theorem dL_1296 : decode code 1296 = .ok (.iload_n 3, 1) := by decide +kernel
theorem dL_1297 : decode code 1297 = .ok (.iconst 3, 1) := by decide +kernel
theorem dL_1298 : decode code 1298 = .ok (.iadd, 1) := by decide +kernel
theorem dL_1299 : decode code 1299 = .ok (.iaload, 1) := by decide +kernel
theorem dL_1300 : decode code 1300 = .ok (.invokevirtual 146, 3) := by decide +kernel
theorem dL_1303 : decode code 1303 = .ok (.if_icmp .eq 97, 3) := by decide +kernel
theorem dL_1306 : decode code 1306 = .ok (.iconst 0, 1) := by decide +kernel
theorem dL_1307 : decode code 1307 = .ok (.ireturn, 1) := by decide +kernel
theorem dL_1308 : decode code 1308 = .ok (.aload_n 1, 1) := by decide +kernel
theorem dL_1309 : decode code 1309 = .ok (.aload_n 0, 1) := by decide +kernel
theorem dL_1310 : decode code 1310 = .ok (.iload_n 3, 1) := by decide +kernel
theorem dL_1311 : decode code 1311 = .ok (.iconst 1, 1) := by decide +kernel
theorem dL_1312 : decode code 1312 = .ok (.iadd, 1) := by decide +kernel
theorem dL_1313 : decode code 1313 = .ok (.iaload, 1) := by decide +kernel
theorem dL_1314 : decode code 1314 = .ok (.invokevirtual 147, 3) := by decide +kernel
theorem dL_1317 : decode code 1317 = .ok (.aload_n 2, 1) := by decide +kernel
theorem dL_1318 : decode code 1318 = .ok (.aload_n 0, 1) := by decide +kernel
theorem dL_1319 : decode code 1319 = .ok (.iload_n 3, 1) := by decide +kernel
theorem dL_1320 : decode code 1320 = .ok (.iconst 1, 1) := by decide +kernel
theorem dL_1321 : decode code 1321 = .ok (.iadd, 1) := by decide +kernel
theorem dL_1322 : decode code 1322 = .ok (.iaload, 1) := by decide +kernel
theorem dL_1323 : decode code 1323 = .ok (.invokevirtual 150, 3) := by decide +kernel
theorem dL_1326 : decode code 1326 = .ok (.if_icmp .eq 74, 3) := by decide +kernel
theorem dL_1329 : decode code 1329 = .ok (.iconst 0, 1) := by decide +kernel
theorem dL_1330 : decode code 1330 = .ok (.ireturn, 1) := by decide +kernel
theorem dL_1331 : decode code 1331 = .ok (.aload_n 1, 1) := by decide +kernel
theorem dL_1332 : decode code 1332 = .ok (.aload_n 0, 1) := by decide +kernel
theorem dL_1333 : decode code 1333 = .ok (.iload_n 3, 1) := by decide +kernel
theorem dL_1334 : decode code 1334 = .ok (.iconst 1, 1) := by decide +kernel
theorem dL_1335 : decode code 1335 = .ok (.iadd, 1) := by decide +kernel
theorem dL_1336 : decode code 1336 = .ok (.iaload, 1) := by decide +kernel
theorem dL_1337 : decode code 1337 = .ok (.invokevirtual 151, 3) := by decide +kernel
theorem dL_1340 : decode code 1340 = .ok (.aload_n 2, 1) := by decide +kernel
theorem dL_1341 : decode code 1341 = .ok (.aload_n 0, 1) := by decide +kernel
theorem dL_1342 : decode code 1342 = .ok (.iload_n 3, 1) := by decide +kernel
theorem dL_1343 : decode code 1343 = .ok (.iconst 1, 1) := by decide +kernel
theorem dL_1344 : decode code 1344 = .ok (.iadd, 1) := by decide +kernel
theorem dL_1345 : decode code 1345 = .ok (.iaload, 1) := by decide +kernel
theorem dL_1346 : decode code 1346 = .ok (.invokevirtual 155, 3) := by decide +kernel
theorem dL_1349 : decode code 1349 = .ok (.if_icmp .eq 51, 3) := by decide +kernel
theorem dL_1352 : decode code 1352 = .ok (.iconst 0, 1) := by decide +kernel
theorem dL_1353 : decode code 1353 = .ok (.ireturn, 1) := by decide +kernel
theorem dL_1354 : decode code 1354 = .ok (.aload_n 1, 1) := by decide +kernel
theorem dL_1355 : decode code 1355 = .ok (.aload_n 0, 1) := by decide +kernel
theorem dL_1356 : decode code 1356 = .ok (.iload_n 3, 1) := by decide +kernel
theorem dL_1357 : decode code 1357 = .ok (.iconst 1, 1) := by decide +kernel
theorem dL_1358 : decode code 1358 = .ok (.iadd, 1) := by decide +kernel
theorem dL_1359 : decode code 1359 = .ok (.iaload, 1) := by decide +kernel
theorem dL_1360 : decode code 1360 = .ok (.invokevirtual 156, 3) := by decide +kernel
theorem dL_1363 : decode code 1363 = .ok (.aload_n 2, 1) := by decide +kernel
theorem dL_1364 : decode code 1364 = .ok (.aload_n 0, 1) := by decide +kernel
theorem dL_1365 : decode code 1365 = .ok (.iload_n 3, 1) := by decide +kernel
theorem dL_1366 : decode code 1366 = .ok (.iconst 1, 1) := by decide +kernel
theorem dL_1367 : decode code 1367 = .ok (.iadd, 1) := by decide +kernel
theorem dL_1368 : decode code 1368 = .ok (.iaload, 1) := by decide +kernel
theorem dL_1369 : decode code 1369 = .ok (.invokevirtual 159, 3) := by decide +kernel
theorem dL_1372 : decode code 1372 = .ok (.if_icmp .eq 28, 3) := by decide +kernel
theorem dL_1375 : decode code 1375 = .ok (.iconst 0, 1) := by decide +kernel
theorem dL_1376 : decode code 1376 = .ok (.ireturn, 1) := by decide +kernel
theorem dL_1377 : decode code 1377 = .ok (.aload_n 1, 1) := by decide +kernel
theorem dL_1378 : decode code 1378 = .ok (.aload_n 0, 1) := by decide +kernel
theorem dL_1379 : decode code 1379 = .ok (.iload_n 3, 1) := by decide +kernel
theorem dL_1380 : decode code 1380 = .ok (.iconst 1, 1) := by decide +kernel
theorem dL_1381 : decode code 1381 = .ok (.iadd, 1) := by decide +kernel
theorem dL_1382 : decode code 1382 = .ok (.iaload, 1) := by decide +kernel
theorem dL_1383 : decode code 1383 = .ok (.invokevirtual 160, 3) := by decide +kernel
theorem dL_1386 : decode code 1386 = .ok (.aload_n 2, 1) := by decide +kernel
theorem dL_1387 : decode code 1387 = .ok (.aload_n 0, 1) := by decide +kernel
theorem dL_1388 : decode code 1388 = .ok (.iload_n 3, 1) := by decide +kernel
theorem dL_1389 : decode code 1389 = .ok (.iconst 1, 1) := by decide +kernel
theorem dL_1390 : decode code 1390 = .ok (.iadd, 1) := by decide +kernel
theorem dL_1391 : decode code 1391 = .ok (.iaload, 1) := by decide +kernel
theorem dL_1392 : decode code 1392 = .ok (.invokevirtual 163, 3) := by decide +kernel
theorem dL_1395 : decode code 1395 = .ok (.if_icmp .eq 5, 3) := by decide +kernel
theorem dL_1398 : decode code 1398 = .ok (.iconst 0, 1) := by decide +kernel
theorem dL_1399 : decode code 1399 = .ok (.ireturn, 1) := by decide +kernel
theorem dL_1400 : decode code 1400 = .ok (.iinc 3 6, 3) := by decide +kernel
theorem dL_1403 : decode code 1403 = .ok (.goto (-1385), 3) := by decide +kernel
theorem dL_1406 : decode code 1406 = .ok (.iconst 1, 1) := by decide +kernel
theorem dL_1407 : decode code 1407 = .ok (.ireturn, 1) := by decide +kernel
