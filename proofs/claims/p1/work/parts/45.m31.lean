abbrev b_Law_law : ByteArray := code
def y_Law_law : MethodName := ⟨"WardFallsLaw", "law", "([I)Z"⟩
theorem d_Law_law_0 : decode b_Law_law 0 = .ok (.new 8, 3) := by decide +kernel
theorem d_Law_law_3 : decode b_Law_law 3 = .ok (.dup, 1) := by decide +kernel
theorem d_Law_law_4 : decode b_Law_law 4 = .ok (.invokespecial 17, 3) := by decide +kernel
theorem d_Law_law_7 : decode b_Law_law 7 = .ok (.astore_n 1, 1) := by decide +kernel
theorem d_Law_law_8 : decode b_Law_law 8 = .ok (.new 18, 3) := by decide +kernel
theorem d_Law_law_11 : decode b_Law_law 11 = .ok (.dup, 1) := by decide +kernel
theorem d_Law_law_12 : decode b_Law_law 12 = .ok (.invokespecial 20, 3) := by decide +kernel
theorem d_Law_law_15 : decode b_Law_law 15 = .ok (.astore_n 2, 1) := by decide +kernel
theorem d_Law_law_16 : decode b_Law_law 16 = .ok (.iconst 1, 1) := by decide +kernel
theorem d_Law_law_17 : decode b_Law_law 17 = .ok (.newarray .long, 2) := by decide +kernel
theorem d_Law_law_19 : decode b_Law_law 19 = .ok (.astore_n 3, 1) := by decide +kernel
theorem d_Law_law_20 : decode b_Law_law 20 = .ok (.iconst 0, 1) := by decide +kernel
theorem d_Law_law_21 : decode b_Law_law 21 = .ok (.istore 4, 2) := by decide +kernel
theorem d_Law_law_23 : decode b_Law_law 23 = .ok (.iload 4, 2) := by decide +kernel
theorem d_Law_law_25 : decode b_Law_law 25 = .ok (.aload_n 0, 1) := by decide +kernel
theorem d_Law_law_26 : decode b_Law_law 26 = .ok (.arraylength, 1) := by decide +kernel
theorem d_Law_law_27 : decode b_Law_law 27 = .ok (.bipush 6, 2) := by decide +kernel
theorem d_Law_law_29 : decode b_Law_law 29 = .ok (.isub, 1) := by decide +kernel
theorem d_Law_law_30 : decode b_Law_law 30 = .ok (.if_icmp .gt 1547, 3) := by decide +kernel
theorem d_Law_law_33 : decode b_Law_law 33 = .ok (.aload_n 0, 1) := by decide +kernel
theorem d_Law_law_34 : decode b_Law_law 34 = .ok (.iload 4, 2) := by decide +kernel
theorem d_Law_law_36 : decode b_Law_law 36 = .ok (.iaload, 1) := by decide +kernel
theorem d_Law_law_37 : decode b_Law_law 37 = .ok (.bipush 63, 2) := by decide +kernel
theorem d_Law_law_39 : decode b_Law_law 39 = .ok (.iand, 1) := by decide +kernel
theorem d_Law_law_40 : decode b_Law_law 40 = .ok (.tableswitch 1531 0 40 #[180, 253, 278, 303, 340, 408, 445, 482, 532, 557, 594, 631, 656, 693, 746, 783, 820, 833, 871, 908, 957, 1006, 1055, 1092, 1106, 1131, 1144, 1169, 1194, 1231, 1268, 1293, 1318, 1331, 1356, 1381, 1418, 1467, 1480, 1493, 1506], 180) := by decide +kernel
theorem d_Law_law_220 : decode b_Law_law 220 = .ok (.aload_n 1, 1) := by decide +kernel
theorem d_Law_law_221 : decode b_Law_law 221 = .ok (.aload_n 0, 1) := by decide +kernel
theorem d_Law_law_222 : decode b_Law_law 222 = .ok (.iload 4, 2) := by decide +kernel
theorem d_Law_law_224 : decode b_Law_law 224 = .ok (.iconst 1, 1) := by decide +kernel
theorem d_Law_law_225 : decode b_Law_law 225 = .ok (.iadd, 1) := by decide +kernel
theorem d_Law_law_226 : decode b_Law_law 226 = .ok (.iaload, 1) := by decide +kernel
theorem d_Law_law_227 : decode b_Law_law 227 = .ok (.aload_n 0, 1) := by decide +kernel
theorem d_Law_law_228 : decode b_Law_law 228 = .ok (.iload 4, 2) := by decide +kernel
theorem d_Law_law_230 : decode b_Law_law 230 = .ok (.iconst 2, 1) := by decide +kernel
theorem d_Law_law_231 : decode b_Law_law 231 = .ok (.iadd, 1) := by decide +kernel
theorem d_Law_law_232 : decode b_Law_law 232 = .ok (.iaload, 1) := by decide +kernel
theorem d_Law_law_233 : decode b_Law_law 233 = .ok (.aload_n 0, 1) := by decide +kernel
theorem d_Law_law_234 : decode b_Law_law 234 = .ok (.iload 4, 2) := by decide +kernel
theorem d_Law_law_236 : decode b_Law_law 236 = .ok (.iconst 3, 1) := by decide +kernel
theorem d_Law_law_237 : decode b_Law_law 237 = .ok (.iadd, 1) := by decide +kernel
theorem d_Law_law_238 : decode b_Law_law 238 = .ok (.iaload, 1) := by decide +kernel
theorem d_Law_law_239 : decode b_Law_law 239 = .ok (.aload_n 0, 1) := by decide +kernel
theorem d_Law_law_240 : decode b_Law_law 240 = .ok (.iload 4, 2) := by decide +kernel
theorem d_Law_law_242 : decode b_Law_law 242 = .ok (.iconst 4, 1) := by decide +kernel
theorem d_Law_law_243 : decode b_Law_law 243 = .ok (.iadd, 1) := by decide +kernel
theorem d_Law_law_244 : decode b_Law_law 244 = .ok (.iaload, 1) := by decide +kernel
theorem d_Law_law_245 : decode b_Law_law 245 = .ok (.aload_n 0, 1) := by decide +kernel
theorem d_Law_law_246 : decode b_Law_law 246 = .ok (.iload 4, 2) := by decide +kernel
theorem d_Law_law_248 : decode b_Law_law 248 = .ok (.iconst 5, 1) := by decide +kernel
theorem d_Law_law_249 : decode b_Law_law 249 = .ok (.iadd, 1) := by decide +kernel
theorem d_Law_law_250 : decode b_Law_law 250 = .ok (.iaload, 1) := by decide +kernel
theorem d_Law_law_251 : decode b_Law_law 251 = .ok (.invokevirtual 21, 3) := by decide +kernel
theorem d_Law_law_254 : decode b_Law_law 254 = .ok (.aload_n 2, 1) := by decide +kernel
theorem d_Law_law_255 : decode b_Law_law 255 = .ok (.aload_n 0, 1) := by decide +kernel
theorem d_Law_law_256 : decode b_Law_law 256 = .ok (.iload 4, 2) := by decide +kernel
theorem d_Law_law_258 : decode b_Law_law 258 = .ok (.iconst 1, 1) := by decide +kernel
theorem d_Law_law_259 : decode b_Law_law 259 = .ok (.iadd, 1) := by decide +kernel
theorem d_Law_law_260 : decode b_Law_law 260 = .ok (.iaload, 1) := by decide +kernel
theorem d_Law_law_261 : decode b_Law_law 261 = .ok (.aload_n 0, 1) := by decide +kernel
theorem d_Law_law_262 : decode b_Law_law 262 = .ok (.iload 4, 2) := by decide +kernel
theorem d_Law_law_264 : decode b_Law_law 264 = .ok (.iconst 2, 1) := by decide +kernel
theorem d_Law_law_265 : decode b_Law_law 265 = .ok (.iadd, 1) := by decide +kernel
theorem d_Law_law_266 : decode b_Law_law 266 = .ok (.iaload, 1) := by decide +kernel
theorem d_Law_law_267 : decode b_Law_law 267 = .ok (.aload_n 0, 1) := by decide +kernel
theorem d_Law_law_268 : decode b_Law_law 268 = .ok (.iload 4, 2) := by decide +kernel
theorem d_Law_law_270 : decode b_Law_law 270 = .ok (.iconst 3, 1) := by decide +kernel
theorem d_Law_law_271 : decode b_Law_law 271 = .ok (.iadd, 1) := by decide +kernel
theorem d_Law_law_272 : decode b_Law_law 272 = .ok (.iaload, 1) := by decide +kernel
theorem d_Law_law_273 : decode b_Law_law 273 = .ok (.aload_n 0, 1) := by decide +kernel
theorem d_Law_law_274 : decode b_Law_law 274 = .ok (.iload 4, 2) := by decide +kernel
theorem d_Law_law_276 : decode b_Law_law 276 = .ok (.iconst 4, 1) := by decide +kernel
theorem d_Law_law_277 : decode b_Law_law 277 = .ok (.iadd, 1) := by decide +kernel
theorem d_Law_law_278 : decode b_Law_law 278 = .ok (.iaload, 1) := by decide +kernel
theorem d_Law_law_279 : decode b_Law_law 279 = .ok (.aload_n 0, 1) := by decide +kernel
theorem d_Law_law_280 : decode b_Law_law 280 = .ok (.iload 4, 2) := by decide +kernel
theorem d_Law_law_282 : decode b_Law_law 282 = .ok (.iconst 5, 1) := by decide +kernel
theorem d_Law_law_283 : decode b_Law_law 283 = .ok (.iadd, 1) := by decide +kernel
theorem d_Law_law_284 : decode b_Law_law 284 = .ok (.iaload, 1) := by decide +kernel
theorem d_Law_law_285 : decode b_Law_law 285 = .ok (.invokevirtual 25, 3) := by decide +kernel
theorem d_Law_law_288 : decode b_Law_law 288 = .ok (.if_icmp .eq 1283, 3) := by decide +kernel
theorem d_Law_law_291 : decode b_Law_law 291 = .ok (.iconst 0, 1) := by decide +kernel
theorem d_Law_law_292 : decode b_Law_law 292 = .ok (.ireturn, 1) := by decide +kernel
theorem d_Law_law_293 : decode b_Law_law 293 = .ok (.aload_n 1, 1) := by decide +kernel
theorem d_Law_law_294 : decode b_Law_law 294 = .ok (.aload_n 0, 1) := by decide +kernel
theorem d_Law_law_295 : decode b_Law_law 295 = .ok (.iload 4, 2) := by decide +kernel
theorem d_Law_law_297 : decode b_Law_law 297 = .ok (.iconst 1, 1) := by decide +kernel
theorem d_Law_law_298 : decode b_Law_law 298 = .ok (.iadd, 1) := by decide +kernel
theorem d_Law_law_299 : decode b_Law_law 299 = .ok (.iaload, 1) := by decide +kernel
theorem d_Law_law_300 : decode b_Law_law 300 = .ok (.invokevirtual 26, 3) := by decide +kernel
theorem d_Law_law_303 : decode b_Law_law 303 = .ok (.aload_n 2, 1) := by decide +kernel
theorem d_Law_law_304 : decode b_Law_law 304 = .ok (.aload_n 0, 1) := by decide +kernel
theorem d_Law_law_305 : decode b_Law_law 305 = .ok (.iload 4, 2) := by decide +kernel
theorem d_Law_law_307 : decode b_Law_law 307 = .ok (.iconst 1, 1) := by decide +kernel
theorem d_Law_law_308 : decode b_Law_law 308 = .ok (.iadd, 1) := by decide +kernel
theorem d_Law_law_309 : decode b_Law_law 309 = .ok (.iaload, 1) := by decide +kernel
theorem d_Law_law_310 : decode b_Law_law 310 = .ok (.invokevirtual 30, 3) := by decide +kernel
theorem d_Law_law_313 : decode b_Law_law 313 = .ok (.if_icmp .eq 1258, 3) := by decide +kernel
theorem d_Law_law_316 : decode b_Law_law 316 = .ok (.iconst 0, 1) := by decide +kernel
theorem d_Law_law_317 : decode b_Law_law 317 = .ok (.ireturn, 1) := by decide +kernel
theorem d_Law_law_318 : decode b_Law_law 318 = .ok (.aload_n 1, 1) := by decide +kernel
theorem d_Law_law_319 : decode b_Law_law 319 = .ok (.aload_n 0, 1) := by decide +kernel
theorem d_Law_law_320 : decode b_Law_law 320 = .ok (.iload 4, 2) := by decide +kernel
theorem d_Law_law_322 : decode b_Law_law 322 = .ok (.iconst 1, 1) := by decide +kernel
theorem d_Law_law_323 : decode b_Law_law 323 = .ok (.iadd, 1) := by decide +kernel
theorem d_Law_law_324 : decode b_Law_law 324 = .ok (.iaload, 1) := by decide +kernel
theorem d_Law_law_325 : decode b_Law_law 325 = .ok (.invokevirtual 31, 3) := by decide +kernel
theorem d_Law_law_328 : decode b_Law_law 328 = .ok (.aload_n 2, 1) := by decide +kernel
theorem d_Law_law_329 : decode b_Law_law 329 = .ok (.aload_n 0, 1) := by decide +kernel
theorem d_Law_law_330 : decode b_Law_law 330 = .ok (.iload 4, 2) := by decide +kernel
theorem d_Law_law_332 : decode b_Law_law 332 = .ok (.iconst 1, 1) := by decide +kernel
theorem d_Law_law_333 : decode b_Law_law 333 = .ok (.iadd, 1) := by decide +kernel
theorem d_Law_law_334 : decode b_Law_law 334 = .ok (.iaload, 1) := by decide +kernel
theorem d_Law_law_335 : decode b_Law_law 335 = .ok (.invokevirtual 34, 3) := by decide +kernel
theorem d_Law_law_338 : decode b_Law_law 338 = .ok (.if_icmp .eq 1233, 3) := by decide +kernel
theorem d_Law_law_341 : decode b_Law_law 341 = .ok (.iconst 0, 1) := by decide +kernel
theorem d_Law_law_342 : decode b_Law_law 342 = .ok (.ireturn, 1) := by decide +kernel
theorem d_Law_law_343 : decode b_Law_law 343 = .ok (.aload_n 1, 1) := by decide +kernel
theorem d_Law_law_344 : decode b_Law_law 344 = .ok (.aload_n 0, 1) := by decide +kernel
theorem d_Law_law_345 : decode b_Law_law 345 = .ok (.iload 4, 2) := by decide +kernel
theorem d_Law_law_347 : decode b_Law_law 347 = .ok (.iconst 1, 1) := by decide +kernel
theorem d_Law_law_348 : decode b_Law_law 348 = .ok (.iadd, 1) := by decide +kernel
theorem d_Law_law_349 : decode b_Law_law 349 = .ok (.iaload, 1) := by decide +kernel
theorem d_Law_law_350 : decode b_Law_law 350 = .ok (.aload_n 0, 1) := by decide +kernel
theorem d_Law_law_351 : decode b_Law_law 351 = .ok (.iload 4, 2) := by decide +kernel
theorem d_Law_law_353 : decode b_Law_law 353 = .ok (.iconst 2, 1) := by decide +kernel
theorem d_Law_law_354 : decode b_Law_law 354 = .ok (.iadd, 1) := by decide +kernel
theorem d_Law_law_355 : decode b_Law_law 355 = .ok (.iaload, 1) := by decide +kernel
theorem d_Law_law_356 : decode b_Law_law 356 = .ok (.invokevirtual 35, 3) := by decide +kernel
theorem d_Law_law_359 : decode b_Law_law 359 = .ok (.aload_n 2, 1) := by decide +kernel
theorem d_Law_law_360 : decode b_Law_law 360 = .ok (.aload_n 0, 1) := by decide +kernel
theorem d_Law_law_361 : decode b_Law_law 361 = .ok (.iload 4, 2) := by decide +kernel
theorem d_Law_law_363 : decode b_Law_law 363 = .ok (.iconst 1, 1) := by decide +kernel
theorem d_Law_law_364 : decode b_Law_law 364 = .ok (.iadd, 1) := by decide +kernel
theorem d_Law_law_365 : decode b_Law_law 365 = .ok (.iaload, 1) := by decide +kernel
theorem d_Law_law_366 : decode b_Law_law 366 = .ok (.aload_n 0, 1) := by decide +kernel
theorem d_Law_law_367 : decode b_Law_law 367 = .ok (.iload 4, 2) := by decide +kernel
theorem d_Law_law_369 : decode b_Law_law 369 = .ok (.iconst 2, 1) := by decide +kernel
theorem d_Law_law_370 : decode b_Law_law 370 = .ok (.iadd, 1) := by decide +kernel
theorem d_Law_law_371 : decode b_Law_law 371 = .ok (.iaload, 1) := by decide +kernel
theorem d_Law_law_372 : decode b_Law_law 372 = .ok (.invokevirtual 38, 3) := by decide +kernel
theorem d_Law_law_375 : decode b_Law_law 375 = .ok (.if_icmp .eq 1196, 3) := by decide +kernel
theorem d_Law_law_378 : decode b_Law_law 378 = .ok (.iconst 0, 1) := by decide +kernel
theorem d_Law_law_379 : decode b_Law_law 379 = .ok (.ireturn, 1) := by decide +kernel
theorem d_Law_law_380 : decode b_Law_law 380 = .ok (.aload_n 1, 1) := by decide +kernel
theorem d_Law_law_381 : decode b_Law_law 381 = .ok (.aload_n 0, 1) := by decide +kernel
theorem d_Law_law_382 : decode b_Law_law 382 = .ok (.iload 4, 2) := by decide +kernel
theorem d_Law_law_384 : decode b_Law_law 384 = .ok (.iconst 1, 1) := by decide +kernel
theorem d_Law_law_385 : decode b_Law_law 385 = .ok (.iadd, 1) := by decide +kernel
theorem d_Law_law_386 : decode b_Law_law 386 = .ok (.iaload, 1) := by decide +kernel
theorem d_Law_law_387 : decode b_Law_law 387 = .ok (.aload_n 0, 1) := by decide +kernel
theorem d_Law_law_388 : decode b_Law_law 388 = .ok (.iload 4, 2) := by decide +kernel
theorem d_Law_law_390 : decode b_Law_law 390 = .ok (.iconst 2, 1) := by decide +kernel
theorem d_Law_law_391 : decode b_Law_law 391 = .ok (.iadd, 1) := by decide +kernel
theorem d_Law_law_392 : decode b_Law_law 392 = .ok (.iaload, 1) := by decide +kernel
theorem d_Law_law_393 : decode b_Law_law 393 = .ok (.aload_n 3, 1) := by decide +kernel
theorem d_Law_law_394 : decode b_Law_law 394 = .ok (.invokestatic 39, 3) := by decide +kernel
theorem d_Law_law_397 : decode b_Law_law 397 = .ok (.istore 5, 2) := by decide +kernel
theorem d_Law_law_399 : decode b_Law_law 399 = .ok (.aload_n 2, 1) := by decide +kernel
theorem d_Law_law_400 : decode b_Law_law 400 = .ok (.aload_n 0, 1) := by decide +kernel
theorem d_Law_law_401 : decode b_Law_law 401 = .ok (.iload 4, 2) := by decide +kernel
theorem d_Law_law_403 : decode b_Law_law 403 = .ok (.iconst 1, 1) := by decide +kernel
theorem d_Law_law_404 : decode b_Law_law 404 = .ok (.iadd, 1) := by decide +kernel
theorem d_Law_law_405 : decode b_Law_law 405 = .ok (.iaload, 1) := by decide +kernel
theorem d_Law_law_406 : decode b_Law_law 406 = .ok (.aload_n 0, 1) := by decide +kernel
theorem d_Law_law_407 : decode b_Law_law 407 = .ok (.iload 4, 2) := by decide +kernel
theorem d_Law_law_409 : decode b_Law_law 409 = .ok (.iconst 2, 1) := by decide +kernel
theorem d_Law_law_410 : decode b_Law_law 410 = .ok (.iadd, 1) := by decide +kernel
theorem d_Law_law_411 : decode b_Law_law 411 = .ok (.iaload, 1) := by decide +kernel
theorem d_Law_law_412 : decode b_Law_law 412 = .ok (.invokevirtual 44, 3) := by decide +kernel
theorem d_Law_law_415 : decode b_Law_law 415 = .ok (.istore 6, 2) := by decide +kernel
theorem d_Law_law_417 : decode b_Law_law 417 = .ok (.aload_n 2, 1) := by decide +kernel
theorem d_Law_law_418 : decode b_Law_law 418 = .ok (.invokevirtual 45, 3) := by decide +kernel
theorem d_Law_law_421 : decode b_Law_law 421 = .ok (.iload 5, 2) := by decide +kernel
theorem d_Law_law_423 : decode b_Law_law 423 = .ok (.if_icmp .eq 5, 3) := by decide +kernel
theorem d_Law_law_426 : decode b_Law_law 426 = .ok (.iconst 0, 1) := by decide +kernel
theorem d_Law_law_427 : decode b_Law_law 427 = .ok (.ireturn, 1) := by decide +kernel
theorem d_Law_law_428 : decode b_Law_law 428 = .ok (.iload 5, 2) := by decide +kernel
theorem d_Law_law_430 : decode b_Law_law 430 = .ok (.ifCond .ne 15, 3) := by decide +kernel
theorem d_Law_law_433 : decode b_Law_law 433 = .ok (.aload_n 3, 1) := by decide +kernel
theorem d_Law_law_434 : decode b_Law_law 434 = .ok (.iconst 0, 1) := by decide +kernel
theorem d_Law_law_435 : decode b_Law_law 435 = .ok (.laload, 1) := by decide +kernel
theorem d_Law_law_436 : decode b_Law_law 436 = .ok (.iload 6, 2) := by decide +kernel
theorem d_Law_law_438 : decode b_Law_law 438 = .ok (.i2l, 1) := by decide +kernel
theorem d_Law_law_439 : decode b_Law_law 439 = .ok (.lcmp, 1) := by decide +kernel
theorem d_Law_law_440 : decode b_Law_law 440 = .ok (.ifCond .eq 5, 3) := by decide +kernel
theorem d_Law_law_443 : decode b_Law_law 443 = .ok (.iconst 0, 1) := by decide +kernel
theorem d_Law_law_444 : decode b_Law_law 444 = .ok (.ireturn, 1) := by decide +kernel
theorem d_Law_law_445 : decode b_Law_law 445 = .ok (.goto 1126, 3) := by decide +kernel
theorem d_Law_law_448 : decode b_Law_law 448 = .ok (.aload_n 1, 1) := by decide +kernel
theorem d_Law_law_449 : decode b_Law_law 449 = .ok (.aload_n 0, 1) := by decide +kernel
theorem d_Law_law_450 : decode b_Law_law 450 = .ok (.iload 4, 2) := by decide +kernel
theorem d_Law_law_452 : decode b_Law_law 452 = .ok (.iconst 1, 1) := by decide +kernel
theorem d_Law_law_453 : decode b_Law_law 453 = .ok (.iadd, 1) := by decide +kernel
theorem d_Law_law_454 : decode b_Law_law 454 = .ok (.iaload, 1) := by decide +kernel
theorem d_Law_law_455 : decode b_Law_law 455 = .ok (.aload_n 0, 1) := by decide +kernel
theorem d_Law_law_456 : decode b_Law_law 456 = .ok (.iload 4, 2) := by decide +kernel
theorem d_Law_law_458 : decode b_Law_law 458 = .ok (.iconst 2, 1) := by decide +kernel
theorem d_Law_law_459 : decode b_Law_law 459 = .ok (.iadd, 1) := by decide +kernel
theorem d_Law_law_460 : decode b_Law_law 460 = .ok (.iaload, 1) := by decide +kernel
theorem d_Law_law_461 : decode b_Law_law 461 = .ok (.invokevirtual 49, 3) := by decide +kernel
theorem d_Law_law_464 : decode b_Law_law 464 = .ok (.aload_n 2, 1) := by decide +kernel
theorem d_Law_law_465 : decode b_Law_law 465 = .ok (.aload_n 0, 1) := by decide +kernel
theorem d_Law_law_466 : decode b_Law_law 466 = .ok (.iload 4, 2) := by decide +kernel
theorem d_Law_law_468 : decode b_Law_law 468 = .ok (.iconst 1, 1) := by decide +kernel
theorem d_Law_law_469 : decode b_Law_law 469 = .ok (.iadd, 1) := by decide +kernel
theorem d_Law_law_470 : decode b_Law_law 470 = .ok (.iaload, 1) := by decide +kernel
theorem d_Law_law_471 : decode b_Law_law 471 = .ok (.aload_n 0, 1) := by decide +kernel
theorem d_Law_law_472 : decode b_Law_law 472 = .ok (.iload 4, 2) := by decide +kernel
theorem d_Law_law_474 : decode b_Law_law 474 = .ok (.iconst 2, 1) := by decide +kernel
theorem d_Law_law_475 : decode b_Law_law 475 = .ok (.iadd, 1) := by decide +kernel
theorem d_Law_law_476 : decode b_Law_law 476 = .ok (.iaload, 1) := by decide +kernel
theorem d_Law_law_477 : decode b_Law_law 477 = .ok (.invokevirtual 52, 3) := by decide +kernel
theorem d_Law_law_480 : decode b_Law_law 480 = .ok (.if_icmp .eq 1091, 3) := by decide +kernel
theorem d_Law_law_483 : decode b_Law_law 483 = .ok (.iconst 0, 1) := by decide +kernel
theorem d_Law_law_484 : decode b_Law_law 484 = .ok (.ireturn, 1) := by decide +kernel
theorem d_Law_law_485 : decode b_Law_law 485 = .ok (.aload_n 1, 1) := by decide +kernel
theorem d_Law_law_486 : decode b_Law_law 486 = .ok (.aload_n 0, 1) := by decide +kernel
theorem d_Law_law_487 : decode b_Law_law 487 = .ok (.iload 4, 2) := by decide +kernel
theorem d_Law_law_489 : decode b_Law_law 489 = .ok (.iconst 1, 1) := by decide +kernel
theorem d_Law_law_490 : decode b_Law_law 490 = .ok (.iadd, 1) := by decide +kernel
theorem d_Law_law_491 : decode b_Law_law 491 = .ok (.iaload, 1) := by decide +kernel
theorem d_Law_law_492 : decode b_Law_law 492 = .ok (.aload_n 0, 1) := by decide +kernel
theorem d_Law_law_493 : decode b_Law_law 493 = .ok (.iload 4, 2) := by decide +kernel
theorem d_Law_law_495 : decode b_Law_law 495 = .ok (.iconst 2, 1) := by decide +kernel
theorem d_Law_law_496 : decode b_Law_law 496 = .ok (.iadd, 1) := by decide +kernel
theorem d_Law_law_497 : decode b_Law_law 497 = .ok (.iaload, 1) := by decide +kernel
theorem d_Law_law_498 : decode b_Law_law 498 = .ok (.invokevirtual 53, 3) := by decide +kernel
theorem d_Law_law_501 : decode b_Law_law 501 = .ok (.aload_n 2, 1) := by decide +kernel
theorem d_Law_law_502 : decode b_Law_law 502 = .ok (.aload_n 0, 1) := by decide +kernel
theorem d_Law_law_503 : decode b_Law_law 503 = .ok (.iload 4, 2) := by decide +kernel
theorem d_Law_law_505 : decode b_Law_law 505 = .ok (.iconst 1, 1) := by decide +kernel
theorem d_Law_law_506 : decode b_Law_law 506 = .ok (.iadd, 1) := by decide +kernel
theorem d_Law_law_507 : decode b_Law_law 507 = .ok (.iaload, 1) := by decide +kernel
theorem d_Law_law_508 : decode b_Law_law 508 = .ok (.aload_n 0, 1) := by decide +kernel
theorem d_Law_law_509 : decode b_Law_law 509 = .ok (.iload 4, 2) := by decide +kernel
theorem d_Law_law_511 : decode b_Law_law 511 = .ok (.iconst 2, 1) := by decide +kernel
theorem d_Law_law_512 : decode b_Law_law 512 = .ok (.iadd, 1) := by decide +kernel
theorem d_Law_law_513 : decode b_Law_law 513 = .ok (.iaload, 1) := by decide +kernel
theorem d_Law_law_514 : decode b_Law_law 514 = .ok (.invokevirtual 56, 3) := by decide +kernel
theorem d_Law_law_517 : decode b_Law_law 517 = .ok (.if_icmp .eq 1054, 3) := by decide +kernel
theorem d_Law_law_520 : decode b_Law_law 520 = .ok (.iconst 0, 1) := by decide +kernel
theorem d_Law_law_521 : decode b_Law_law 521 = .ok (.ireturn, 1) := by decide +kernel
theorem d_Law_law_522 : decode b_Law_law 522 = .ok (.aload_n 1, 1) := by decide +kernel
theorem d_Law_law_523 : decode b_Law_law 523 = .ok (.aload_n 0, 1) := by decide +kernel
theorem d_Law_law_524 : decode b_Law_law 524 = .ok (.iload 4, 2) := by decide +kernel
theorem d_Law_law_526 : decode b_Law_law 526 = .ok (.iconst 1, 1) := by decide +kernel
theorem d_Law_law_527 : decode b_Law_law 527 = .ok (.iadd, 1) := by decide +kernel
theorem d_Law_law_528 : decode b_Law_law 528 = .ok (.iaload, 1) := by decide +kernel
theorem d_Law_law_529 : decode b_Law_law 529 = .ok (.aload_n 0, 1) := by decide +kernel
theorem d_Law_law_530 : decode b_Law_law 530 = .ok (.iload 4, 2) := by decide +kernel
theorem d_Law_law_532 : decode b_Law_law 532 = .ok (.iconst 2, 1) := by decide +kernel
theorem d_Law_law_533 : decode b_Law_law 533 = .ok (.iadd, 1) := by decide +kernel
theorem d_Law_law_534 : decode b_Law_law 534 = .ok (.iaload, 1) := by decide +kernel
theorem d_Law_law_535 : decode b_Law_law 535 = .ok (.aload_n 0, 1) := by decide +kernel
theorem d_Law_law_536 : decode b_Law_law 536 = .ok (.iload 4, 2) := by decide +kernel
theorem d_Law_law_538 : decode b_Law_law 538 = .ok (.iconst 3, 1) := by decide +kernel
theorem d_Law_law_539 : decode b_Law_law 539 = .ok (.iadd, 1) := by decide +kernel
theorem d_Law_law_540 : decode b_Law_law 540 = .ok (.iaload, 1) := by decide +kernel
theorem d_Law_law_541 : decode b_Law_law 541 = .ok (.invokevirtual 57, 3) := by decide +kernel
theorem d_Law_law_544 : decode b_Law_law 544 = .ok (.aload_n 2, 1) := by decide +kernel
theorem d_Law_law_545 : decode b_Law_law 545 = .ok (.aload_n 0, 1) := by decide +kernel
theorem d_Law_law_546 : decode b_Law_law 546 = .ok (.iload 4, 2) := by decide +kernel
theorem d_Law_law_548 : decode b_Law_law 548 = .ok (.iconst 1, 1) := by decide +kernel
theorem d_Law_law_549 : decode b_Law_law 549 = .ok (.iadd, 1) := by decide +kernel
theorem d_Law_law_550 : decode b_Law_law 550 = .ok (.iaload, 1) := by decide +kernel
theorem d_Law_law_551 : decode b_Law_law 551 = .ok (.aload_n 0, 1) := by decide +kernel
theorem d_Law_law_552 : decode b_Law_law 552 = .ok (.iload 4, 2) := by decide +kernel
theorem d_Law_law_554 : decode b_Law_law 554 = .ok (.iconst 2, 1) := by decide +kernel
theorem d_Law_law_555 : decode b_Law_law 555 = .ok (.iadd, 1) := by decide +kernel
theorem d_Law_law_556 : decode b_Law_law 556 = .ok (.iaload, 1) := by decide +kernel
theorem d_Law_law_557 : decode b_Law_law 557 = .ok (.aload_n 0, 1) := by decide +kernel
theorem d_Law_law_558 : decode b_Law_law 558 = .ok (.iload 4, 2) := by decide +kernel
theorem d_Law_law_560 : decode b_Law_law 560 = .ok (.iconst 3, 1) := by decide +kernel
theorem d_Law_law_561 : decode b_Law_law 561 = .ok (.iadd, 1) := by decide +kernel
theorem d_Law_law_562 : decode b_Law_law 562 = .ok (.iaload, 1) := by decide +kernel
theorem d_Law_law_563 : decode b_Law_law 563 = .ok (.invokevirtual 61, 3) := by decide +kernel
theorem d_Law_law_566 : decode b_Law_law 566 = .ok (.lcmp, 1) := by decide +kernel
theorem d_Law_law_567 : decode b_Law_law 567 = .ok (.ifCond .eq 1004, 3) := by decide +kernel
theorem d_Law_law_570 : decode b_Law_law 570 = .ok (.iconst 0, 1) := by decide +kernel
theorem d_Law_law_571 : decode b_Law_law 571 = .ok (.ireturn, 1) := by decide +kernel
theorem d_Law_law_572 : decode b_Law_law 572 = .ok (.aload_n 1, 1) := by decide +kernel
theorem d_Law_law_573 : decode b_Law_law 573 = .ok (.aload_n 0, 1) := by decide +kernel
theorem d_Law_law_574 : decode b_Law_law 574 = .ok (.iload 4, 2) := by decide +kernel
theorem d_Law_law_576 : decode b_Law_law 576 = .ok (.iconst 1, 1) := by decide +kernel
theorem d_Law_law_577 : decode b_Law_law 577 = .ok (.iadd, 1) := by decide +kernel
theorem d_Law_law_578 : decode b_Law_law 578 = .ok (.iaload, 1) := by decide +kernel
theorem d_Law_law_579 : decode b_Law_law 579 = .ok (.invokevirtual 62, 3) := by decide +kernel
theorem d_Law_law_582 : decode b_Law_law 582 = .ok (.aload_n 2, 1) := by decide +kernel
theorem d_Law_law_583 : decode b_Law_law 583 = .ok (.aload_n 0, 1) := by decide +kernel
theorem d_Law_law_584 : decode b_Law_law 584 = .ok (.iload 4, 2) := by decide +kernel
theorem d_Law_law_586 : decode b_Law_law 586 = .ok (.iconst 1, 1) := by decide +kernel
theorem d_Law_law_587 : decode b_Law_law 587 = .ok (.iadd, 1) := by decide +kernel
theorem d_Law_law_588 : decode b_Law_law 588 = .ok (.iaload, 1) := by decide +kernel
theorem d_Law_law_589 : decode b_Law_law 589 = .ok (.invokevirtual 65, 3) := by decide +kernel
theorem d_Law_law_592 : decode b_Law_law 592 = .ok (.if_icmp .eq 979, 3) := by decide +kernel
theorem d_Law_law_595 : decode b_Law_law 595 = .ok (.iconst 0, 1) := by decide +kernel
theorem d_Law_law_596 : decode b_Law_law 596 = .ok (.ireturn, 1) := by decide +kernel
theorem d_Law_law_597 : decode b_Law_law 597 = .ok (.aload_n 1, 1) := by decide +kernel
theorem d_Law_law_598 : decode b_Law_law 598 = .ok (.aload_n 0, 1) := by decide +kernel
theorem d_Law_law_599 : decode b_Law_law 599 = .ok (.iload 4, 2) := by decide +kernel
theorem d_Law_law_601 : decode b_Law_law 601 = .ok (.iconst 1, 1) := by decide +kernel
theorem d_Law_law_602 : decode b_Law_law 602 = .ok (.iadd, 1) := by decide +kernel
theorem d_Law_law_603 : decode b_Law_law 603 = .ok (.iaload, 1) := by decide +kernel
theorem d_Law_law_604 : decode b_Law_law 604 = .ok (.aload_n 0, 1) := by decide +kernel
theorem d_Law_law_605 : decode b_Law_law 605 = .ok (.iload 4, 2) := by decide +kernel
theorem d_Law_law_607 : decode b_Law_law 607 = .ok (.iconst 2, 1) := by decide +kernel
theorem d_Law_law_608 : decode b_Law_law 608 = .ok (.iadd, 1) := by decide +kernel
theorem d_Law_law_609 : decode b_Law_law 609 = .ok (.iaload, 1) := by decide +kernel
theorem d_Law_law_610 : decode b_Law_law 610 = .ok (.invokevirtual 66, 3) := by decide +kernel
theorem d_Law_law_613 : decode b_Law_law 613 = .ok (.aload_n 2, 1) := by decide +kernel
theorem d_Law_law_614 : decode b_Law_law 614 = .ok (.aload_n 0, 1) := by decide +kernel
theorem d_Law_law_615 : decode b_Law_law 615 = .ok (.iload 4, 2) := by decide +kernel
theorem d_Law_law_617 : decode b_Law_law 617 = .ok (.iconst 1, 1) := by decide +kernel
theorem d_Law_law_618 : decode b_Law_law 618 = .ok (.iadd, 1) := by decide +kernel
theorem d_Law_law_619 : decode b_Law_law 619 = .ok (.iaload, 1) := by decide +kernel
theorem d_Law_law_620 : decode b_Law_law 620 = .ok (.aload_n 0, 1) := by decide +kernel
theorem d_Law_law_621 : decode b_Law_law 621 = .ok (.iload 4, 2) := by decide +kernel
theorem d_Law_law_623 : decode b_Law_law 623 = .ok (.iconst 2, 1) := by decide +kernel
theorem d_Law_law_624 : decode b_Law_law 624 = .ok (.iadd, 1) := by decide +kernel
theorem d_Law_law_625 : decode b_Law_law 625 = .ok (.iaload, 1) := by decide +kernel
theorem d_Law_law_626 : decode b_Law_law 626 = .ok (.invokevirtual 69, 3) := by decide +kernel
theorem d_Law_law_629 : decode b_Law_law 629 = .ok (.if_icmp .eq 942, 3) := by decide +kernel
theorem d_Law_law_632 : decode b_Law_law 632 = .ok (.iconst 0, 1) := by decide +kernel
theorem d_Law_law_633 : decode b_Law_law 633 = .ok (.ireturn, 1) := by decide +kernel
theorem d_Law_law_634 : decode b_Law_law 634 = .ok (.aload_n 1, 1) := by decide +kernel
theorem d_Law_law_635 : decode b_Law_law 635 = .ok (.aload_n 0, 1) := by decide +kernel
theorem d_Law_law_636 : decode b_Law_law 636 = .ok (.iload 4, 2) := by decide +kernel
theorem d_Law_law_638 : decode b_Law_law 638 = .ok (.iconst 1, 1) := by decide +kernel
theorem d_Law_law_639 : decode b_Law_law 639 = .ok (.iadd, 1) := by decide +kernel
theorem d_Law_law_640 : decode b_Law_law 640 = .ok (.iaload, 1) := by decide +kernel
theorem d_Law_law_641 : decode b_Law_law 641 = .ok (.aload_n 0, 1) := by decide +kernel
theorem d_Law_law_642 : decode b_Law_law 642 = .ok (.iload 4, 2) := by decide +kernel
theorem d_Law_law_644 : decode b_Law_law 644 = .ok (.iconst 2, 1) := by decide +kernel
theorem d_Law_law_645 : decode b_Law_law 645 = .ok (.iadd, 1) := by decide +kernel
theorem d_Law_law_646 : decode b_Law_law 646 = .ok (.iaload, 1) := by decide +kernel
theorem d_Law_law_647 : decode b_Law_law 647 = .ok (.invokevirtual 70, 3) := by decide +kernel
theorem d_Law_law_650 : decode b_Law_law 650 = .ok (.aload_n 2, 1) := by decide +kernel
theorem d_Law_law_651 : decode b_Law_law 651 = .ok (.aload_n 0, 1) := by decide +kernel
theorem d_Law_law_652 : decode b_Law_law 652 = .ok (.iload 4, 2) := by decide +kernel
theorem d_Law_law_654 : decode b_Law_law 654 = .ok (.iconst 1, 1) := by decide +kernel
theorem d_Law_law_655 : decode b_Law_law 655 = .ok (.iadd, 1) := by decide +kernel
theorem d_Law_law_656 : decode b_Law_law 656 = .ok (.iaload, 1) := by decide +kernel
theorem d_Law_law_657 : decode b_Law_law 657 = .ok (.aload_n 0, 1) := by decide +kernel
theorem d_Law_law_658 : decode b_Law_law 658 = .ok (.iload 4, 2) := by decide +kernel
theorem d_Law_law_660 : decode b_Law_law 660 = .ok (.iconst 2, 1) := by decide +kernel
theorem d_Law_law_661 : decode b_Law_law 661 = .ok (.iadd, 1) := by decide +kernel
theorem d_Law_law_662 : decode b_Law_law 662 = .ok (.iaload, 1) := by decide +kernel
theorem d_Law_law_663 : decode b_Law_law 663 = .ok (.invokevirtual 73, 3) := by decide +kernel
theorem d_Law_law_666 : decode b_Law_law 666 = .ok (.if_icmp .eq 905, 3) := by decide +kernel
theorem d_Law_law_669 : decode b_Law_law 669 = .ok (.iconst 0, 1) := by decide +kernel
theorem d_Law_law_670 : decode b_Law_law 670 = .ok (.ireturn, 1) := by decide +kernel
theorem d_Law_law_671 : decode b_Law_law 671 = .ok (.aload_n 1, 1) := by decide +kernel
theorem d_Law_law_672 : decode b_Law_law 672 = .ok (.aload_n 0, 1) := by decide +kernel
theorem d_Law_law_673 : decode b_Law_law 673 = .ok (.iload 4, 2) := by decide +kernel
theorem d_Law_law_675 : decode b_Law_law 675 = .ok (.iconst 1, 1) := by decide +kernel
theorem d_Law_law_676 : decode b_Law_law 676 = .ok (.iadd, 1) := by decide +kernel
theorem d_Law_law_677 : decode b_Law_law 677 = .ok (.iaload, 1) := by decide +kernel
theorem d_Law_law_678 : decode b_Law_law 678 = .ok (.invokevirtual 74, 3) := by decide +kernel
theorem d_Law_law_681 : decode b_Law_law 681 = .ok (.aload_n 2, 1) := by decide +kernel
theorem d_Law_law_682 : decode b_Law_law 682 = .ok (.aload_n 0, 1) := by decide +kernel
theorem d_Law_law_683 : decode b_Law_law 683 = .ok (.iload 4, 2) := by decide +kernel
theorem d_Law_law_685 : decode b_Law_law 685 = .ok (.iconst 1, 1) := by decide +kernel
theorem d_Law_law_686 : decode b_Law_law 686 = .ok (.iadd, 1) := by decide +kernel
theorem d_Law_law_687 : decode b_Law_law 687 = .ok (.iaload, 1) := by decide +kernel
theorem d_Law_law_688 : decode b_Law_law 688 = .ok (.invokevirtual 77, 3) := by decide +kernel
theorem d_Law_law_691 : decode b_Law_law 691 = .ok (.if_icmp .eq 880, 3) := by decide +kernel
theorem d_Law_law_694 : decode b_Law_law 694 = .ok (.iconst 0, 1) := by decide +kernel
theorem d_Law_law_695 : decode b_Law_law 695 = .ok (.ireturn, 1) := by decide +kernel
theorem d_Law_law_696 : decode b_Law_law 696 = .ok (.aload_n 1, 1) := by decide +kernel
theorem d_Law_law_697 : decode b_Law_law 697 = .ok (.aload_n 0, 1) := by decide +kernel
theorem d_Law_law_698 : decode b_Law_law 698 = .ok (.iload 4, 2) := by decide +kernel
theorem d_Law_law_700 : decode b_Law_law 700 = .ok (.iconst 1, 1) := by decide +kernel
theorem d_Law_law_701 : decode b_Law_law 701 = .ok (.iadd, 1) := by decide +kernel
theorem d_Law_law_702 : decode b_Law_law 702 = .ok (.iaload, 1) := by decide +kernel
theorem d_Law_law_703 : decode b_Law_law 703 = .ok (.aload_n 0, 1) := by decide +kernel
theorem d_Law_law_704 : decode b_Law_law 704 = .ok (.iload 4, 2) := by decide +kernel
theorem d_Law_law_706 : decode b_Law_law 706 = .ok (.iconst 2, 1) := by decide +kernel
theorem d_Law_law_707 : decode b_Law_law 707 = .ok (.iadd, 1) := by decide +kernel
theorem d_Law_law_708 : decode b_Law_law 708 = .ok (.iaload, 1) := by decide +kernel
theorem d_Law_law_709 : decode b_Law_law 709 = .ok (.invokevirtual 78, 3) := by decide +kernel
theorem d_Law_law_712 : decode b_Law_law 712 = .ok (.aload_n 2, 1) := by decide +kernel
theorem d_Law_law_713 : decode b_Law_law 713 = .ok (.aload_n 0, 1) := by decide +kernel
theorem d_Law_law_714 : decode b_Law_law 714 = .ok (.iload 4, 2) := by decide +kernel
theorem d_Law_law_716 : decode b_Law_law 716 = .ok (.iconst 1, 1) := by decide +kernel
theorem d_Law_law_717 : decode b_Law_law 717 = .ok (.iadd, 1) := by decide +kernel
theorem d_Law_law_718 : decode b_Law_law 718 = .ok (.iaload, 1) := by decide +kernel
theorem d_Law_law_719 : decode b_Law_law 719 = .ok (.aload_n 0, 1) := by decide +kernel
theorem d_Law_law_720 : decode b_Law_law 720 = .ok (.iload 4, 2) := by decide +kernel
theorem d_Law_law_722 : decode b_Law_law 722 = .ok (.iconst 2, 1) := by decide +kernel
theorem d_Law_law_723 : decode b_Law_law 723 = .ok (.iadd, 1) := by decide +kernel
theorem d_Law_law_724 : decode b_Law_law 724 = .ok (.iaload, 1) := by decide +kernel
theorem d_Law_law_725 : decode b_Law_law 725 = .ok (.invokevirtual 82, 3) := by decide +kernel
theorem d_Law_law_728 : decode b_Law_law 728 = .ok (.if_icmp .eq 843, 3) := by decide +kernel
theorem d_Law_law_731 : decode b_Law_law 731 = .ok (.iconst 0, 1) := by decide +kernel
theorem d_Law_law_732 : decode b_Law_law 732 = .ok (.ireturn, 1) := by decide +kernel
theorem d_Law_law_733 : decode b_Law_law 733 = .ok (.aload_n 1, 1) := by decide +kernel
theorem d_Law_law_734 : decode b_Law_law 734 = .ok (.aload_n 0, 1) := by decide +kernel
theorem d_Law_law_735 : decode b_Law_law 735 = .ok (.iload 4, 2) := by decide +kernel
theorem d_Law_law_737 : decode b_Law_law 737 = .ok (.iconst 1, 1) := by decide +kernel
theorem d_Law_law_738 : decode b_Law_law 738 = .ok (.iadd, 1) := by decide +kernel
theorem d_Law_law_739 : decode b_Law_law 739 = .ok (.iaload, 1) := by decide +kernel
theorem d_Law_law_740 : decode b_Law_law 740 = .ok (.aload_n 0, 1) := by decide +kernel
theorem d_Law_law_741 : decode b_Law_law 741 = .ok (.iload 4, 2) := by decide +kernel
theorem d_Law_law_743 : decode b_Law_law 743 = .ok (.iconst 2, 1) := by decide +kernel
theorem d_Law_law_744 : decode b_Law_law 744 = .ok (.iadd, 1) := by decide +kernel
theorem d_Law_law_745 : decode b_Law_law 745 = .ok (.iaload, 1) := by decide +kernel
theorem d_Law_law_746 : decode b_Law_law 746 = .ok (.ifCond .eq 7, 3) := by decide +kernel
theorem d_Law_law_749 : decode b_Law_law 749 = .ok (.iconst 1, 1) := by decide +kernel
theorem d_Law_law_750 : decode b_Law_law 750 = .ok (.goto 4, 3) := by decide +kernel
theorem d_Law_law_753 : decode b_Law_law 753 = .ok (.iconst 0, 1) := by decide +kernel
theorem d_Law_law_754 : decode b_Law_law 754 = .ok (.invokevirtual 83, 3) := by decide +kernel
theorem d_Law_law_757 : decode b_Law_law 757 = .ok (.aload_n 2, 1) := by decide +kernel
theorem d_Law_law_758 : decode b_Law_law 758 = .ok (.aload_n 0, 1) := by decide +kernel
theorem d_Law_law_759 : decode b_Law_law 759 = .ok (.iload 4, 2) := by decide +kernel
theorem d_Law_law_761 : decode b_Law_law 761 = .ok (.iconst 1, 1) := by decide +kernel
theorem d_Law_law_762 : decode b_Law_law 762 = .ok (.iadd, 1) := by decide +kernel
theorem d_Law_law_763 : decode b_Law_law 763 = .ok (.iaload, 1) := by decide +kernel
theorem d_Law_law_764 : decode b_Law_law 764 = .ok (.aload_n 0, 1) := by decide +kernel
theorem d_Law_law_765 : decode b_Law_law 765 = .ok (.iload 4, 2) := by decide +kernel
theorem d_Law_law_767 : decode b_Law_law 767 = .ok (.iconst 2, 1) := by decide +kernel
theorem d_Law_law_768 : decode b_Law_law 768 = .ok (.iadd, 1) := by decide +kernel
theorem d_Law_law_769 : decode b_Law_law 769 = .ok (.iaload, 1) := by decide +kernel
theorem d_Law_law_770 : decode b_Law_law 770 = .ok (.ifCond .eq 7, 3) := by decide +kernel
theorem d_Law_law_773 : decode b_Law_law 773 = .ok (.iconst 1, 1) := by decide +kernel
theorem d_Law_law_774 : decode b_Law_law 774 = .ok (.goto 4, 3) := by decide +kernel
theorem d_Law_law_777 : decode b_Law_law 777 = .ok (.iconst 0, 1) := by decide +kernel
theorem d_Law_law_778 : decode b_Law_law 778 = .ok (.invokevirtual 87, 3) := by decide +kernel
theorem d_Law_law_781 : decode b_Law_law 781 = .ok (.if_icmp .eq 790, 3) := by decide +kernel
theorem d_Law_law_784 : decode b_Law_law 784 = .ok (.iconst 0, 1) := by decide +kernel
theorem d_Law_law_785 : decode b_Law_law 785 = .ok (.ireturn, 1) := by decide +kernel
theorem d_Law_law_786 : decode b_Law_law 786 = .ok (.aload_n 1, 1) := by decide +kernel
theorem d_Law_law_787 : decode b_Law_law 787 = .ok (.aload_n 0, 1) := by decide +kernel
theorem d_Law_law_788 : decode b_Law_law 788 = .ok (.iload 4, 2) := by decide +kernel
theorem d_Law_law_790 : decode b_Law_law 790 = .ok (.iconst 1, 1) := by decide +kernel
theorem d_Law_law_791 : decode b_Law_law 791 = .ok (.iadd, 1) := by decide +kernel
theorem d_Law_law_792 : decode b_Law_law 792 = .ok (.iaload, 1) := by decide +kernel
theorem d_Law_law_793 : decode b_Law_law 793 = .ok (.aload_n 0, 1) := by decide +kernel
theorem d_Law_law_794 : decode b_Law_law 794 = .ok (.iload 4, 2) := by decide +kernel
theorem d_Law_law_796 : decode b_Law_law 796 = .ok (.iconst 2, 1) := by decide +kernel
theorem d_Law_law_797 : decode b_Law_law 797 = .ok (.iadd, 1) := by decide +kernel
theorem d_Law_law_798 : decode b_Law_law 798 = .ok (.iaload, 1) := by decide +kernel
theorem d_Law_law_799 : decode b_Law_law 799 = .ok (.invokevirtual 88, 3) := by decide +kernel
theorem d_Law_law_802 : decode b_Law_law 802 = .ok (.aload_n 2, 1) := by decide +kernel
theorem d_Law_law_803 : decode b_Law_law 803 = .ok (.aload_n 0, 1) := by decide +kernel
theorem d_Law_law_804 : decode b_Law_law 804 = .ok (.iload 4, 2) := by decide +kernel
theorem d_Law_law_806 : decode b_Law_law 806 = .ok (.iconst 1, 1) := by decide +kernel
theorem d_Law_law_807 : decode b_Law_law 807 = .ok (.iadd, 1) := by decide +kernel
theorem d_Law_law_808 : decode b_Law_law 808 = .ok (.iaload, 1) := by decide +kernel
theorem d_Law_law_809 : decode b_Law_law 809 = .ok (.aload_n 0, 1) := by decide +kernel
theorem d_Law_law_810 : decode b_Law_law 810 = .ok (.iload 4, 2) := by decide +kernel
theorem d_Law_law_812 : decode b_Law_law 812 = .ok (.iconst 2, 1) := by decide +kernel
theorem d_Law_law_813 : decode b_Law_law 813 = .ok (.iadd, 1) := by decide +kernel
theorem d_Law_law_814 : decode b_Law_law 814 = .ok (.iaload, 1) := by decide +kernel
theorem d_Law_law_815 : decode b_Law_law 815 = .ok (.invokevirtual 91, 3) := by decide +kernel
theorem d_Law_law_818 : decode b_Law_law 818 = .ok (.if_icmp .eq 753, 3) := by decide +kernel
theorem d_Law_law_821 : decode b_Law_law 821 = .ok (.iconst 0, 1) := by decide +kernel
theorem d_Law_law_822 : decode b_Law_law 822 = .ok (.ireturn, 1) := by decide +kernel
theorem d_Law_law_823 : decode b_Law_law 823 = .ok (.aload_n 1, 1) := by decide +kernel
theorem d_Law_law_824 : decode b_Law_law 824 = .ok (.aload_n 0, 1) := by decide +kernel
theorem d_Law_law_825 : decode b_Law_law 825 = .ok (.iload 4, 2) := by decide +kernel
theorem d_Law_law_827 : decode b_Law_law 827 = .ok (.iconst 1, 1) := by decide +kernel
theorem d_Law_law_828 : decode b_Law_law 828 = .ok (.iadd, 1) := by decide +kernel
theorem d_Law_law_829 : decode b_Law_law 829 = .ok (.iaload, 1) := by decide +kernel
theorem d_Law_law_830 : decode b_Law_law 830 = .ok (.aload_n 0, 1) := by decide +kernel
theorem d_Law_law_831 : decode b_Law_law 831 = .ok (.iload 4, 2) := by decide +kernel
theorem d_Law_law_833 : decode b_Law_law 833 = .ok (.iconst 2, 1) := by decide +kernel
theorem d_Law_law_834 : decode b_Law_law 834 = .ok (.iadd, 1) := by decide +kernel
theorem d_Law_law_835 : decode b_Law_law 835 = .ok (.iaload, 1) := by decide +kernel
theorem d_Law_law_836 : decode b_Law_law 836 = .ok (.invokevirtual 92, 3) := by decide +kernel
theorem d_Law_law_839 : decode b_Law_law 839 = .ok (.aload_n 2, 1) := by decide +kernel
theorem d_Law_law_840 : decode b_Law_law 840 = .ok (.aload_n 0, 1) := by decide +kernel
theorem d_Law_law_841 : decode b_Law_law 841 = .ok (.iload 4, 2) := by decide +kernel
theorem d_Law_law_843 : decode b_Law_law 843 = .ok (.iconst 1, 1) := by decide +kernel
theorem d_Law_law_844 : decode b_Law_law 844 = .ok (.iadd, 1) := by decide +kernel
theorem d_Law_law_845 : decode b_Law_law 845 = .ok (.iaload, 1) := by decide +kernel
theorem d_Law_law_846 : decode b_Law_law 846 = .ok (.aload_n 0, 1) := by decide +kernel
theorem d_Law_law_847 : decode b_Law_law 847 = .ok (.iload 4, 2) := by decide +kernel
theorem d_Law_law_849 : decode b_Law_law 849 = .ok (.iconst 2, 1) := by decide +kernel
theorem d_Law_law_850 : decode b_Law_law 850 = .ok (.iadd, 1) := by decide +kernel
theorem d_Law_law_851 : decode b_Law_law 851 = .ok (.iaload, 1) := by decide +kernel
theorem d_Law_law_852 : decode b_Law_law 852 = .ok (.invokevirtual 95, 3) := by decide +kernel
theorem d_Law_law_855 : decode b_Law_law 855 = .ok (.if_icmp .eq 716, 3) := by decide +kernel
theorem d_Law_law_858 : decode b_Law_law 858 = .ok (.iconst 0, 1) := by decide +kernel
theorem d_Law_law_859 : decode b_Law_law 859 = .ok (.ireturn, 1) := by decide +kernel
theorem d_Law_law_860 : decode b_Law_law 860 = .ok (.aload_n 1, 1) := by decide +kernel
theorem d_Law_law_861 : decode b_Law_law 861 = .ok (.invokevirtual 96, 3) := by decide +kernel
theorem d_Law_law_864 : decode b_Law_law 864 = .ok (.aload_n 2, 1) := by decide +kernel
theorem d_Law_law_865 : decode b_Law_law 865 = .ok (.invokevirtual 99, 3) := by decide +kernel
theorem d_Law_law_868 : decode b_Law_law 868 = .ok (.if_icmp .eq 703, 3) := by decide +kernel
theorem d_Law_law_871 : decode b_Law_law 871 = .ok (.iconst 0, 1) := by decide +kernel
theorem d_Law_law_872 : decode b_Law_law 872 = .ok (.ireturn, 1) := by decide +kernel
theorem d_Law_law_873 : decode b_Law_law 873 = .ok (.aload_n 1, 1) := by decide +kernel
theorem d_Law_law_874 : decode b_Law_law 874 = .ok (.aload_n 0, 1) := by decide +kernel
theorem d_Law_law_875 : decode b_Law_law 875 = .ok (.iload 4, 2) := by decide +kernel
theorem d_Law_law_877 : decode b_Law_law 877 = .ok (.iconst 1, 1) := by decide +kernel
theorem d_Law_law_878 : decode b_Law_law 878 = .ok (.iadd, 1) := by decide +kernel
theorem d_Law_law_879 : decode b_Law_law 879 = .ok (.iaload, 1) := by decide +kernel
theorem d_Law_law_880 : decode b_Law_law 880 = .ok (.aload_n 0, 1) := by decide +kernel
theorem d_Law_law_881 : decode b_Law_law 881 = .ok (.iload 4, 2) := by decide +kernel
theorem d_Law_law_883 : decode b_Law_law 883 = .ok (.iconst 2, 1) := by decide +kernel
theorem d_Law_law_884 : decode b_Law_law 884 = .ok (.iadd, 1) := by decide +kernel
theorem d_Law_law_885 : decode b_Law_law 885 = .ok (.iaload, 1) := by decide +kernel
theorem d_Law_law_886 : decode b_Law_law 886 = .ok (.invokevirtual 100, 3) := by decide +kernel
theorem d_Law_law_889 : decode b_Law_law 889 = .ok (.aload_n 2, 1) := by decide +kernel
theorem d_Law_law_890 : decode b_Law_law 890 = .ok (.aload_n 0, 1) := by decide +kernel
theorem d_Law_law_891 : decode b_Law_law 891 = .ok (.iload 4, 2) := by decide +kernel
theorem d_Law_law_893 : decode b_Law_law 893 = .ok (.iconst 1, 1) := by decide +kernel
theorem d_Law_law_894 : decode b_Law_law 894 = .ok (.iadd, 1) := by decide +kernel
theorem d_Law_law_895 : decode b_Law_law 895 = .ok (.iaload, 1) := by decide +kernel
theorem d_Law_law_896 : decode b_Law_law 896 = .ok (.aload_n 0, 1) := by decide +kernel
theorem d_Law_law_897 : decode b_Law_law 897 = .ok (.iload 4, 2) := by decide +kernel
theorem d_Law_law_899 : decode b_Law_law 899 = .ok (.iconst 2, 1) := by decide +kernel
theorem d_Law_law_900 : decode b_Law_law 900 = .ok (.iadd, 1) := by decide +kernel
theorem d_Law_law_901 : decode b_Law_law 901 = .ok (.iaload, 1) := by decide +kernel
theorem d_Law_law_902 : decode b_Law_law 902 = .ok (.invokevirtual 104, 3) := by decide +kernel
theorem d_Law_law_905 : decode b_Law_law 905 = .ok (.lcmp, 1) := by decide +kernel
theorem d_Law_law_906 : decode b_Law_law 906 = .ok (.ifCond .eq 665, 3) := by decide +kernel
theorem d_Law_law_909 : decode b_Law_law 909 = .ok (.iconst 0, 1) := by decide +kernel
theorem d_Law_law_910 : decode b_Law_law 910 = .ok (.ireturn, 1) := by decide +kernel
theorem d_Law_law_911 : decode b_Law_law 911 = .ok (.aload_n 1, 1) := by decide +kernel
theorem d_Law_law_912 : decode b_Law_law 912 = .ok (.aload_n 0, 1) := by decide +kernel
theorem d_Law_law_913 : decode b_Law_law 913 = .ok (.iload 4, 2) := by decide +kernel
theorem d_Law_law_915 : decode b_Law_law 915 = .ok (.iconst 1, 1) := by decide +kernel
theorem d_Law_law_916 : decode b_Law_law 916 = .ok (.iadd, 1) := by decide +kernel
theorem d_Law_law_917 : decode b_Law_law 917 = .ok (.iaload, 1) := by decide +kernel
theorem d_Law_law_918 : decode b_Law_law 918 = .ok (.aload_n 0, 1) := by decide +kernel
theorem d_Law_law_919 : decode b_Law_law 919 = .ok (.iload 4, 2) := by decide +kernel
theorem d_Law_law_921 : decode b_Law_law 921 = .ok (.iconst 2, 1) := by decide +kernel
theorem d_Law_law_922 : decode b_Law_law 922 = .ok (.iadd, 1) := by decide +kernel
theorem d_Law_law_923 : decode b_Law_law 923 = .ok (.iaload, 1) := by decide +kernel
theorem d_Law_law_924 : decode b_Law_law 924 = .ok (.invokevirtual 105, 3) := by decide +kernel
theorem d_Law_law_927 : decode b_Law_law 927 = .ok (.aload_n 2, 1) := by decide +kernel
theorem d_Law_law_928 : decode b_Law_law 928 = .ok (.aload_n 0, 1) := by decide +kernel
theorem d_Law_law_929 : decode b_Law_law 929 = .ok (.iload 4, 2) := by decide +kernel
theorem d_Law_law_931 : decode b_Law_law 931 = .ok (.iconst 1, 1) := by decide +kernel
theorem d_Law_law_932 : decode b_Law_law 932 = .ok (.iadd, 1) := by decide +kernel
theorem d_Law_law_933 : decode b_Law_law 933 = .ok (.iaload, 1) := by decide +kernel
theorem d_Law_law_934 : decode b_Law_law 934 = .ok (.aload_n 0, 1) := by decide +kernel
theorem d_Law_law_935 : decode b_Law_law 935 = .ok (.iload 4, 2) := by decide +kernel
theorem d_Law_law_937 : decode b_Law_law 937 = .ok (.iconst 2, 1) := by decide +kernel
theorem d_Law_law_938 : decode b_Law_law 938 = .ok (.iadd, 1) := by decide +kernel
theorem d_Law_law_939 : decode b_Law_law 939 = .ok (.iaload, 1) := by decide +kernel
theorem d_Law_law_940 : decode b_Law_law 940 = .ok (.invokevirtual 108, 3) := by decide +kernel
theorem d_Law_law_943 : decode b_Law_law 943 = .ok (.if_icmp .eq 628, 3) := by decide +kernel
theorem d_Law_law_946 : decode b_Law_law 946 = .ok (.iconst 0, 1) := by decide +kernel
theorem d_Law_law_947 : decode b_Law_law 947 = .ok (.ireturn, 1) := by decide +kernel
theorem d_Law_law_948 : decode b_Law_law 948 = .ok (.aload_n 1, 1) := by decide +kernel
theorem d_Law_law_949 : decode b_Law_law 949 = .ok (.aload_n 0, 1) := by decide +kernel
theorem d_Law_law_950 : decode b_Law_law 950 = .ok (.iload 4, 2) := by decide +kernel
theorem d_Law_law_952 : decode b_Law_law 952 = .ok (.iconst 1, 1) := by decide +kernel
theorem d_Law_law_953 : decode b_Law_law 953 = .ok (.iadd, 1) := by decide +kernel
theorem d_Law_law_954 : decode b_Law_law 954 = .ok (.iaload, 1) := by decide +kernel
theorem d_Law_law_955 : decode b_Law_law 955 = .ok (.aload_n 0, 1) := by decide +kernel
theorem d_Law_law_956 : decode b_Law_law 956 = .ok (.iload 4, 2) := by decide +kernel
theorem d_Law_law_958 : decode b_Law_law 958 = .ok (.iconst 2, 1) := by decide +kernel
theorem d_Law_law_959 : decode b_Law_law 959 = .ok (.iadd, 1) := by decide +kernel
theorem d_Law_law_960 : decode b_Law_law 960 = .ok (.iaload, 1) := by decide +kernel
theorem d_Law_law_961 : decode b_Law_law 961 = .ok (.aload_n 0, 1) := by decide +kernel
theorem d_Law_law_962 : decode b_Law_law 962 = .ok (.iload 4, 2) := by decide +kernel
theorem d_Law_law_964 : decode b_Law_law 964 = .ok (.iconst 3, 1) := by decide +kernel
theorem d_Law_law_965 : decode b_Law_law 965 = .ok (.iadd, 1) := by decide +kernel
theorem d_Law_law_966 : decode b_Law_law 966 = .ok (.iaload, 1) := by decide +kernel
theorem d_Law_law_967 : decode b_Law_law 967 = .ok (.invokevirtual 109, 3) := by decide +kernel
theorem d_Law_law_970 : decode b_Law_law 970 = .ok (.aload_n 2, 1) := by decide +kernel
theorem d_Law_law_971 : decode b_Law_law 971 = .ok (.aload_n 0, 1) := by decide +kernel
theorem d_Law_law_972 : decode b_Law_law 972 = .ok (.iload 4, 2) := by decide +kernel
theorem d_Law_law_974 : decode b_Law_law 974 = .ok (.iconst 1, 1) := by decide +kernel
theorem d_Law_law_975 : decode b_Law_law 975 = .ok (.iadd, 1) := by decide +kernel
theorem d_Law_law_976 : decode b_Law_law 976 = .ok (.iaload, 1) := by decide +kernel
theorem d_Law_law_977 : decode b_Law_law 977 = .ok (.aload_n 0, 1) := by decide +kernel
theorem d_Law_law_978 : decode b_Law_law 978 = .ok (.iload 4, 2) := by decide +kernel
theorem d_Law_law_980 : decode b_Law_law 980 = .ok (.iconst 2, 1) := by decide +kernel
theorem d_Law_law_981 : decode b_Law_law 981 = .ok (.iadd, 1) := by decide +kernel
theorem d_Law_law_982 : decode b_Law_law 982 = .ok (.iaload, 1) := by decide +kernel
theorem d_Law_law_983 : decode b_Law_law 983 = .ok (.aload_n 0, 1) := by decide +kernel
theorem d_Law_law_984 : decode b_Law_law 984 = .ok (.iload 4, 2) := by decide +kernel
theorem d_Law_law_986 : decode b_Law_law 986 = .ok (.iconst 3, 1) := by decide +kernel
theorem d_Law_law_987 : decode b_Law_law 987 = .ok (.iadd, 1) := by decide +kernel
theorem d_Law_law_988 : decode b_Law_law 988 = .ok (.iaload, 1) := by decide +kernel
theorem d_Law_law_989 : decode b_Law_law 989 = .ok (.invokevirtual 113, 3) := by decide +kernel
theorem d_Law_law_992 : decode b_Law_law 992 = .ok (.if_icmp .eq 579, 3) := by decide +kernel
theorem d_Law_law_995 : decode b_Law_law 995 = .ok (.iconst 0, 1) := by decide +kernel
theorem d_Law_law_996 : decode b_Law_law 996 = .ok (.ireturn, 1) := by decide +kernel
theorem d_Law_law_997 : decode b_Law_law 997 = .ok (.aload_n 1, 1) := by decide +kernel
theorem d_Law_law_998 : decode b_Law_law 998 = .ok (.aload_n 0, 1) := by decide +kernel
theorem d_Law_law_999 : decode b_Law_law 999 = .ok (.iload 4, 2) := by decide +kernel
theorem d_Law_law_1001 : decode b_Law_law 1001 = .ok (.iconst 1, 1) := by decide +kernel
theorem d_Law_law_1002 : decode b_Law_law 1002 = .ok (.iadd, 1) := by decide +kernel
theorem d_Law_law_1003 : decode b_Law_law 1003 = .ok (.iaload, 1) := by decide +kernel
theorem d_Law_law_1004 : decode b_Law_law 1004 = .ok (.aload_n 0, 1) := by decide +kernel
theorem d_Law_law_1005 : decode b_Law_law 1005 = .ok (.iload 4, 2) := by decide +kernel
theorem d_Law_law_1007 : decode b_Law_law 1007 = .ok (.iconst 2, 1) := by decide +kernel
theorem d_Law_law_1008 : decode b_Law_law 1008 = .ok (.iadd, 1) := by decide +kernel
theorem d_Law_law_1009 : decode b_Law_law 1009 = .ok (.iaload, 1) := by decide +kernel
theorem d_Law_law_1010 : decode b_Law_law 1010 = .ok (.aload_n 0, 1) := by decide +kernel
theorem d_Law_law_1011 : decode b_Law_law 1011 = .ok (.iload 4, 2) := by decide +kernel
theorem d_Law_law_1013 : decode b_Law_law 1013 = .ok (.iconst 3, 1) := by decide +kernel
theorem d_Law_law_1014 : decode b_Law_law 1014 = .ok (.iadd, 1) := by decide +kernel
theorem d_Law_law_1015 : decode b_Law_law 1015 = .ok (.iaload, 1) := by decide +kernel
theorem d_Law_law_1016 : decode b_Law_law 1016 = .ok (.invokevirtual 114, 3) := by decide +kernel
theorem d_Law_law_1019 : decode b_Law_law 1019 = .ok (.aload_n 2, 1) := by decide +kernel
theorem d_Law_law_1020 : decode b_Law_law 1020 = .ok (.aload_n 0, 1) := by decide +kernel
theorem d_Law_law_1021 : decode b_Law_law 1021 = .ok (.iload 4, 2) := by decide +kernel
theorem d_Law_law_1023 : decode b_Law_law 1023 = .ok (.iconst 1, 1) := by decide +kernel
theorem d_Law_law_1024 : decode b_Law_law 1024 = .ok (.iadd, 1) := by decide +kernel
theorem d_Law_law_1025 : decode b_Law_law 1025 = .ok (.iaload, 1) := by decide +kernel
theorem d_Law_law_1026 : decode b_Law_law 1026 = .ok (.aload_n 0, 1) := by decide +kernel
theorem d_Law_law_1027 : decode b_Law_law 1027 = .ok (.iload 4, 2) := by decide +kernel
theorem d_Law_law_1029 : decode b_Law_law 1029 = .ok (.iconst 2, 1) := by decide +kernel
theorem d_Law_law_1030 : decode b_Law_law 1030 = .ok (.iadd, 1) := by decide +kernel
theorem d_Law_law_1031 : decode b_Law_law 1031 = .ok (.iaload, 1) := by decide +kernel
theorem d_Law_law_1032 : decode b_Law_law 1032 = .ok (.aload_n 0, 1) := by decide +kernel
theorem d_Law_law_1033 : decode b_Law_law 1033 = .ok (.iload 4, 2) := by decide +kernel
theorem d_Law_law_1035 : decode b_Law_law 1035 = .ok (.iconst 3, 1) := by decide +kernel
theorem d_Law_law_1036 : decode b_Law_law 1036 = .ok (.iadd, 1) := by decide +kernel
theorem d_Law_law_1037 : decode b_Law_law 1037 = .ok (.iaload, 1) := by decide +kernel
theorem d_Law_law_1038 : decode b_Law_law 1038 = .ok (.invokevirtual 117, 3) := by decide +kernel
theorem d_Law_law_1041 : decode b_Law_law 1041 = .ok (.if_icmp .eq 530, 3) := by decide +kernel
theorem d_Law_law_1044 : decode b_Law_law 1044 = .ok (.iconst 0, 1) := by decide +kernel
theorem d_Law_law_1045 : decode b_Law_law 1045 = .ok (.ireturn, 1) := by decide +kernel
theorem d_Law_law_1046 : decode b_Law_law 1046 = .ok (.aload_n 1, 1) := by decide +kernel
theorem d_Law_law_1047 : decode b_Law_law 1047 = .ok (.aload_n 0, 1) := by decide +kernel
theorem d_Law_law_1048 : decode b_Law_law 1048 = .ok (.iload 4, 2) := by decide +kernel
theorem d_Law_law_1050 : decode b_Law_law 1050 = .ok (.iconst 1, 1) := by decide +kernel
theorem d_Law_law_1051 : decode b_Law_law 1051 = .ok (.iadd, 1) := by decide +kernel
theorem d_Law_law_1052 : decode b_Law_law 1052 = .ok (.iaload, 1) := by decide +kernel
theorem d_Law_law_1053 : decode b_Law_law 1053 = .ok (.aload_n 0, 1) := by decide +kernel
theorem d_Law_law_1054 : decode b_Law_law 1054 = .ok (.iload 4, 2) := by decide +kernel
theorem d_Law_law_1056 : decode b_Law_law 1056 = .ok (.iconst 2, 1) := by decide +kernel
theorem d_Law_law_1057 : decode b_Law_law 1057 = .ok (.iadd, 1) := by decide +kernel
theorem d_Law_law_1058 : decode b_Law_law 1058 = .ok (.iaload, 1) := by decide +kernel
theorem d_Law_law_1059 : decode b_Law_law 1059 = .ok (.aload_n 0, 1) := by decide +kernel
theorem d_Law_law_1060 : decode b_Law_law 1060 = .ok (.iload 4, 2) := by decide +kernel
theorem d_Law_law_1062 : decode b_Law_law 1062 = .ok (.iconst 3, 1) := by decide +kernel
theorem d_Law_law_1063 : decode b_Law_law 1063 = .ok (.iadd, 1) := by decide +kernel
theorem d_Law_law_1064 : decode b_Law_law 1064 = .ok (.iaload, 1) := by decide +kernel
theorem d_Law_law_1065 : decode b_Law_law 1065 = .ok (.invokevirtual 118, 3) := by decide +kernel
theorem d_Law_law_1068 : decode b_Law_law 1068 = .ok (.aload_n 2, 1) := by decide +kernel
theorem d_Law_law_1069 : decode b_Law_law 1069 = .ok (.aload_n 0, 1) := by decide +kernel
theorem d_Law_law_1070 : decode b_Law_law 1070 = .ok (.iload 4, 2) := by decide +kernel
theorem d_Law_law_1072 : decode b_Law_law 1072 = .ok (.iconst 1, 1) := by decide +kernel
theorem d_Law_law_1073 : decode b_Law_law 1073 = .ok (.iadd, 1) := by decide +kernel
theorem d_Law_law_1074 : decode b_Law_law 1074 = .ok (.iaload, 1) := by decide +kernel
theorem d_Law_law_1075 : decode b_Law_law 1075 = .ok (.aload_n 0, 1) := by decide +kernel
theorem d_Law_law_1076 : decode b_Law_law 1076 = .ok (.iload 4, 2) := by decide +kernel
theorem d_Law_law_1078 : decode b_Law_law 1078 = .ok (.iconst 2, 1) := by decide +kernel
theorem d_Law_law_1079 : decode b_Law_law 1079 = .ok (.iadd, 1) := by decide +kernel
theorem d_Law_law_1080 : decode b_Law_law 1080 = .ok (.iaload, 1) := by decide +kernel
theorem d_Law_law_1081 : decode b_Law_law 1081 = .ok (.aload_n 0, 1) := by decide +kernel
theorem d_Law_law_1082 : decode b_Law_law 1082 = .ok (.iload 4, 2) := by decide +kernel
theorem d_Law_law_1084 : decode b_Law_law 1084 = .ok (.iconst 3, 1) := by decide +kernel
theorem d_Law_law_1085 : decode b_Law_law 1085 = .ok (.iadd, 1) := by decide +kernel
theorem d_Law_law_1086 : decode b_Law_law 1086 = .ok (.iaload, 1) := by decide +kernel
theorem d_Law_law_1087 : decode b_Law_law 1087 = .ok (.invokevirtual 121, 3) := by decide +kernel
theorem d_Law_law_1090 : decode b_Law_law 1090 = .ok (.if_icmp .eq 481, 3) := by decide +kernel
theorem d_Law_law_1093 : decode b_Law_law 1093 = .ok (.iconst 0, 1) := by decide +kernel
theorem d_Law_law_1094 : decode b_Law_law 1094 = .ok (.ireturn, 1) := by decide +kernel
theorem d_Law_law_1095 : decode b_Law_law 1095 = .ok (.aload_n 1, 1) := by decide +kernel
theorem d_Law_law_1096 : decode b_Law_law 1096 = .ok (.aload_n 0, 1) := by decide +kernel
theorem d_Law_law_1097 : decode b_Law_law 1097 = .ok (.iload 4, 2) := by decide +kernel
theorem d_Law_law_1099 : decode b_Law_law 1099 = .ok (.iconst 1, 1) := by decide +kernel
theorem d_Law_law_1100 : decode b_Law_law 1100 = .ok (.iadd, 1) := by decide +kernel
theorem d_Law_law_1101 : decode b_Law_law 1101 = .ok (.iaload, 1) := by decide +kernel
theorem d_Law_law_1102 : decode b_Law_law 1102 = .ok (.aload_n 0, 1) := by decide +kernel
theorem d_Law_law_1103 : decode b_Law_law 1103 = .ok (.iload 4, 2) := by decide +kernel
theorem d_Law_law_1105 : decode b_Law_law 1105 = .ok (.iconst 2, 1) := by decide +kernel
theorem d_Law_law_1106 : decode b_Law_law 1106 = .ok (.iadd, 1) := by decide +kernel
theorem d_Law_law_1107 : decode b_Law_law 1107 = .ok (.iaload, 1) := by decide +kernel
theorem d_Law_law_1108 : decode b_Law_law 1108 = .ok (.invokevirtual 122, 3) := by decide +kernel
theorem d_Law_law_1111 : decode b_Law_law 1111 = .ok (.aload_n 2, 1) := by decide +kernel
theorem d_Law_law_1112 : decode b_Law_law 1112 = .ok (.aload_n 0, 1) := by decide +kernel
theorem d_Law_law_1113 : decode b_Law_law 1113 = .ok (.iload 4, 2) := by decide +kernel
theorem d_Law_law_1115 : decode b_Law_law 1115 = .ok (.iconst 1, 1) := by decide +kernel
theorem d_Law_law_1116 : decode b_Law_law 1116 = .ok (.iadd, 1) := by decide +kernel
theorem d_Law_law_1117 : decode b_Law_law 1117 = .ok (.iaload, 1) := by decide +kernel
theorem d_Law_law_1118 : decode b_Law_law 1118 = .ok (.aload_n 0, 1) := by decide +kernel
theorem d_Law_law_1119 : decode b_Law_law 1119 = .ok (.iload 4, 2) := by decide +kernel
theorem d_Law_law_1121 : decode b_Law_law 1121 = .ok (.iconst 2, 1) := by decide +kernel
theorem d_Law_law_1122 : decode b_Law_law 1122 = .ok (.iadd, 1) := by decide +kernel
theorem d_Law_law_1123 : decode b_Law_law 1123 = .ok (.iaload, 1) := by decide +kernel
theorem d_Law_law_1124 : decode b_Law_law 1124 = .ok (.invokevirtual 125, 3) := by decide +kernel
theorem d_Law_law_1127 : decode b_Law_law 1127 = .ok (.if_icmp .eq 444, 3) := by decide +kernel
theorem d_Law_law_1130 : decode b_Law_law 1130 = .ok (.iconst 0, 1) := by decide +kernel
theorem d_Law_law_1131 : decode b_Law_law 1131 = .ok (.ireturn, 1) := by decide +kernel
theorem d_Law_law_1132 : decode b_Law_law 1132 = .ok (.aload_n 1, 1) := by decide +kernel
theorem d_Law_law_1133 : decode b_Law_law 1133 = .ok (.invokevirtual 126, 3) := by decide +kernel
theorem d_Law_law_1136 : decode b_Law_law 1136 = .ok (.aload_n 2, 1) := by decide +kernel
theorem d_Law_law_1137 : decode b_Law_law 1137 = .ok (.invokevirtual 130, 3) := by decide +kernel
theorem d_Law_law_1140 : decode b_Law_law 1140 = .ok (.lcmp, 1) := by decide +kernel
theorem d_Law_law_1141 : decode b_Law_law 1141 = .ok (.ifCond .eq 430, 3) := by decide +kernel
theorem d_Law_law_1144 : decode b_Law_law 1144 = .ok (.iconst 0, 1) := by decide +kernel
theorem d_Law_law_1145 : decode b_Law_law 1145 = .ok (.ireturn, 1) := by decide +kernel
theorem d_Law_law_1146 : decode b_Law_law 1146 = .ok (.aload_n 1, 1) := by decide +kernel
theorem d_Law_law_1147 : decode b_Law_law 1147 = .ok (.aload_n 0, 1) := by decide +kernel
theorem d_Law_law_1148 : decode b_Law_law 1148 = .ok (.iload 4, 2) := by decide +kernel
theorem d_Law_law_1150 : decode b_Law_law 1150 = .ok (.iconst 1, 1) := by decide +kernel
theorem d_Law_law_1151 : decode b_Law_law 1151 = .ok (.iadd, 1) := by decide +kernel
theorem d_Law_law_1152 : decode b_Law_law 1152 = .ok (.iaload, 1) := by decide +kernel
theorem d_Law_law_1153 : decode b_Law_law 1153 = .ok (.invokevirtual 131, 3) := by decide +kernel
theorem d_Law_law_1156 : decode b_Law_law 1156 = .ok (.aload_n 2, 1) := by decide +kernel
theorem d_Law_law_1157 : decode b_Law_law 1157 = .ok (.aload_n 0, 1) := by decide +kernel
theorem d_Law_law_1158 : decode b_Law_law 1158 = .ok (.iload 4, 2) := by decide +kernel
theorem d_Law_law_1160 : decode b_Law_law 1160 = .ok (.iconst 1, 1) := by decide +kernel
theorem d_Law_law_1161 : decode b_Law_law 1161 = .ok (.iadd, 1) := by decide +kernel
theorem d_Law_law_1162 : decode b_Law_law 1162 = .ok (.iaload, 1) := by decide +kernel
theorem d_Law_law_1163 : decode b_Law_law 1163 = .ok (.invokevirtual 134, 3) := by decide +kernel
theorem d_Law_law_1166 : decode b_Law_law 1166 = .ok (.if_icmp .eq 405, 3) := by decide +kernel
theorem d_Law_law_1169 : decode b_Law_law 1169 = .ok (.iconst 0, 1) := by decide +kernel
theorem d_Law_law_1170 : decode b_Law_law 1170 = .ok (.ireturn, 1) := by decide +kernel
theorem d_Law_law_1171 : decode b_Law_law 1171 = .ok (.aload_n 1, 1) := by decide +kernel
theorem d_Law_law_1172 : decode b_Law_law 1172 = .ok (.invokevirtual 135, 3) := by decide +kernel
theorem d_Law_law_1175 : decode b_Law_law 1175 = .ok (.aload_n 2, 1) := by decide +kernel
theorem d_Law_law_1176 : decode b_Law_law 1176 = .ok (.invokevirtual 138, 3) := by decide +kernel
theorem d_Law_law_1179 : decode b_Law_law 1179 = .ok (.if_icmp .eq 392, 3) := by decide +kernel
theorem d_Law_law_1182 : decode b_Law_law 1182 = .ok (.iconst 0, 1) := by decide +kernel
theorem d_Law_law_1183 : decode b_Law_law 1183 = .ok (.ireturn, 1) := by decide +kernel
theorem d_Law_law_1184 : decode b_Law_law 1184 = .ok (.aload_n 1, 1) := by decide +kernel
theorem d_Law_law_1185 : decode b_Law_law 1185 = .ok (.aload_n 0, 1) := by decide +kernel
theorem d_Law_law_1186 : decode b_Law_law 1186 = .ok (.iload 4, 2) := by decide +kernel
theorem d_Law_law_1188 : decode b_Law_law 1188 = .ok (.iconst 1, 1) := by decide +kernel
theorem d_Law_law_1189 : decode b_Law_law 1189 = .ok (.iadd, 1) := by decide +kernel
theorem d_Law_law_1190 : decode b_Law_law 1190 = .ok (.iaload, 1) := by decide +kernel
theorem d_Law_law_1191 : decode b_Law_law 1191 = .ok (.invokevirtual 139, 3) := by decide +kernel
theorem d_Law_law_1194 : decode b_Law_law 1194 = .ok (.aload_n 2, 1) := by decide +kernel
theorem d_Law_law_1195 : decode b_Law_law 1195 = .ok (.aload_n 0, 1) := by decide +kernel
theorem d_Law_law_1196 : decode b_Law_law 1196 = .ok (.iload 4, 2) := by decide +kernel
theorem d_Law_law_1198 : decode b_Law_law 1198 = .ok (.iconst 1, 1) := by decide +kernel
theorem d_Law_law_1199 : decode b_Law_law 1199 = .ok (.iadd, 1) := by decide +kernel
theorem d_Law_law_1200 : decode b_Law_law 1200 = .ok (.iaload, 1) := by decide +kernel
theorem d_Law_law_1201 : decode b_Law_law 1201 = .ok (.invokevirtual 142, 3) := by decide +kernel
theorem d_Law_law_1204 : decode b_Law_law 1204 = .ok (.if_icmp .eq 367, 3) := by decide +kernel
theorem d_Law_law_1207 : decode b_Law_law 1207 = .ok (.iconst 0, 1) := by decide +kernel
theorem d_Law_law_1208 : decode b_Law_law 1208 = .ok (.ireturn, 1) := by decide +kernel
theorem d_Law_law_1209 : decode b_Law_law 1209 = .ok (.aload_n 1, 1) := by decide +kernel
theorem d_Law_law_1210 : decode b_Law_law 1210 = .ok (.aload_n 0, 1) := by decide +kernel
theorem d_Law_law_1211 : decode b_Law_law 1211 = .ok (.iload 4, 2) := by decide +kernel
theorem d_Law_law_1213 : decode b_Law_law 1213 = .ok (.iconst 1, 1) := by decide +kernel
theorem d_Law_law_1214 : decode b_Law_law 1214 = .ok (.iadd, 1) := by decide +kernel
theorem d_Law_law_1215 : decode b_Law_law 1215 = .ok (.iaload, 1) := by decide +kernel
theorem d_Law_law_1216 : decode b_Law_law 1216 = .ok (.invokevirtual 143, 3) := by decide +kernel
theorem d_Law_law_1219 : decode b_Law_law 1219 = .ok (.aload_n 2, 1) := by decide +kernel
theorem d_Law_law_1220 : decode b_Law_law 1220 = .ok (.aload_n 0, 1) := by decide +kernel
theorem d_Law_law_1221 : decode b_Law_law 1221 = .ok (.iload 4, 2) := by decide +kernel
theorem d_Law_law_1223 : decode b_Law_law 1223 = .ok (.iconst 1, 1) := by decide +kernel
theorem d_Law_law_1224 : decode b_Law_law 1224 = .ok (.iadd, 1) := by decide +kernel
theorem d_Law_law_1225 : decode b_Law_law 1225 = .ok (.iaload, 1) := by decide +kernel
theorem d_Law_law_1226 : decode b_Law_law 1226 = .ok (.invokevirtual 146, 3) := by decide +kernel
theorem d_Law_law_1229 : decode b_Law_law 1229 = .ok (.if_icmp .eq 342, 3) := by decide +kernel
theorem d_Law_law_1232 : decode b_Law_law 1232 = .ok (.iconst 0, 1) := by decide +kernel
theorem d_Law_law_1233 : decode b_Law_law 1233 = .ok (.ireturn, 1) := by decide +kernel
theorem d_Law_law_1234 : decode b_Law_law 1234 = .ok (.aload_n 1, 1) := by decide +kernel
theorem d_Law_law_1235 : decode b_Law_law 1235 = .ok (.aload_n 0, 1) := by decide +kernel
theorem d_Law_law_1236 : decode b_Law_law 1236 = .ok (.iload 4, 2) := by decide +kernel
theorem d_Law_law_1238 : decode b_Law_law 1238 = .ok (.iconst 1, 1) := by decide +kernel
theorem d_Law_law_1239 : decode b_Law_law 1239 = .ok (.iadd, 1) := by decide +kernel
theorem d_Law_law_1240 : decode b_Law_law 1240 = .ok (.iaload, 1) := by decide +kernel
theorem d_Law_law_1241 : decode b_Law_law 1241 = .ok (.aload_n 0, 1) := by decide +kernel
theorem d_Law_law_1242 : decode b_Law_law 1242 = .ok (.iload 4, 2) := by decide +kernel
theorem d_Law_law_1244 : decode b_Law_law 1244 = .ok (.iconst 2, 1) := by decide +kernel
theorem d_Law_law_1245 : decode b_Law_law 1245 = .ok (.iadd, 1) := by decide +kernel
theorem d_Law_law_1246 : decode b_Law_law 1246 = .ok (.iaload, 1) := by decide +kernel
theorem d_Law_law_1247 : decode b_Law_law 1247 = .ok (.invokevirtual 147, 3) := by decide +kernel
theorem d_Law_law_1250 : decode b_Law_law 1250 = .ok (.aload_n 2, 1) := by decide +kernel
theorem d_Law_law_1251 : decode b_Law_law 1251 = .ok (.aload_n 0, 1) := by decide +kernel
theorem d_Law_law_1252 : decode b_Law_law 1252 = .ok (.iload 4, 2) := by decide +kernel
theorem d_Law_law_1254 : decode b_Law_law 1254 = .ok (.iconst 1, 1) := by decide +kernel
theorem d_Law_law_1255 : decode b_Law_law 1255 = .ok (.iadd, 1) := by decide +kernel
theorem d_Law_law_1256 : decode b_Law_law 1256 = .ok (.iaload, 1) := by decide +kernel
theorem d_Law_law_1257 : decode b_Law_law 1257 = .ok (.aload_n 0, 1) := by decide +kernel
theorem d_Law_law_1258 : decode b_Law_law 1258 = .ok (.iload 4, 2) := by decide +kernel
theorem d_Law_law_1260 : decode b_Law_law 1260 = .ok (.iconst 2, 1) := by decide +kernel
theorem d_Law_law_1261 : decode b_Law_law 1261 = .ok (.iadd, 1) := by decide +kernel
theorem d_Law_law_1262 : decode b_Law_law 1262 = .ok (.iaload, 1) := by decide +kernel
theorem d_Law_law_1263 : decode b_Law_law 1263 = .ok (.invokevirtual 150, 3) := by decide +kernel
theorem d_Law_law_1266 : decode b_Law_law 1266 = .ok (.if_icmp .eq 305, 3) := by decide +kernel
theorem d_Law_law_1269 : decode b_Law_law 1269 = .ok (.iconst 0, 1) := by decide +kernel
theorem d_Law_law_1270 : decode b_Law_law 1270 = .ok (.ireturn, 1) := by decide +kernel
theorem d_Law_law_1271 : decode b_Law_law 1271 = .ok (.aload_n 1, 1) := by decide +kernel
theorem d_Law_law_1272 : decode b_Law_law 1272 = .ok (.aload_n 0, 1) := by decide +kernel
theorem d_Law_law_1273 : decode b_Law_law 1273 = .ok (.iload 4, 2) := by decide +kernel
theorem d_Law_law_1275 : decode b_Law_law 1275 = .ok (.iconst 1, 1) := by decide +kernel
theorem d_Law_law_1276 : decode b_Law_law 1276 = .ok (.iadd, 1) := by decide +kernel
theorem d_Law_law_1277 : decode b_Law_law 1277 = .ok (.iaload, 1) := by decide +kernel
theorem d_Law_law_1278 : decode b_Law_law 1278 = .ok (.aload_n 0, 1) := by decide +kernel
theorem d_Law_law_1279 : decode b_Law_law 1279 = .ok (.iload 4, 2) := by decide +kernel
theorem d_Law_law_1281 : decode b_Law_law 1281 = .ok (.iconst 2, 1) := by decide +kernel
theorem d_Law_law_1282 : decode b_Law_law 1282 = .ok (.iadd, 1) := by decide +kernel
theorem d_Law_law_1283 : decode b_Law_law 1283 = .ok (.iaload, 1) := by decide +kernel
theorem d_Law_law_1284 : decode b_Law_law 1284 = .ok (.invokevirtual 151, 3) := by decide +kernel
theorem d_Law_law_1287 : decode b_Law_law 1287 = .ok (.aload_n 2, 1) := by decide +kernel
theorem d_Law_law_1288 : decode b_Law_law 1288 = .ok (.aload_n 0, 1) := by decide +kernel
theorem d_Law_law_1289 : decode b_Law_law 1289 = .ok (.iload 4, 2) := by decide +kernel
theorem d_Law_law_1291 : decode b_Law_law 1291 = .ok (.iconst 1, 1) := by decide +kernel
theorem d_Law_law_1292 : decode b_Law_law 1292 = .ok (.iadd, 1) := by decide +kernel
theorem d_Law_law_1293 : decode b_Law_law 1293 = .ok (.iaload, 1) := by decide +kernel
theorem d_Law_law_1294 : decode b_Law_law 1294 = .ok (.aload_n 0, 1) := by decide +kernel
theorem d_Law_law_1295 : decode b_Law_law 1295 = .ok (.iload 4, 2) := by decide +kernel
theorem d_Law_law_1297 : decode b_Law_law 1297 = .ok (.iconst 2, 1) := by decide +kernel
theorem d_Law_law_1298 : decode b_Law_law 1298 = .ok (.iadd, 1) := by decide +kernel
theorem d_Law_law_1299 : decode b_Law_law 1299 = .ok (.iaload, 1) := by decide +kernel
theorem d_Law_law_1300 : decode b_Law_law 1300 = .ok (.invokevirtual 154, 3) := by decide +kernel
theorem d_Law_law_1303 : decode b_Law_law 1303 = .ok (.if_icmp .eq 268, 3) := by decide +kernel
theorem d_Law_law_1306 : decode b_Law_law 1306 = .ok (.iconst 0, 1) := by decide +kernel
theorem d_Law_law_1307 : decode b_Law_law 1307 = .ok (.ireturn, 1) := by decide +kernel
theorem d_Law_law_1308 : decode b_Law_law 1308 = .ok (.aload_n 1, 1) := by decide +kernel
theorem d_Law_law_1309 : decode b_Law_law 1309 = .ok (.aload_n 0, 1) := by decide +kernel
theorem d_Law_law_1310 : decode b_Law_law 1310 = .ok (.iload 4, 2) := by decide +kernel
theorem d_Law_law_1312 : decode b_Law_law 1312 = .ok (.iconst 1, 1) := by decide +kernel
theorem d_Law_law_1313 : decode b_Law_law 1313 = .ok (.iadd, 1) := by decide +kernel
theorem d_Law_law_1314 : decode b_Law_law 1314 = .ok (.iaload, 1) := by decide +kernel
theorem d_Law_law_1315 : decode b_Law_law 1315 = .ok (.invokevirtual 155, 3) := by decide +kernel
theorem d_Law_law_1318 : decode b_Law_law 1318 = .ok (.aload_n 2, 1) := by decide +kernel
theorem d_Law_law_1319 : decode b_Law_law 1319 = .ok (.aload_n 0, 1) := by decide +kernel
theorem d_Law_law_1320 : decode b_Law_law 1320 = .ok (.iload 4, 2) := by decide +kernel
theorem d_Law_law_1322 : decode b_Law_law 1322 = .ok (.iconst 1, 1) := by decide +kernel
theorem d_Law_law_1323 : decode b_Law_law 1323 = .ok (.iadd, 1) := by decide +kernel
theorem d_Law_law_1324 : decode b_Law_law 1324 = .ok (.iaload, 1) := by decide +kernel
theorem d_Law_law_1325 : decode b_Law_law 1325 = .ok (.invokevirtual 158, 3) := by decide +kernel
theorem d_Law_law_1328 : decode b_Law_law 1328 = .ok (.if_icmp .eq 243, 3) := by decide +kernel
theorem d_Law_law_1331 : decode b_Law_law 1331 = .ok (.iconst 0, 1) := by decide +kernel
theorem d_Law_law_1332 : decode b_Law_law 1332 = .ok (.ireturn, 1) := by decide +kernel
theorem d_Law_law_1333 : decode b_Law_law 1333 = .ok (.aload_n 1, 1) := by decide +kernel
theorem d_Law_law_1334 : decode b_Law_law 1334 = .ok (.aload_n 0, 1) := by decide +kernel
theorem d_Law_law_1335 : decode b_Law_law 1335 = .ok (.iload 4, 2) := by decide +kernel
theorem d_Law_law_1337 : decode b_Law_law 1337 = .ok (.iconst 1, 1) := by decide +kernel
theorem d_Law_law_1338 : decode b_Law_law 1338 = .ok (.iadd, 1) := by decide +kernel
theorem d_Law_law_1339 : decode b_Law_law 1339 = .ok (.iaload, 1) := by decide +kernel
theorem d_Law_law_1340 : decode b_Law_law 1340 = .ok (.invokevirtual 159, 3) := by decide +kernel
theorem d_Law_law_1343 : decode b_Law_law 1343 = .ok (.aload_n 2, 1) := by decide +kernel
theorem d_Law_law_1344 : decode b_Law_law 1344 = .ok (.aload_n 0, 1) := by decide +kernel
theorem d_Law_law_1345 : decode b_Law_law 1345 = .ok (.iload 4, 2) := by decide +kernel
theorem d_Law_law_1347 : decode b_Law_law 1347 = .ok (.iconst 1, 1) := by decide +kernel
theorem d_Law_law_1348 : decode b_Law_law 1348 = .ok (.iadd, 1) := by decide +kernel
theorem d_Law_law_1349 : decode b_Law_law 1349 = .ok (.iaload, 1) := by decide +kernel
theorem d_Law_law_1350 : decode b_Law_law 1350 = .ok (.invokevirtual 163, 3) := by decide +kernel
theorem d_Law_law_1353 : decode b_Law_law 1353 = .ok (.if_icmp .eq 218, 3) := by decide +kernel
theorem d_Law_law_1356 : decode b_Law_law 1356 = .ok (.iconst 0, 1) := by decide +kernel
theorem d_Law_law_1357 : decode b_Law_law 1357 = .ok (.ireturn, 1) := by decide +kernel
theorem d_Law_law_1358 : decode b_Law_law 1358 = .ok (.aload_n 1, 1) := by decide +kernel
theorem d_Law_law_1359 : decode b_Law_law 1359 = .ok (.invokevirtual 164, 3) := by decide +kernel
theorem d_Law_law_1362 : decode b_Law_law 1362 = .ok (.aload_n 2, 1) := by decide +kernel
theorem d_Law_law_1363 : decode b_Law_law 1363 = .ok (.invokevirtual 167, 3) := by decide +kernel
theorem d_Law_law_1366 : decode b_Law_law 1366 = .ok (.if_icmp .eq 205, 3) := by decide +kernel
theorem d_Law_law_1369 : decode b_Law_law 1369 = .ok (.iconst 0, 1) := by decide +kernel
theorem d_Law_law_1370 : decode b_Law_law 1370 = .ok (.ireturn, 1) := by decide +kernel
theorem d_Law_law_1371 : decode b_Law_law 1371 = .ok (.aload_n 1, 1) := by decide +kernel
theorem d_Law_law_1372 : decode b_Law_law 1372 = .ok (.aload_n 0, 1) := by decide +kernel
theorem d_Law_law_1373 : decode b_Law_law 1373 = .ok (.iload 4, 2) := by decide +kernel
theorem d_Law_law_1375 : decode b_Law_law 1375 = .ok (.iconst 1, 1) := by decide +kernel
theorem d_Law_law_1376 : decode b_Law_law 1376 = .ok (.iadd, 1) := by decide +kernel
theorem d_Law_law_1377 : decode b_Law_law 1377 = .ok (.iaload, 1) := by decide +kernel
theorem d_Law_law_1378 : decode b_Law_law 1378 = .ok (.invokevirtual 168, 3) := by decide +kernel
theorem d_Law_law_1381 : decode b_Law_law 1381 = .ok (.aload_n 2, 1) := by decide +kernel
theorem d_Law_law_1382 : decode b_Law_law 1382 = .ok (.aload_n 0, 1) := by decide +kernel
theorem d_Law_law_1383 : decode b_Law_law 1383 = .ok (.iload 4, 2) := by decide +kernel
theorem d_Law_law_1385 : decode b_Law_law 1385 = .ok (.iconst 1, 1) := by decide +kernel
theorem d_Law_law_1386 : decode b_Law_law 1386 = .ok (.iadd, 1) := by decide +kernel
theorem d_Law_law_1387 : decode b_Law_law 1387 = .ok (.iaload, 1) := by decide +kernel
theorem d_Law_law_1388 : decode b_Law_law 1388 = .ok (.invokevirtual 171, 3) := by decide +kernel
theorem d_Law_law_1391 : decode b_Law_law 1391 = .ok (.if_icmp .eq 180, 3) := by decide +kernel
theorem d_Law_law_1394 : decode b_Law_law 1394 = .ok (.iconst 0, 1) := by decide +kernel
theorem d_Law_law_1395 : decode b_Law_law 1395 = .ok (.ireturn, 1) := by decide +kernel
theorem d_Law_law_1396 : decode b_Law_law 1396 = .ok (.aload_n 1, 1) := by decide +kernel
theorem d_Law_law_1397 : decode b_Law_law 1397 = .ok (.aload_n 0, 1) := by decide +kernel
theorem d_Law_law_1398 : decode b_Law_law 1398 = .ok (.iload 4, 2) := by decide +kernel
theorem d_Law_law_1400 : decode b_Law_law 1400 = .ok (.iconst 1, 1) := by decide +kernel
theorem d_Law_law_1401 : decode b_Law_law 1401 = .ok (.iadd, 1) := by decide +kernel
theorem d_Law_law_1402 : decode b_Law_law 1402 = .ok (.iaload, 1) := by decide +kernel
theorem d_Law_law_1403 : decode b_Law_law 1403 = .ok (.invokevirtual 172, 3) := by decide +kernel
theorem d_Law_law_1406 : decode b_Law_law 1406 = .ok (.aload_n 2, 1) := by decide +kernel
theorem d_Law_law_1407 : decode b_Law_law 1407 = .ok (.aload_n 0, 1) := by decide +kernel
theorem d_Law_law_1408 : decode b_Law_law 1408 = .ok (.iload 4, 2) := by decide +kernel
theorem d_Law_law_1410 : decode b_Law_law 1410 = .ok (.iconst 1, 1) := by decide +kernel
theorem d_Law_law_1411 : decode b_Law_law 1411 = .ok (.iadd, 1) := by decide +kernel
theorem d_Law_law_1412 : decode b_Law_law 1412 = .ok (.iaload, 1) := by decide +kernel
theorem d_Law_law_1413 : decode b_Law_law 1413 = .ok (.invokevirtual 175, 3) := by decide +kernel
theorem d_Law_law_1416 : decode b_Law_law 1416 = .ok (.if_icmp .eq 155, 3) := by decide +kernel
theorem d_Law_law_1419 : decode b_Law_law 1419 = .ok (.iconst 0, 1) := by decide +kernel
theorem d_Law_law_1420 : decode b_Law_law 1420 = .ok (.ireturn, 1) := by decide +kernel
theorem d_Law_law_1421 : decode b_Law_law 1421 = .ok (.aload_n 1, 1) := by decide +kernel
theorem d_Law_law_1422 : decode b_Law_law 1422 = .ok (.aload_n 0, 1) := by decide +kernel
theorem d_Law_law_1423 : decode b_Law_law 1423 = .ok (.iload 4, 2) := by decide +kernel
theorem d_Law_law_1425 : decode b_Law_law 1425 = .ok (.iconst 1, 1) := by decide +kernel
theorem d_Law_law_1426 : decode b_Law_law 1426 = .ok (.iadd, 1) := by decide +kernel
theorem d_Law_law_1427 : decode b_Law_law 1427 = .ok (.iaload, 1) := by decide +kernel
theorem d_Law_law_1428 : decode b_Law_law 1428 = .ok (.aload_n 0, 1) := by decide +kernel
theorem d_Law_law_1429 : decode b_Law_law 1429 = .ok (.iload 4, 2) := by decide +kernel
theorem d_Law_law_1431 : decode b_Law_law 1431 = .ok (.iconst 2, 1) := by decide +kernel
theorem d_Law_law_1432 : decode b_Law_law 1432 = .ok (.iadd, 1) := by decide +kernel
theorem d_Law_law_1433 : decode b_Law_law 1433 = .ok (.iaload, 1) := by decide +kernel
theorem d_Law_law_1434 : decode b_Law_law 1434 = .ok (.invokevirtual 176, 3) := by decide +kernel
theorem d_Law_law_1437 : decode b_Law_law 1437 = .ok (.aload_n 2, 1) := by decide +kernel
theorem d_Law_law_1438 : decode b_Law_law 1438 = .ok (.aload_n 0, 1) := by decide +kernel
theorem d_Law_law_1439 : decode b_Law_law 1439 = .ok (.iload 4, 2) := by decide +kernel
theorem d_Law_law_1441 : decode b_Law_law 1441 = .ok (.iconst 1, 1) := by decide +kernel
theorem d_Law_law_1442 : decode b_Law_law 1442 = .ok (.iadd, 1) := by decide +kernel
theorem d_Law_law_1443 : decode b_Law_law 1443 = .ok (.iaload, 1) := by decide +kernel
theorem d_Law_law_1444 : decode b_Law_law 1444 = .ok (.aload_n 0, 1) := by decide +kernel
theorem d_Law_law_1445 : decode b_Law_law 1445 = .ok (.iload 4, 2) := by decide +kernel
theorem d_Law_law_1447 : decode b_Law_law 1447 = .ok (.iconst 2, 1) := by decide +kernel
theorem d_Law_law_1448 : decode b_Law_law 1448 = .ok (.iadd, 1) := by decide +kernel
theorem d_Law_law_1449 : decode b_Law_law 1449 = .ok (.iaload, 1) := by decide +kernel
theorem d_Law_law_1450 : decode b_Law_law 1450 = .ok (.invokevirtual 179, 3) := by decide +kernel
theorem d_Law_law_1453 : decode b_Law_law 1453 = .ok (.if_icmp .eq 118, 3) := by decide +kernel
theorem d_Law_law_1456 : decode b_Law_law 1456 = .ok (.iconst 0, 1) := by decide +kernel
theorem d_Law_law_1457 : decode b_Law_law 1457 = .ok (.ireturn, 1) := by decide +kernel
theorem d_Law_law_1458 : decode b_Law_law 1458 = .ok (.aload_n 1, 1) := by decide +kernel
theorem d_Law_law_1459 : decode b_Law_law 1459 = .ok (.aload_n 0, 1) := by decide +kernel
theorem d_Law_law_1460 : decode b_Law_law 1460 = .ok (.iload 4, 2) := by decide +kernel
theorem d_Law_law_1462 : decode b_Law_law 1462 = .ok (.iconst 1, 1) := by decide +kernel
theorem d_Law_law_1463 : decode b_Law_law 1463 = .ok (.iadd, 1) := by decide +kernel
theorem d_Law_law_1464 : decode b_Law_law 1464 = .ok (.iaload, 1) := by decide +kernel
theorem d_Law_law_1465 : decode b_Law_law 1465 = .ok (.aload_n 0, 1) := by decide +kernel
theorem d_Law_law_1466 : decode b_Law_law 1466 = .ok (.iload 4, 2) := by decide +kernel
theorem d_Law_law_1468 : decode b_Law_law 1468 = .ok (.iconst 2, 1) := by decide +kernel
theorem d_Law_law_1469 : decode b_Law_law 1469 = .ok (.iadd, 1) := by decide +kernel
theorem d_Law_law_1470 : decode b_Law_law 1470 = .ok (.iaload, 1) := by decide +kernel
theorem d_Law_law_1471 : decode b_Law_law 1471 = .ok (.aload_n 0, 1) := by decide +kernel
theorem d_Law_law_1472 : decode b_Law_law 1472 = .ok (.iload 4, 2) := by decide +kernel
theorem d_Law_law_1474 : decode b_Law_law 1474 = .ok (.iconst 3, 1) := by decide +kernel
theorem d_Law_law_1475 : decode b_Law_law 1475 = .ok (.iadd, 1) := by decide +kernel
theorem d_Law_law_1476 : decode b_Law_law 1476 = .ok (.iaload, 1) := by decide +kernel
theorem d_Law_law_1477 : decode b_Law_law 1477 = .ok (.invokevirtual 180, 3) := by decide +kernel
theorem d_Law_law_1480 : decode b_Law_law 1480 = .ok (.aload_n 2, 1) := by decide +kernel
theorem d_Law_law_1481 : decode b_Law_law 1481 = .ok (.aload_n 0, 1) := by decide +kernel
theorem d_Law_law_1482 : decode b_Law_law 1482 = .ok (.iload 4, 2) := by decide +kernel
theorem d_Law_law_1484 : decode b_Law_law 1484 = .ok (.iconst 1, 1) := by decide +kernel
theorem d_Law_law_1485 : decode b_Law_law 1485 = .ok (.iadd, 1) := by decide +kernel
theorem d_Law_law_1486 : decode b_Law_law 1486 = .ok (.iaload, 1) := by decide +kernel
theorem d_Law_law_1487 : decode b_Law_law 1487 = .ok (.aload_n 0, 1) := by decide +kernel
theorem d_Law_law_1488 : decode b_Law_law 1488 = .ok (.iload 4, 2) := by decide +kernel
theorem d_Law_law_1490 : decode b_Law_law 1490 = .ok (.iconst 2, 1) := by decide +kernel
theorem d_Law_law_1491 : decode b_Law_law 1491 = .ok (.iadd, 1) := by decide +kernel
theorem d_Law_law_1492 : decode b_Law_law 1492 = .ok (.iaload, 1) := by decide +kernel
theorem d_Law_law_1493 : decode b_Law_law 1493 = .ok (.aload_n 0, 1) := by decide +kernel
theorem d_Law_law_1494 : decode b_Law_law 1494 = .ok (.iload 4, 2) := by decide +kernel
theorem d_Law_law_1496 : decode b_Law_law 1496 = .ok (.iconst 3, 1) := by decide +kernel
theorem d_Law_law_1497 : decode b_Law_law 1497 = .ok (.iadd, 1) := by decide +kernel
theorem d_Law_law_1498 : decode b_Law_law 1498 = .ok (.iaload, 1) := by decide +kernel
theorem d_Law_law_1499 : decode b_Law_law 1499 = .ok (.invokevirtual 183, 3) := by decide +kernel
theorem d_Law_law_1502 : decode b_Law_law 1502 = .ok (.if_icmp .eq 69, 3) := by decide +kernel
theorem d_Law_law_1505 : decode b_Law_law 1505 = .ok (.iconst 0, 1) := by decide +kernel
theorem d_Law_law_1506 : decode b_Law_law 1506 = .ok (.ireturn, 1) := by decide +kernel
theorem d_Law_law_1507 : decode b_Law_law 1507 = .ok (.aload_n 1, 1) := by decide +kernel
theorem d_Law_law_1508 : decode b_Law_law 1508 = .ok (.invokevirtual 184, 3) := by decide +kernel
theorem d_Law_law_1511 : decode b_Law_law 1511 = .ok (.aload_n 2, 1) := by decide +kernel
theorem d_Law_law_1512 : decode b_Law_law 1512 = .ok (.invokevirtual 187, 3) := by decide +kernel
theorem d_Law_law_1515 : decode b_Law_law 1515 = .ok (.if_icmp .eq 56, 3) := by decide +kernel
theorem d_Law_law_1518 : decode b_Law_law 1518 = .ok (.iconst 0, 1) := by decide +kernel
theorem d_Law_law_1519 : decode b_Law_law 1519 = .ok (.ireturn, 1) := by decide +kernel
theorem d_Law_law_1520 : decode b_Law_law 1520 = .ok (.aload_n 1, 1) := by decide +kernel
theorem d_Law_law_1521 : decode b_Law_law 1521 = .ok (.invokevirtual 188, 3) := by decide +kernel
theorem d_Law_law_1524 : decode b_Law_law 1524 = .ok (.aload_n 2, 1) := by decide +kernel
theorem d_Law_law_1525 : decode b_Law_law 1525 = .ok (.invokevirtual 191, 3) := by decide +kernel
theorem d_Law_law_1528 : decode b_Law_law 1528 = .ok (.if_icmp .eq 43, 3) := by decide +kernel
theorem d_Law_law_1531 : decode b_Law_law 1531 = .ok (.iconst 0, 1) := by decide +kernel
theorem d_Law_law_1532 : decode b_Law_law 1532 = .ok (.ireturn, 1) := by decide +kernel
theorem d_Law_law_1533 : decode b_Law_law 1533 = .ok (.aload_n 1, 1) := by decide +kernel
theorem d_Law_law_1534 : decode b_Law_law 1534 = .ok (.invokevirtual 192, 3) := by decide +kernel
theorem d_Law_law_1537 : decode b_Law_law 1537 = .ok (.aload_n 2, 1) := by decide +kernel
theorem d_Law_law_1538 : decode b_Law_law 1538 = .ok (.invokevirtual 195, 3) := by decide +kernel
theorem d_Law_law_1541 : decode b_Law_law 1541 = .ok (.if_icmp .eq 30, 3) := by decide +kernel
theorem d_Law_law_1544 : decode b_Law_law 1544 = .ok (.iconst 0, 1) := by decide +kernel
theorem d_Law_law_1545 : decode b_Law_law 1545 = .ok (.ireturn, 1) := by decide +kernel
theorem d_Law_law_1546 : decode b_Law_law 1546 = .ok (.aload_n 1, 1) := by decide +kernel
theorem d_Law_law_1547 : decode b_Law_law 1547 = .ok (.aload_n 0, 1) := by decide +kernel
theorem d_Law_law_1548 : decode b_Law_law 1548 = .ok (.iload 4, 2) := by decide +kernel
theorem d_Law_law_1550 : decode b_Law_law 1550 = .ok (.iconst 1, 1) := by decide +kernel
theorem d_Law_law_1551 : decode b_Law_law 1551 = .ok (.iadd, 1) := by decide +kernel
theorem d_Law_law_1552 : decode b_Law_law 1552 = .ok (.iaload, 1) := by decide +kernel
theorem d_Law_law_1553 : decode b_Law_law 1553 = .ok (.invokevirtual 196, 3) := by decide +kernel
theorem d_Law_law_1556 : decode b_Law_law 1556 = .ok (.aload_n 2, 1) := by decide +kernel
theorem d_Law_law_1557 : decode b_Law_law 1557 = .ok (.aload_n 0, 1) := by decide +kernel
theorem d_Law_law_1558 : decode b_Law_law 1558 = .ok (.iload 4, 2) := by decide +kernel
theorem d_Law_law_1560 : decode b_Law_law 1560 = .ok (.iconst 1, 1) := by decide +kernel
theorem d_Law_law_1561 : decode b_Law_law 1561 = .ok (.iadd, 1) := by decide +kernel
theorem d_Law_law_1562 : decode b_Law_law 1562 = .ok (.iaload, 1) := by decide +kernel
theorem d_Law_law_1563 : decode b_Law_law 1563 = .ok (.invokevirtual 199, 3) := by decide +kernel
theorem d_Law_law_1566 : decode b_Law_law 1566 = .ok (.if_icmp .eq 5, 3) := by decide +kernel
theorem d_Law_law_1569 : decode b_Law_law 1569 = .ok (.iconst 0, 1) := by decide +kernel
theorem d_Law_law_1570 : decode b_Law_law 1570 = .ok (.ireturn, 1) := by decide +kernel
theorem d_Law_law_1571 : decode b_Law_law 1571 = .ok (.iinc 4 6, 3) := by decide +kernel
theorem d_Law_law_1574 : decode b_Law_law 1574 = .ok (.goto (-1551), 3) := by decide +kernel
theorem d_Law_law_1577 : decode b_Law_law 1577 = .ok (.iconst 1, 1) := by decide +kernel
theorem d_Law_law_1578 : decode b_Law_law 1578 = .ok (.ireturn, 1) := by decide +kernel
