abbrev b_Law_law : ByteArray := code
def y_Law_law : MethodName := ⟨"WardFallsLaw", "law", "([I)Z"⟩
theorem d_Law_law_0 : decode b_Law_law 0 = .ok (.new 8, 3) := by decide +kernel
theorem d_Law_law_3 : decode b_Law_law 3 = .ok (.dup, 1) := by decide +kernel
theorem d_Law_law_4 : decode b_Law_law 4 = .ok (.invokespecial 17, 3) := by decide +kernel
theorem d_Law_law_7 : decode b_Law_law 7 = .ok (.astore_n 1, 1) := by decide +kernel
theorem d_Law_law_8 : decode b_Law_law 8 = .ok (.new 18, 3) := by decide +kernel
theorem d_Law_law_11 : decode b_Law_law 11 = .ok (.dup, 1) := by decide +kernel
theorem d_Law_law_12 : decode b_Law_law 12 = .ok (.invokespecial 20, 3) := by decide +kernel
theorem d_Law_law_15 : decode b_Law_law 15 = .ok (.astore_n 2, 1) := by decide +kernel
theorem d_Law_law_16 : decode b_Law_law 16 = .ok (.iconst 1, 1) := by decide +kernel
theorem d_Law_law_17 : decode b_Law_law 17 = .ok (.newarray .long, 2) := by decide +kernel
theorem d_Law_law_19 : decode b_Law_law 19 = .ok (.astore_n 3, 1) := by decide +kernel
theorem d_Law_law_20 : decode b_Law_law 20 = .ok (.iconst 0, 1) := by decide +kernel
theorem d_Law_law_21 : decode b_Law_law 21 = .ok (.istore 4, 2) := by decide +kernel
theorem d_Law_law_23 : decode b_Law_law 23 = .ok (.iload 4, 2) := by decide +kernel
theorem d_Law_law_25 : decode b_Law_law 25 = .ok (.aload_n 0, 1) := by decide +kernel
theorem d_Law_law_26 : decode b_Law_law 26 = .ok (.arraylength, 1) := by decide +kernel
theorem d_Law_law_27 : decode b_Law_law 27 = .ok (.bipush 6, 2) := by decide +kernel
theorem d_Law_law_29 : decode b_Law_law 29 = .ok (.isub, 1) := by decide +kernel
theorem d_Law_law_30 : decode b_Law_law 30 = .ok (.if_icmp .gt 1517, 3) := by decide +kernel
theorem d_Law_law_33 : decode b_Law_law 33 = .ok (.aload_n 0, 1) := by decide +kernel
theorem d_Law_law_34 : decode b_Law_law 34 = .ok (.iload 4, 2) := by decide +kernel
theorem d_Law_law_36 : decode b_Law_law 36 = .ok (.iaload, 1) := by decide +kernel
theorem d_Law_law_37 : decode b_Law_law 37 = .ok (.bipush 63, 2) := by decide +kernel
theorem d_Law_law_39 : decode b_Law_law 39 = .ok (.iand, 1) := by decide +kernel
theorem d_Law_law_40 : decode b_Law_law 40 = .ok (.tableswitch 1501 0 40 #[180, 253, 278, 303, 340, 380, 417, 454, 504, 529, 566, 603, 628, 665, 718, 755, 792, 805, 842, 879, 928, 977, 1026, 1063, 1076, 1101, 1114, 1139, 1164, 1201, 1238, 1263, 1288, 1301, 1326, 1351, 1388, 1437, 1450, 1463, 1476], 180) := by decide +kernel
theorem d_Law_law_220 : decode b_Law_law 220 = .ok (.aload_n 1, 1) := by decide +kernel
theorem d_Law_law_221 : decode b_Law_law 221 = .ok (.aload_n 0, 1) := by decide +kernel
theorem d_Law_law_222 : decode b_Law_law 222 = .ok (.iload 4, 2) := by decide +kernel
theorem d_Law_law_224 : decode b_Law_law 224 = .ok (.iconst 1, 1) := by decide +kernel
theorem d_Law_law_225 : decode b_Law_law 225 = .ok (.iadd, 1) := by decide +kernel
theorem d_Law_law_226 : decode b_Law_law 226 = .ok (.iaload, 1) := by decide +kernel
theorem d_Law_law_227 : decode b_Law_law 227 = .ok (.aload_n 0, 1) := by decide +kernel
theorem d_Law_law_228 : decode b_Law_law 228 = .ok (.iload 4, 2) := by decide +kernel
theorem d_Law_law_230 : decode b_Law_law 230 = .ok (.iconst 2, 1) := by decide +kernel
theorem d_Law_law_231 : decode b_Law_law 231 = .ok (.iadd, 1) := by decide +kernel
theorem d_Law_law_232 : decode b_Law_law 232 = .ok (.iaload, 1) := by decide +kernel
theorem d_Law_law_233 : decode b_Law_law 233 = .ok (.aload_n 0, 1) := by decide +kernel
theorem d_Law_law_234 : decode b_Law_law 234 = .ok (.iload 4, 2) := by decide +kernel
theorem d_Law_law_236 : decode b_Law_law 236 = .ok (.iconst 3, 1) := by decide +kernel
theorem d_Law_law_237 : decode b_Law_law 237 = .ok (.iadd, 1) := by decide +kernel
theorem d_Law_law_238 : decode b_Law_law 238 = .ok (.iaload, 1) := by decide +kernel
theorem d_Law_law_239 : decode b_Law_law 239 = .ok (.aload_n 0, 1) := by decide +kernel
theorem d_Law_law_240 : decode b_Law_law 240 = .ok (.iload 4, 2) := by decide +kernel
theorem d_Law_law_242 : decode b_Law_law 242 = .ok (.iconst 4, 1) := by decide +kernel
theorem d_Law_law_243 : decode b_Law_law 243 = .ok (.iadd, 1) := by decide +kernel
theorem d_Law_law_244 : decode b_Law_law 244 = .ok (.iaload, 1) := by decide +kernel
theorem d_Law_law_245 : decode b_Law_law 245 = .ok (.aload_n 0, 1) := by decide +kernel
theorem d_Law_law_246 : decode b_Law_law 246 = .ok (.iload 4, 2) := by decide +kernel
theorem d_Law_law_248 : decode b_Law_law 248 = .ok (.iconst 5, 1) := by decide +kernel
theorem d_Law_law_249 : decode b_Law_law 249 = .ok (.iadd, 1) := by decide +kernel
theorem d_Law_law_250 : decode b_Law_law 250 = .ok (.iaload, 1) := by decide +kernel
theorem d_Law_law_251 : decode b_Law_law 251 = .ok (.invokevirtual 21, 3) := by decide +kernel
theorem d_Law_law_254 : decode b_Law_law 254 = .ok (.pop, 1) := by decide +kernel
theorem d_Law_law_255 : decode b_Law_law 255 = .ok (.aload_n 2, 1) := by decide +kernel
theorem d_Law_law_256 : decode b_Law_law 256 = .ok (.aload_n 0, 1) := by decide +kernel
theorem d_Law_law_257 : decode b_Law_law 257 = .ok (.iload 4, 2) := by decide +kernel
theorem d_Law_law_259 : decode b_Law_law 259 = .ok (.iconst 1, 1) := by decide +kernel
theorem d_Law_law_260 : decode b_Law_law 260 = .ok (.iadd, 1) := by decide +kernel
theorem d_Law_law_261 : decode b_Law_law 261 = .ok (.iaload, 1) := by decide +kernel
theorem d_Law_law_262 : decode b_Law_law 262 = .ok (.aload_n 0, 1) := by decide +kernel
theorem d_Law_law_263 : decode b_Law_law 263 = .ok (.iload 4, 2) := by decide +kernel
theorem d_Law_law_265 : decode b_Law_law 265 = .ok (.iconst 2, 1) := by decide +kernel
theorem d_Law_law_266 : decode b_Law_law 266 = .ok (.iadd, 1) := by decide +kernel
theorem d_Law_law_267 : decode b_Law_law 267 = .ok (.iaload, 1) := by decide +kernel
theorem d_Law_law_268 : decode b_Law_law 268 = .ok (.aload_n 0, 1) := by decide +kernel
theorem d_Law_law_269 : decode b_Law_law 269 = .ok (.iload 4, 2) := by decide +kernel
theorem d_Law_law_271 : decode b_Law_law 271 = .ok (.iconst 3, 1) := by decide +kernel
theorem d_Law_law_272 : decode b_Law_law 272 = .ok (.iadd, 1) := by decide +kernel
theorem d_Law_law_273 : decode b_Law_law 273 = .ok (.iaload, 1) := by decide +kernel
theorem d_Law_law_274 : decode b_Law_law 274 = .ok (.aload_n 0, 1) := by decide +kernel
theorem d_Law_law_275 : decode b_Law_law 275 = .ok (.iload 4, 2) := by decide +kernel
theorem d_Law_law_277 : decode b_Law_law 277 = .ok (.iconst 4, 1) := by decide +kernel
theorem d_Law_law_278 : decode b_Law_law 278 = .ok (.iadd, 1) := by decide +kernel
theorem d_Law_law_279 : decode b_Law_law 279 = .ok (.iaload, 1) := by decide +kernel
theorem d_Law_law_280 : decode b_Law_law 280 = .ok (.aload_n 0, 1) := by decide +kernel
theorem d_Law_law_281 : decode b_Law_law 281 = .ok (.iload 4, 2) := by decide +kernel
theorem d_Law_law_283 : decode b_Law_law 283 = .ok (.iconst 5, 1) := by decide +kernel
theorem d_Law_law_284 : decode b_Law_law 284 = .ok (.iadd, 1) := by decide +kernel
theorem d_Law_law_285 : decode b_Law_law 285 = .ok (.iaload, 1) := by decide +kernel
theorem d_Law_law_286 : decode b_Law_law 286 = .ok (.invokevirtual 25, 3) := by decide +kernel
theorem d_Law_law_289 : decode b_Law_law 289 = .ok (.pop, 1) := by decide +kernel
theorem d_Law_law_290 : decode b_Law_law 290 = .ok (.goto 1251, 3) := by decide +kernel
theorem d_Law_law_293 : decode b_Law_law 293 = .ok (.aload_n 1, 1) := by decide +kernel
theorem d_Law_law_294 : decode b_Law_law 294 = .ok (.aload_n 0, 1) := by decide +kernel
theorem d_Law_law_295 : decode b_Law_law 295 = .ok (.iload 4, 2) := by decide +kernel
theorem d_Law_law_297 : decode b_Law_law 297 = .ok (.iconst 1, 1) := by decide +kernel
theorem d_Law_law_298 : decode b_Law_law 298 = .ok (.iadd, 1) := by decide +kernel
theorem d_Law_law_299 : decode b_Law_law 299 = .ok (.iaload, 1) := by decide +kernel
theorem d_Law_law_300 : decode b_Law_law 300 = .ok (.invokevirtual 26, 3) := by decide +kernel
theorem d_Law_law_303 : decode b_Law_law 303 = .ok (.pop, 1) := by decide +kernel
theorem d_Law_law_304 : decode b_Law_law 304 = .ok (.aload_n 2, 1) := by decide +kernel
theorem d_Law_law_305 : decode b_Law_law 305 = .ok (.aload_n 0, 1) := by decide +kernel
theorem d_Law_law_306 : decode b_Law_law 306 = .ok (.iload 4, 2) := by decide +kernel
theorem d_Law_law_308 : decode b_Law_law 308 = .ok (.iconst 1, 1) := by decide +kernel
theorem d_Law_law_309 : decode b_Law_law 309 = .ok (.iadd, 1) := by decide +kernel
theorem d_Law_law_310 : decode b_Law_law 310 = .ok (.iaload, 1) := by decide +kernel
theorem d_Law_law_311 : decode b_Law_law 311 = .ok (.invokevirtual 30, 3) := by decide +kernel
theorem d_Law_law_314 : decode b_Law_law 314 = .ok (.pop, 1) := by decide +kernel
theorem d_Law_law_315 : decode b_Law_law 315 = .ok (.goto 1226, 3) := by decide +kernel
theorem d_Law_law_318 : decode b_Law_law 318 = .ok (.aload_n 1, 1) := by decide +kernel
theorem d_Law_law_319 : decode b_Law_law 319 = .ok (.aload_n 0, 1) := by decide +kernel
theorem d_Law_law_320 : decode b_Law_law 320 = .ok (.iload 4, 2) := by decide +kernel
theorem d_Law_law_322 : decode b_Law_law 322 = .ok (.iconst 1, 1) := by decide +kernel
theorem d_Law_law_323 : decode b_Law_law 323 = .ok (.iadd, 1) := by decide +kernel
theorem d_Law_law_324 : decode b_Law_law 324 = .ok (.iaload, 1) := by decide +kernel
theorem d_Law_law_325 : decode b_Law_law 325 = .ok (.invokevirtual 31, 3) := by decide +kernel
theorem d_Law_law_328 : decode b_Law_law 328 = .ok (.pop, 1) := by decide +kernel
theorem d_Law_law_329 : decode b_Law_law 329 = .ok (.aload_n 2, 1) := by decide +kernel
theorem d_Law_law_330 : decode b_Law_law 330 = .ok (.aload_n 0, 1) := by decide +kernel
theorem d_Law_law_331 : decode b_Law_law 331 = .ok (.iload 4, 2) := by decide +kernel
theorem d_Law_law_333 : decode b_Law_law 333 = .ok (.iconst 1, 1) := by decide +kernel
theorem d_Law_law_334 : decode b_Law_law 334 = .ok (.iadd, 1) := by decide +kernel
theorem d_Law_law_335 : decode b_Law_law 335 = .ok (.iaload, 1) := by decide +kernel
theorem d_Law_law_336 : decode b_Law_law 336 = .ok (.invokevirtual 34, 3) := by decide +kernel
theorem d_Law_law_339 : decode b_Law_law 339 = .ok (.pop, 1) := by decide +kernel
theorem d_Law_law_340 : decode b_Law_law 340 = .ok (.goto 1201, 3) := by decide +kernel
theorem d_Law_law_343 : decode b_Law_law 343 = .ok (.aload_n 1, 1) := by decide +kernel
theorem d_Law_law_344 : decode b_Law_law 344 = .ok (.aload_n 0, 1) := by decide +kernel
theorem d_Law_law_345 : decode b_Law_law 345 = .ok (.iload 4, 2) := by decide +kernel
theorem d_Law_law_347 : decode b_Law_law 347 = .ok (.iconst 1, 1) := by decide +kernel
theorem d_Law_law_348 : decode b_Law_law 348 = .ok (.iadd, 1) := by decide +kernel
theorem d_Law_law_349 : decode b_Law_law 349 = .ok (.iaload, 1) := by decide +kernel
theorem d_Law_law_350 : decode b_Law_law 350 = .ok (.aload_n 0, 1) := by decide +kernel
theorem d_Law_law_351 : decode b_Law_law 351 = .ok (.iload 4, 2) := by decide +kernel
theorem d_Law_law_353 : decode b_Law_law 353 = .ok (.iconst 2, 1) := by decide +kernel
theorem d_Law_law_354 : decode b_Law_law 354 = .ok (.iadd, 1) := by decide +kernel
theorem d_Law_law_355 : decode b_Law_law 355 = .ok (.iaload, 1) := by decide +kernel
theorem d_Law_law_356 : decode b_Law_law 356 = .ok (.invokevirtual 35, 3) := by decide +kernel
theorem d_Law_law_359 : decode b_Law_law 359 = .ok (.pop, 1) := by decide +kernel
theorem d_Law_law_360 : decode b_Law_law 360 = .ok (.aload_n 2, 1) := by decide +kernel
theorem d_Law_law_361 : decode b_Law_law 361 = .ok (.aload_n 0, 1) := by decide +kernel
theorem d_Law_law_362 : decode b_Law_law 362 = .ok (.iload 4, 2) := by decide +kernel
theorem d_Law_law_364 : decode b_Law_law 364 = .ok (.iconst 1, 1) := by decide +kernel
theorem d_Law_law_365 : decode b_Law_law 365 = .ok (.iadd, 1) := by decide +kernel
theorem d_Law_law_366 : decode b_Law_law 366 = .ok (.iaload, 1) := by decide +kernel
theorem d_Law_law_367 : decode b_Law_law 367 = .ok (.aload_n 0, 1) := by decide +kernel
theorem d_Law_law_368 : decode b_Law_law 368 = .ok (.iload 4, 2) := by decide +kernel
theorem d_Law_law_370 : decode b_Law_law 370 = .ok (.iconst 2, 1) := by decide +kernel
theorem d_Law_law_371 : decode b_Law_law 371 = .ok (.iadd, 1) := by decide +kernel
theorem d_Law_law_372 : decode b_Law_law 372 = .ok (.iaload, 1) := by decide +kernel
theorem d_Law_law_373 : decode b_Law_law 373 = .ok (.invokevirtual 38, 3) := by decide +kernel
theorem d_Law_law_376 : decode b_Law_law 376 = .ok (.pop, 1) := by decide +kernel
theorem d_Law_law_377 : decode b_Law_law 377 = .ok (.goto 1164, 3) := by decide +kernel
theorem d_Law_law_380 : decode b_Law_law 380 = .ok (.aload_n 1, 1) := by decide +kernel
theorem d_Law_law_381 : decode b_Law_law 381 = .ok (.aload_n 0, 1) := by decide +kernel
theorem d_Law_law_382 : decode b_Law_law 382 = .ok (.iload 4, 2) := by decide +kernel
theorem d_Law_law_384 : decode b_Law_law 384 = .ok (.iconst 1, 1) := by decide +kernel
theorem d_Law_law_385 : decode b_Law_law 385 = .ok (.iadd, 1) := by decide +kernel
theorem d_Law_law_386 : decode b_Law_law 386 = .ok (.iaload, 1) := by decide +kernel
theorem d_Law_law_387 : decode b_Law_law 387 = .ok (.aload_n 0, 1) := by decide +kernel
theorem d_Law_law_388 : decode b_Law_law 388 = .ok (.iload 4, 2) := by decide +kernel
theorem d_Law_law_390 : decode b_Law_law 390 = .ok (.iconst 2, 1) := by decide +kernel
theorem d_Law_law_391 : decode b_Law_law 391 = .ok (.iadd, 1) := by decide +kernel
theorem d_Law_law_392 : decode b_Law_law 392 = .ok (.iaload, 1) := by decide +kernel
theorem d_Law_law_393 : decode b_Law_law 393 = .ok (.aload_n 3, 1) := by decide +kernel
theorem d_Law_law_394 : decode b_Law_law 394 = .ok (.invokestatic 39, 3) := by decide +kernel
theorem d_Law_law_397 : decode b_Law_law 397 = .ok (.istore 5, 2) := by decide +kernel
theorem d_Law_law_399 : decode b_Law_law 399 = .ok (.aload_n 2, 1) := by decide +kernel
theorem d_Law_law_400 : decode b_Law_law 400 = .ok (.aload_n 0, 1) := by decide +kernel
theorem d_Law_law_401 : decode b_Law_law 401 = .ok (.iload 4, 2) := by decide +kernel
theorem d_Law_law_403 : decode b_Law_law 403 = .ok (.iconst 1, 1) := by decide +kernel
theorem d_Law_law_404 : decode b_Law_law 404 = .ok (.iadd, 1) := by decide +kernel
theorem d_Law_law_405 : decode b_Law_law 405 = .ok (.iaload, 1) := by decide +kernel
theorem d_Law_law_406 : decode b_Law_law 406 = .ok (.aload_n 0, 1) := by decide +kernel
theorem d_Law_law_407 : decode b_Law_law 407 = .ok (.iload 4, 2) := by decide +kernel
theorem d_Law_law_409 : decode b_Law_law 409 = .ok (.iconst 2, 1) := by decide +kernel
theorem d_Law_law_410 : decode b_Law_law 410 = .ok (.iadd, 1) := by decide +kernel
theorem d_Law_law_411 : decode b_Law_law 411 = .ok (.iaload, 1) := by decide +kernel
theorem d_Law_law_412 : decode b_Law_law 412 = .ok (.invokevirtual 44, 3) := by decide +kernel
theorem d_Law_law_415 : decode b_Law_law 415 = .ok (.istore 6, 2) := by decide +kernel
theorem d_Law_law_417 : decode b_Law_law 417 = .ok (.goto 1124, 3) := by decide +kernel
theorem d_Law_law_420 : decode b_Law_law 420 = .ok (.aload_n 1, 1) := by decide +kernel
theorem d_Law_law_421 : decode b_Law_law 421 = .ok (.aload_n 0, 1) := by decide +kernel
theorem d_Law_law_422 : decode b_Law_law 422 = .ok (.iload 4, 2) := by decide +kernel
theorem d_Law_law_424 : decode b_Law_law 424 = .ok (.iconst 1, 1) := by decide +kernel
theorem d_Law_law_425 : decode b_Law_law 425 = .ok (.iadd, 1) := by decide +kernel
theorem d_Law_law_426 : decode b_Law_law 426 = .ok (.iaload, 1) := by decide +kernel
theorem d_Law_law_427 : decode b_Law_law 427 = .ok (.aload_n 0, 1) := by decide +kernel
theorem d_Law_law_428 : decode b_Law_law 428 = .ok (.iload 4, 2) := by decide +kernel
theorem d_Law_law_430 : decode b_Law_law 430 = .ok (.iconst 2, 1) := by decide +kernel
theorem d_Law_law_431 : decode b_Law_law 431 = .ok (.iadd, 1) := by decide +kernel
theorem d_Law_law_432 : decode b_Law_law 432 = .ok (.iaload, 1) := by decide +kernel
theorem d_Law_law_433 : decode b_Law_law 433 = .ok (.invokevirtual 45, 3) := by decide +kernel
theorem d_Law_law_436 : decode b_Law_law 436 = .ok (.pop, 1) := by decide +kernel
theorem d_Law_law_437 : decode b_Law_law 437 = .ok (.aload_n 2, 1) := by decide +kernel
theorem d_Law_law_438 : decode b_Law_law 438 = .ok (.aload_n 0, 1) := by decide +kernel
theorem d_Law_law_439 : decode b_Law_law 439 = .ok (.iload 4, 2) := by decide +kernel
theorem d_Law_law_441 : decode b_Law_law 441 = .ok (.iconst 1, 1) := by decide +kernel
theorem d_Law_law_442 : decode b_Law_law 442 = .ok (.iadd, 1) := by decide +kernel
theorem d_Law_law_443 : decode b_Law_law 443 = .ok (.iaload, 1) := by decide +kernel
theorem d_Law_law_444 : decode b_Law_law 444 = .ok (.aload_n 0, 1) := by decide +kernel
theorem d_Law_law_445 : decode b_Law_law 445 = .ok (.iload 4, 2) := by decide +kernel
theorem d_Law_law_447 : decode b_Law_law 447 = .ok (.iconst 2, 1) := by decide +kernel
theorem d_Law_law_448 : decode b_Law_law 448 = .ok (.iadd, 1) := by decide +kernel
theorem d_Law_law_449 : decode b_Law_law 449 = .ok (.iaload, 1) := by decide +kernel
theorem d_Law_law_450 : decode b_Law_law 450 = .ok (.invokevirtual 48, 3) := by decide +kernel
theorem d_Law_law_453 : decode b_Law_law 453 = .ok (.pop, 1) := by decide +kernel
theorem d_Law_law_454 : decode b_Law_law 454 = .ok (.goto 1087, 3) := by decide +kernel
theorem d_Law_law_457 : decode b_Law_law 457 = .ok (.aload_n 1, 1) := by decide +kernel
theorem d_Law_law_458 : decode b_Law_law 458 = .ok (.aload_n 0, 1) := by decide +kernel
theorem d_Law_law_459 : decode b_Law_law 459 = .ok (.iload 4, 2) := by decide +kernel
theorem d_Law_law_461 : decode b_Law_law 461 = .ok (.iconst 1, 1) := by decide +kernel
theorem d_Law_law_462 : decode b_Law_law 462 = .ok (.iadd, 1) := by decide +kernel
theorem d_Law_law_463 : decode b_Law_law 463 = .ok (.iaload, 1) := by decide +kernel
theorem d_Law_law_464 : decode b_Law_law 464 = .ok (.aload_n 0, 1) := by decide +kernel
theorem d_Law_law_465 : decode b_Law_law 465 = .ok (.iload 4, 2) := by decide +kernel
theorem d_Law_law_467 : decode b_Law_law 467 = .ok (.iconst 2, 1) := by decide +kernel
theorem d_Law_law_468 : decode b_Law_law 468 = .ok (.iadd, 1) := by decide +kernel
theorem d_Law_law_469 : decode b_Law_law 469 = .ok (.iaload, 1) := by decide +kernel
theorem d_Law_law_470 : decode b_Law_law 470 = .ok (.invokevirtual 49, 3) := by decide +kernel
theorem d_Law_law_473 : decode b_Law_law 473 = .ok (.pop, 1) := by decide +kernel
theorem d_Law_law_474 : decode b_Law_law 474 = .ok (.aload_n 2, 1) := by decide +kernel
theorem d_Law_law_475 : decode b_Law_law 475 = .ok (.aload_n 0, 1) := by decide +kernel
theorem d_Law_law_476 : decode b_Law_law 476 = .ok (.iload 4, 2) := by decide +kernel
theorem d_Law_law_478 : decode b_Law_law 478 = .ok (.iconst 1, 1) := by decide +kernel
theorem d_Law_law_479 : decode b_Law_law 479 = .ok (.iadd, 1) := by decide +kernel
theorem d_Law_law_480 : decode b_Law_law 480 = .ok (.iaload, 1) := by decide +kernel
theorem d_Law_law_481 : decode b_Law_law 481 = .ok (.aload_n 0, 1) := by decide +kernel
theorem d_Law_law_482 : decode b_Law_law 482 = .ok (.iload 4, 2) := by decide +kernel
theorem d_Law_law_484 : decode b_Law_law 484 = .ok (.iconst 2, 1) := by decide +kernel
theorem d_Law_law_485 : decode b_Law_law 485 = .ok (.iadd, 1) := by decide +kernel
theorem d_Law_law_486 : decode b_Law_law 486 = .ok (.iaload, 1) := by decide +kernel
theorem d_Law_law_487 : decode b_Law_law 487 = .ok (.invokevirtual 52, 3) := by decide +kernel
theorem d_Law_law_490 : decode b_Law_law 490 = .ok (.pop, 1) := by decide +kernel
theorem d_Law_law_491 : decode b_Law_law 491 = .ok (.goto 1050, 3) := by decide +kernel
theorem d_Law_law_494 : decode b_Law_law 494 = .ok (.aload_n 1, 1) := by decide +kernel
theorem d_Law_law_495 : decode b_Law_law 495 = .ok (.aload_n 0, 1) := by decide +kernel
theorem d_Law_law_496 : decode b_Law_law 496 = .ok (.iload 4, 2) := by decide +kernel
theorem d_Law_law_498 : decode b_Law_law 498 = .ok (.iconst 1, 1) := by decide +kernel
theorem d_Law_law_499 : decode b_Law_law 499 = .ok (.iadd, 1) := by decide +kernel
theorem d_Law_law_500 : decode b_Law_law 500 = .ok (.iaload, 1) := by decide +kernel
theorem d_Law_law_501 : decode b_Law_law 501 = .ok (.aload_n 0, 1) := by decide +kernel
theorem d_Law_law_502 : decode b_Law_law 502 = .ok (.iload 4, 2) := by decide +kernel
theorem d_Law_law_504 : decode b_Law_law 504 = .ok (.iconst 2, 1) := by decide +kernel
theorem d_Law_law_505 : decode b_Law_law 505 = .ok (.iadd, 1) := by decide +kernel
theorem d_Law_law_506 : decode b_Law_law 506 = .ok (.iaload, 1) := by decide +kernel
theorem d_Law_law_507 : decode b_Law_law 507 = .ok (.aload_n 0, 1) := by decide +kernel
theorem d_Law_law_508 : decode b_Law_law 508 = .ok (.iload 4, 2) := by decide +kernel
theorem d_Law_law_510 : decode b_Law_law 510 = .ok (.iconst 3, 1) := by decide +kernel
theorem d_Law_law_511 : decode b_Law_law 511 = .ok (.iadd, 1) := by decide +kernel
theorem d_Law_law_512 : decode b_Law_law 512 = .ok (.iaload, 1) := by decide +kernel
theorem d_Law_law_513 : decode b_Law_law 513 = .ok (.invokevirtual 53, 3) := by decide +kernel
theorem d_Law_law_516 : decode b_Law_law 516 = .ok (.aload_n 2, 1) := by decide +kernel
theorem d_Law_law_517 : decode b_Law_law 517 = .ok (.aload_n 0, 1) := by decide +kernel
theorem d_Law_law_518 : decode b_Law_law 518 = .ok (.iload 4, 2) := by decide +kernel
theorem d_Law_law_520 : decode b_Law_law 520 = .ok (.iconst 1, 1) := by decide +kernel
theorem d_Law_law_521 : decode b_Law_law 521 = .ok (.iadd, 1) := by decide +kernel
theorem d_Law_law_522 : decode b_Law_law 522 = .ok (.iaload, 1) := by decide +kernel
theorem d_Law_law_523 : decode b_Law_law 523 = .ok (.aload_n 0, 1) := by decide +kernel
theorem d_Law_law_524 : decode b_Law_law 524 = .ok (.iload 4, 2) := by decide +kernel
theorem d_Law_law_526 : decode b_Law_law 526 = .ok (.iconst 2, 1) := by decide +kernel
theorem d_Law_law_527 : decode b_Law_law 527 = .ok (.iadd, 1) := by decide +kernel
theorem d_Law_law_528 : decode b_Law_law 528 = .ok (.iaload, 1) := by decide +kernel
theorem d_Law_law_529 : decode b_Law_law 529 = .ok (.aload_n 0, 1) := by decide +kernel
theorem d_Law_law_530 : decode b_Law_law 530 = .ok (.iload 4, 2) := by decide +kernel
theorem d_Law_law_532 : decode b_Law_law 532 = .ok (.iconst 3, 1) := by decide +kernel
theorem d_Law_law_533 : decode b_Law_law 533 = .ok (.iadd, 1) := by decide +kernel
theorem d_Law_law_534 : decode b_Law_law 534 = .ok (.iaload, 1) := by decide +kernel
theorem d_Law_law_535 : decode b_Law_law 535 = .ok (.invokevirtual 57, 3) := by decide +kernel
theorem d_Law_law_538 : decode b_Law_law 538 = .ok (.lcmp, 1) := by decide +kernel
theorem d_Law_law_539 : decode b_Law_law 539 = .ok (.ifCond .eq 1002, 3) := by decide +kernel
theorem d_Law_law_542 : decode b_Law_law 542 = .ok (.iconst 0, 1) := by decide +kernel
theorem d_Law_law_543 : decode b_Law_law 543 = .ok (.ireturn, 1) := by decide +kernel
theorem d_Law_law_544 : decode b_Law_law 544 = .ok (.aload_n 1, 1) := by decide +kernel
theorem d_Law_law_545 : decode b_Law_law 545 = .ok (.aload_n 0, 1) := by decide +kernel
theorem d_Law_law_546 : decode b_Law_law 546 = .ok (.iload 4, 2) := by decide +kernel
theorem d_Law_law_548 : decode b_Law_law 548 = .ok (.iconst 1, 1) := by decide +kernel
theorem d_Law_law_549 : decode b_Law_law 549 = .ok (.iadd, 1) := by decide +kernel
theorem d_Law_law_550 : decode b_Law_law 550 = .ok (.iaload, 1) := by decide +kernel
theorem d_Law_law_551 : decode b_Law_law 551 = .ok (.invokevirtual 58, 3) := by decide +kernel
theorem d_Law_law_554 : decode b_Law_law 554 = .ok (.pop, 1) := by decide +kernel
theorem d_Law_law_555 : decode b_Law_law 555 = .ok (.aload_n 2, 1) := by decide +kernel
theorem d_Law_law_556 : decode b_Law_law 556 = .ok (.aload_n 0, 1) := by decide +kernel
theorem d_Law_law_557 : decode b_Law_law 557 = .ok (.iload 4, 2) := by decide +kernel
theorem d_Law_law_559 : decode b_Law_law 559 = .ok (.iconst 1, 1) := by decide +kernel
theorem d_Law_law_560 : decode b_Law_law 560 = .ok (.iadd, 1) := by decide +kernel
theorem d_Law_law_561 : decode b_Law_law 561 = .ok (.iaload, 1) := by decide +kernel
theorem d_Law_law_562 : decode b_Law_law 562 = .ok (.invokevirtual 61, 3) := by decide +kernel
theorem d_Law_law_565 : decode b_Law_law 565 = .ok (.pop, 1) := by decide +kernel
theorem d_Law_law_566 : decode b_Law_law 566 = .ok (.goto 975, 3) := by decide +kernel
theorem d_Law_law_569 : decode b_Law_law 569 = .ok (.aload_n 1, 1) := by decide +kernel
theorem d_Law_law_570 : decode b_Law_law 570 = .ok (.aload_n 0, 1) := by decide +kernel
theorem d_Law_law_571 : decode b_Law_law 571 = .ok (.iload 4, 2) := by decide +kernel
theorem d_Law_law_573 : decode b_Law_law 573 = .ok (.iconst 1, 1) := by decide +kernel
theorem d_Law_law_574 : decode b_Law_law 574 = .ok (.iadd, 1) := by decide +kernel
theorem d_Law_law_575 : decode b_Law_law 575 = .ok (.iaload, 1) := by decide +kernel
theorem d_Law_law_576 : decode b_Law_law 576 = .ok (.aload_n 0, 1) := by decide +kernel
theorem d_Law_law_577 : decode b_Law_law 577 = .ok (.iload 4, 2) := by decide +kernel
theorem d_Law_law_579 : decode b_Law_law 579 = .ok (.iconst 2, 1) := by decide +kernel
theorem d_Law_law_580 : decode b_Law_law 580 = .ok (.iadd, 1) := by decide +kernel
theorem d_Law_law_581 : decode b_Law_law 581 = .ok (.iaload, 1) := by decide +kernel
theorem d_Law_law_582 : decode b_Law_law 582 = .ok (.invokevirtual 62, 3) := by decide +kernel
theorem d_Law_law_585 : decode b_Law_law 585 = .ok (.pop, 1) := by decide +kernel
theorem d_Law_law_586 : decode b_Law_law 586 = .ok (.aload_n 2, 1) := by decide +kernel
theorem d_Law_law_587 : decode b_Law_law 587 = .ok (.aload_n 0, 1) := by decide +kernel
theorem d_Law_law_588 : decode b_Law_law 588 = .ok (.iload 4, 2) := by decide +kernel
theorem d_Law_law_590 : decode b_Law_law 590 = .ok (.iconst 1, 1) := by decide +kernel
theorem d_Law_law_591 : decode b_Law_law 591 = .ok (.iadd, 1) := by decide +kernel
theorem d_Law_law_592 : decode b_Law_law 592 = .ok (.iaload, 1) := by decide +kernel
theorem d_Law_law_593 : decode b_Law_law 593 = .ok (.aload_n 0, 1) := by decide +kernel
theorem d_Law_law_594 : decode b_Law_law 594 = .ok (.iload 4, 2) := by decide +kernel
theorem d_Law_law_596 : decode b_Law_law 596 = .ok (.iconst 2, 1) := by decide +kernel
theorem d_Law_law_597 : decode b_Law_law 597 = .ok (.iadd, 1) := by decide +kernel
theorem d_Law_law_598 : decode b_Law_law 598 = .ok (.iaload, 1) := by decide +kernel
theorem d_Law_law_599 : decode b_Law_law 599 = .ok (.invokevirtual 65, 3) := by decide +kernel
theorem d_Law_law_602 : decode b_Law_law 602 = .ok (.pop, 1) := by decide +kernel
theorem d_Law_law_603 : decode b_Law_law 603 = .ok (.goto 938, 3) := by decide +kernel
theorem d_Law_law_606 : decode b_Law_law 606 = .ok (.aload_n 1, 1) := by decide +kernel
theorem d_Law_law_607 : decode b_Law_law 607 = .ok (.aload_n 0, 1) := by decide +kernel
theorem d_Law_law_608 : decode b_Law_law 608 = .ok (.iload 4, 2) := by decide +kernel
theorem d_Law_law_610 : decode b_Law_law 610 = .ok (.iconst 1, 1) := by decide +kernel
theorem d_Law_law_611 : decode b_Law_law 611 = .ok (.iadd, 1) := by decide +kernel
theorem d_Law_law_612 : decode b_Law_law 612 = .ok (.iaload, 1) := by decide +kernel
theorem d_Law_law_613 : decode b_Law_law 613 = .ok (.aload_n 0, 1) := by decide +kernel
theorem d_Law_law_614 : decode b_Law_law 614 = .ok (.iload 4, 2) := by decide +kernel
theorem d_Law_law_616 : decode b_Law_law 616 = .ok (.iconst 2, 1) := by decide +kernel
theorem d_Law_law_617 : decode b_Law_law 617 = .ok (.iadd, 1) := by decide +kernel
theorem d_Law_law_618 : decode b_Law_law 618 = .ok (.iaload, 1) := by decide +kernel
theorem d_Law_law_619 : decode b_Law_law 619 = .ok (.invokevirtual 66, 3) := by decide +kernel
theorem d_Law_law_622 : decode b_Law_law 622 = .ok (.pop, 1) := by decide +kernel
theorem d_Law_law_623 : decode b_Law_law 623 = .ok (.aload_n 2, 1) := by decide +kernel
theorem d_Law_law_624 : decode b_Law_law 624 = .ok (.aload_n 0, 1) := by decide +kernel
theorem d_Law_law_625 : decode b_Law_law 625 = .ok (.iload 4, 2) := by decide +kernel
theorem d_Law_law_627 : decode b_Law_law 627 = .ok (.iconst 1, 1) := by decide +kernel
theorem d_Law_law_628 : decode b_Law_law 628 = .ok (.iadd, 1) := by decide +kernel
theorem d_Law_law_629 : decode b_Law_law 629 = .ok (.iaload, 1) := by decide +kernel
theorem d_Law_law_630 : decode b_Law_law 630 = .ok (.aload_n 0, 1) := by decide +kernel
theorem d_Law_law_631 : decode b_Law_law 631 = .ok (.iload 4, 2) := by decide +kernel
theorem d_Law_law_633 : decode b_Law_law 633 = .ok (.iconst 2, 1) := by decide +kernel
theorem d_Law_law_634 : decode b_Law_law 634 = .ok (.iadd, 1) := by decide +kernel
theorem d_Law_law_635 : decode b_Law_law 635 = .ok (.iaload, 1) := by decide +kernel
theorem d_Law_law_636 : decode b_Law_law 636 = .ok (.invokevirtual 69, 3) := by decide +kernel
theorem d_Law_law_639 : decode b_Law_law 639 = .ok (.pop, 1) := by decide +kernel
theorem d_Law_law_640 : decode b_Law_law 640 = .ok (.goto 901, 3) := by decide +kernel
theorem d_Law_law_643 : decode b_Law_law 643 = .ok (.aload_n 1, 1) := by decide +kernel
theorem d_Law_law_644 : decode b_Law_law 644 = .ok (.aload_n 0, 1) := by decide +kernel
theorem d_Law_law_645 : decode b_Law_law 645 = .ok (.iload 4, 2) := by decide +kernel
theorem d_Law_law_647 : decode b_Law_law 647 = .ok (.iconst 1, 1) := by decide +kernel
theorem d_Law_law_648 : decode b_Law_law 648 = .ok (.iadd, 1) := by decide +kernel
theorem d_Law_law_649 : decode b_Law_law 649 = .ok (.iaload, 1) := by decide +kernel
theorem d_Law_law_650 : decode b_Law_law 650 = .ok (.invokevirtual 70, 3) := by decide +kernel
theorem d_Law_law_653 : decode b_Law_law 653 = .ok (.pop, 1) := by decide +kernel
theorem d_Law_law_654 : decode b_Law_law 654 = .ok (.aload_n 2, 1) := by decide +kernel
theorem d_Law_law_655 : decode b_Law_law 655 = .ok (.aload_n 0, 1) := by decide +kernel
theorem d_Law_law_656 : decode b_Law_law 656 = .ok (.iload 4, 2) := by decide +kernel
theorem d_Law_law_658 : decode b_Law_law 658 = .ok (.iconst 1, 1) := by decide +kernel
theorem d_Law_law_659 : decode b_Law_law 659 = .ok (.iadd, 1) := by decide +kernel
theorem d_Law_law_660 : decode b_Law_law 660 = .ok (.iaload, 1) := by decide +kernel
theorem d_Law_law_661 : decode b_Law_law 661 = .ok (.invokevirtual 73, 3) := by decide +kernel
theorem d_Law_law_664 : decode b_Law_law 664 = .ok (.pop, 1) := by decide +kernel
theorem d_Law_law_665 : decode b_Law_law 665 = .ok (.goto 876, 3) := by decide +kernel
theorem d_Law_law_668 : decode b_Law_law 668 = .ok (.aload_n 1, 1) := by decide +kernel
theorem d_Law_law_669 : decode b_Law_law 669 = .ok (.aload_n 0, 1) := by decide +kernel
theorem d_Law_law_670 : decode b_Law_law 670 = .ok (.iload 4, 2) := by decide +kernel
theorem d_Law_law_672 : decode b_Law_law 672 = .ok (.iconst 1, 1) := by decide +kernel
theorem d_Law_law_673 : decode b_Law_law 673 = .ok (.iadd, 1) := by decide +kernel
theorem d_Law_law_674 : decode b_Law_law 674 = .ok (.iaload, 1) := by decide +kernel
theorem d_Law_law_675 : decode b_Law_law 675 = .ok (.aload_n 0, 1) := by decide +kernel
theorem d_Law_law_676 : decode b_Law_law 676 = .ok (.iload 4, 2) := by decide +kernel
theorem d_Law_law_678 : decode b_Law_law 678 = .ok (.iconst 2, 1) := by decide +kernel
theorem d_Law_law_679 : decode b_Law_law 679 = .ok (.iadd, 1) := by decide +kernel
theorem d_Law_law_680 : decode b_Law_law 680 = .ok (.iaload, 1) := by decide +kernel
theorem d_Law_law_681 : decode b_Law_law 681 = .ok (.invokevirtual 74, 3) := by decide +kernel
theorem d_Law_law_684 : decode b_Law_law 684 = .ok (.pop, 1) := by decide +kernel
theorem d_Law_law_685 : decode b_Law_law 685 = .ok (.aload_n 2, 1) := by decide +kernel
theorem d_Law_law_686 : decode b_Law_law 686 = .ok (.aload_n 0, 1) := by decide +kernel
theorem d_Law_law_687 : decode b_Law_law 687 = .ok (.iload 4, 2) := by decide +kernel
theorem d_Law_law_689 : decode b_Law_law 689 = .ok (.iconst 1, 1) := by decide +kernel
theorem d_Law_law_690 : decode b_Law_law 690 = .ok (.iadd, 1) := by decide +kernel
theorem d_Law_law_691 : decode b_Law_law 691 = .ok (.iaload, 1) := by decide +kernel
theorem d_Law_law_692 : decode b_Law_law 692 = .ok (.aload_n 0, 1) := by decide +kernel
theorem d_Law_law_693 : decode b_Law_law 693 = .ok (.iload 4, 2) := by decide +kernel
theorem d_Law_law_695 : decode b_Law_law 695 = .ok (.iconst 2, 1) := by decide +kernel
theorem d_Law_law_696 : decode b_Law_law 696 = .ok (.iadd, 1) := by decide +kernel
theorem d_Law_law_697 : decode b_Law_law 697 = .ok (.iaload, 1) := by decide +kernel
theorem d_Law_law_698 : decode b_Law_law 698 = .ok (.invokevirtual 78, 3) := by decide +kernel
theorem d_Law_law_701 : decode b_Law_law 701 = .ok (.pop, 1) := by decide +kernel
theorem d_Law_law_702 : decode b_Law_law 702 = .ok (.goto 839, 3) := by decide +kernel
theorem d_Law_law_705 : decode b_Law_law 705 = .ok (.aload_n 1, 1) := by decide +kernel
theorem d_Law_law_706 : decode b_Law_law 706 = .ok (.aload_n 0, 1) := by decide +kernel
theorem d_Law_law_707 : decode b_Law_law 707 = .ok (.iload 4, 2) := by decide +kernel
theorem d_Law_law_709 : decode b_Law_law 709 = .ok (.iconst 1, 1) := by decide +kernel
theorem d_Law_law_710 : decode b_Law_law 710 = .ok (.iadd, 1) := by decide +kernel
theorem d_Law_law_711 : decode b_Law_law 711 = .ok (.iaload, 1) := by decide +kernel
theorem d_Law_law_712 : decode b_Law_law 712 = .ok (.aload_n 0, 1) := by decide +kernel
theorem d_Law_law_713 : decode b_Law_law 713 = .ok (.iload 4, 2) := by decide +kernel
theorem d_Law_law_715 : decode b_Law_law 715 = .ok (.iconst 2, 1) := by decide +kernel
theorem d_Law_law_716 : decode b_Law_law 716 = .ok (.iadd, 1) := by decide +kernel
theorem d_Law_law_717 : decode b_Law_law 717 = .ok (.iaload, 1) := by decide +kernel
theorem d_Law_law_718 : decode b_Law_law 718 = .ok (.ifCond .eq 7, 3) := by decide +kernel
theorem d_Law_law_721 : decode b_Law_law 721 = .ok (.iconst 1, 1) := by decide +kernel
theorem d_Law_law_722 : decode b_Law_law 722 = .ok (.goto 4, 3) := by decide +kernel
theorem d_Law_law_725 : decode b_Law_law 725 = .ok (.iconst 0, 1) := by decide +kernel
theorem d_Law_law_726 : decode b_Law_law 726 = .ok (.invokevirtual 79, 3) := by decide +kernel
theorem d_Law_law_729 : decode b_Law_law 729 = .ok (.pop, 1) := by decide +kernel
theorem d_Law_law_730 : decode b_Law_law 730 = .ok (.aload_n 2, 1) := by decide +kernel
theorem d_Law_law_731 : decode b_Law_law 731 = .ok (.aload_n 0, 1) := by decide +kernel
theorem d_Law_law_732 : decode b_Law_law 732 = .ok (.iload 4, 2) := by decide +kernel
theorem d_Law_law_734 : decode b_Law_law 734 = .ok (.iconst 1, 1) := by decide +kernel
theorem d_Law_law_735 : decode b_Law_law 735 = .ok (.iadd, 1) := by decide +kernel
theorem d_Law_law_736 : decode b_Law_law 736 = .ok (.iaload, 1) := by decide +kernel
theorem d_Law_law_737 : decode b_Law_law 737 = .ok (.aload_n 0, 1) := by decide +kernel
theorem d_Law_law_738 : decode b_Law_law 738 = .ok (.iload 4, 2) := by decide +kernel
theorem d_Law_law_740 : decode b_Law_law 740 = .ok (.iconst 2, 1) := by decide +kernel
theorem d_Law_law_741 : decode b_Law_law 741 = .ok (.iadd, 1) := by decide +kernel
theorem d_Law_law_742 : decode b_Law_law 742 = .ok (.iaload, 1) := by decide +kernel
theorem d_Law_law_743 : decode b_Law_law 743 = .ok (.ifCond .eq 7, 3) := by decide +kernel
theorem d_Law_law_746 : decode b_Law_law 746 = .ok (.iconst 1, 1) := by decide +kernel
theorem d_Law_law_747 : decode b_Law_law 747 = .ok (.goto 4, 3) := by decide +kernel
theorem d_Law_law_750 : decode b_Law_law 750 = .ok (.iconst 0, 1) := by decide +kernel
theorem d_Law_law_751 : decode b_Law_law 751 = .ok (.invokevirtual 83, 3) := by decide +kernel
theorem d_Law_law_754 : decode b_Law_law 754 = .ok (.pop, 1) := by decide +kernel
theorem d_Law_law_755 : decode b_Law_law 755 = .ok (.goto 786, 3) := by decide +kernel
theorem d_Law_law_758 : decode b_Law_law 758 = .ok (.aload_n 1, 1) := by decide +kernel
theorem d_Law_law_759 : decode b_Law_law 759 = .ok (.aload_n 0, 1) := by decide +kernel
theorem d_Law_law_760 : decode b_Law_law 760 = .ok (.iload 4, 2) := by decide +kernel
theorem d_Law_law_762 : decode b_Law_law 762 = .ok (.iconst 1, 1) := by decide +kernel
theorem d_Law_law_763 : decode b_Law_law 763 = .ok (.iadd, 1) := by decide +kernel
theorem d_Law_law_764 : decode b_Law_law 764 = .ok (.iaload, 1) := by decide +kernel
theorem d_Law_law_765 : decode b_Law_law 765 = .ok (.aload_n 0, 1) := by decide +kernel
theorem d_Law_law_766 : decode b_Law_law 766 = .ok (.iload 4, 2) := by decide +kernel
theorem d_Law_law_768 : decode b_Law_law 768 = .ok (.iconst 2, 1) := by decide +kernel
theorem d_Law_law_769 : decode b_Law_law 769 = .ok (.iadd, 1) := by decide +kernel
theorem d_Law_law_770 : decode b_Law_law 770 = .ok (.iaload, 1) := by decide +kernel
theorem d_Law_law_771 : decode b_Law_law 771 = .ok (.invokevirtual 84, 3) := by decide +kernel
theorem d_Law_law_774 : decode b_Law_law 774 = .ok (.pop, 1) := by decide +kernel
theorem d_Law_law_775 : decode b_Law_law 775 = .ok (.aload_n 2, 1) := by decide +kernel
theorem d_Law_law_776 : decode b_Law_law 776 = .ok (.aload_n 0, 1) := by decide +kernel
theorem d_Law_law_777 : decode b_Law_law 777 = .ok (.iload 4, 2) := by decide +kernel
theorem d_Law_law_779 : decode b_Law_law 779 = .ok (.iconst 1, 1) := by decide +kernel
theorem d_Law_law_780 : decode b_Law_law 780 = .ok (.iadd, 1) := by decide +kernel
theorem d_Law_law_781 : decode b_Law_law 781 = .ok (.iaload, 1) := by decide +kernel
theorem d_Law_law_782 : decode b_Law_law 782 = .ok (.aload_n 0, 1) := by decide +kernel
theorem d_Law_law_783 : decode b_Law_law 783 = .ok (.iload 4, 2) := by decide +kernel
theorem d_Law_law_785 : decode b_Law_law 785 = .ok (.iconst 2, 1) := by decide +kernel
theorem d_Law_law_786 : decode b_Law_law 786 = .ok (.iadd, 1) := by decide +kernel
theorem d_Law_law_787 : decode b_Law_law 787 = .ok (.iaload, 1) := by decide +kernel
theorem d_Law_law_788 : decode b_Law_law 788 = .ok (.invokevirtual 87, 3) := by decide +kernel
theorem d_Law_law_791 : decode b_Law_law 791 = .ok (.pop, 1) := by decide +kernel
theorem d_Law_law_792 : decode b_Law_law 792 = .ok (.goto 749, 3) := by decide +kernel
theorem d_Law_law_795 : decode b_Law_law 795 = .ok (.aload_n 1, 1) := by decide +kernel
theorem d_Law_law_796 : decode b_Law_law 796 = .ok (.aload_n 0, 1) := by decide +kernel
theorem d_Law_law_797 : decode b_Law_law 797 = .ok (.iload 4, 2) := by decide +kernel
theorem d_Law_law_799 : decode b_Law_law 799 = .ok (.iconst 1, 1) := by decide +kernel
theorem d_Law_law_800 : decode b_Law_law 800 = .ok (.iadd, 1) := by decide +kernel
theorem d_Law_law_801 : decode b_Law_law 801 = .ok (.iaload, 1) := by decide +kernel
theorem d_Law_law_802 : decode b_Law_law 802 = .ok (.aload_n 0, 1) := by decide +kernel
theorem d_Law_law_803 : decode b_Law_law 803 = .ok (.iload 4, 2) := by decide +kernel
theorem d_Law_law_805 : decode b_Law_law 805 = .ok (.iconst 2, 1) := by decide +kernel
theorem d_Law_law_806 : decode b_Law_law 806 = .ok (.iadd, 1) := by decide +kernel
theorem d_Law_law_807 : decode b_Law_law 807 = .ok (.iaload, 1) := by decide +kernel
theorem d_Law_law_808 : decode b_Law_law 808 = .ok (.invokevirtual 88, 3) := by decide +kernel
theorem d_Law_law_811 : decode b_Law_law 811 = .ok (.pop, 1) := by decide +kernel
theorem d_Law_law_812 : decode b_Law_law 812 = .ok (.aload_n 2, 1) := by decide +kernel
theorem d_Law_law_813 : decode b_Law_law 813 = .ok (.aload_n 0, 1) := by decide +kernel
theorem d_Law_law_814 : decode b_Law_law 814 = .ok (.iload 4, 2) := by decide +kernel
theorem d_Law_law_816 : decode b_Law_law 816 = .ok (.iconst 1, 1) := by decide +kernel
theorem d_Law_law_817 : decode b_Law_law 817 = .ok (.iadd, 1) := by decide +kernel
theorem d_Law_law_818 : decode b_Law_law 818 = .ok (.iaload, 1) := by decide +kernel
theorem d_Law_law_819 : decode b_Law_law 819 = .ok (.aload_n 0, 1) := by decide +kernel
theorem d_Law_law_820 : decode b_Law_law 820 = .ok (.iload 4, 2) := by decide +kernel
theorem d_Law_law_822 : decode b_Law_law 822 = .ok (.iconst 2, 1) := by decide +kernel
theorem d_Law_law_823 : decode b_Law_law 823 = .ok (.iadd, 1) := by decide +kernel
theorem d_Law_law_824 : decode b_Law_law 824 = .ok (.iaload, 1) := by decide +kernel
theorem d_Law_law_825 : decode b_Law_law 825 = .ok (.invokevirtual 91, 3) := by decide +kernel
theorem d_Law_law_828 : decode b_Law_law 828 = .ok (.pop, 1) := by decide +kernel
theorem d_Law_law_829 : decode b_Law_law 829 = .ok (.goto 712, 3) := by decide +kernel
theorem d_Law_law_832 : decode b_Law_law 832 = .ok (.aload_n 1, 1) := by decide +kernel
theorem d_Law_law_833 : decode b_Law_law 833 = .ok (.invokevirtual 92, 3) := by decide +kernel
theorem d_Law_law_836 : decode b_Law_law 836 = .ok (.pop, 1) := by decide +kernel
theorem d_Law_law_837 : decode b_Law_law 837 = .ok (.aload_n 2, 1) := by decide +kernel
theorem d_Law_law_838 : decode b_Law_law 838 = .ok (.invokevirtual 96, 3) := by decide +kernel
theorem d_Law_law_841 : decode b_Law_law 841 = .ok (.pop, 1) := by decide +kernel
theorem d_Law_law_842 : decode b_Law_law 842 = .ok (.goto 699, 3) := by decide +kernel
theorem d_Law_law_845 : decode b_Law_law 845 = .ok (.aload_n 1, 1) := by decide +kernel
theorem d_Law_law_846 : decode b_Law_law 846 = .ok (.aload_n 0, 1) := by decide +kernel
theorem d_Law_law_847 : decode b_Law_law 847 = .ok (.iload 4, 2) := by decide +kernel
theorem d_Law_law_849 : decode b_Law_law 849 = .ok (.iconst 1, 1) := by decide +kernel
theorem d_Law_law_850 : decode b_Law_law 850 = .ok (.iadd, 1) := by decide +kernel
theorem d_Law_law_851 : decode b_Law_law 851 = .ok (.iaload, 1) := by decide +kernel
theorem d_Law_law_852 : decode b_Law_law 852 = .ok (.aload_n 0, 1) := by decide +kernel
theorem d_Law_law_853 : decode b_Law_law 853 = .ok (.iload 4, 2) := by decide +kernel
theorem d_Law_law_855 : decode b_Law_law 855 = .ok (.iconst 2, 1) := by decide +kernel
theorem d_Law_law_856 : decode b_Law_law 856 = .ok (.iadd, 1) := by decide +kernel
theorem d_Law_law_857 : decode b_Law_law 857 = .ok (.iaload, 1) := by decide +kernel
theorem d_Law_law_858 : decode b_Law_law 858 = .ok (.invokevirtual 97, 3) := by decide +kernel
theorem d_Law_law_861 : decode b_Law_law 861 = .ok (.pop2, 1) := by decide +kernel
theorem d_Law_law_862 : decode b_Law_law 862 = .ok (.aload_n 2, 1) := by decide +kernel
theorem d_Law_law_863 : decode b_Law_law 863 = .ok (.aload_n 0, 1) := by decide +kernel
theorem d_Law_law_864 : decode b_Law_law 864 = .ok (.iload 4, 2) := by decide +kernel
theorem d_Law_law_866 : decode b_Law_law 866 = .ok (.iconst 1, 1) := by decide +kernel
theorem d_Law_law_867 : decode b_Law_law 867 = .ok (.iadd, 1) := by decide +kernel
theorem d_Law_law_868 : decode b_Law_law 868 = .ok (.iaload, 1) := by decide +kernel
theorem d_Law_law_869 : decode b_Law_law 869 = .ok (.aload_n 0, 1) := by decide +kernel
theorem d_Law_law_870 : decode b_Law_law 870 = .ok (.iload 4, 2) := by decide +kernel
theorem d_Law_law_872 : decode b_Law_law 872 = .ok (.iconst 2, 1) := by decide +kernel
theorem d_Law_law_873 : decode b_Law_law 873 = .ok (.iadd, 1) := by decide +kernel
theorem d_Law_law_874 : decode b_Law_law 874 = .ok (.iaload, 1) := by decide +kernel
theorem d_Law_law_875 : decode b_Law_law 875 = .ok (.invokevirtual 101, 3) := by decide +kernel
theorem d_Law_law_878 : decode b_Law_law 878 = .ok (.pop2, 1) := by decide +kernel
theorem d_Law_law_879 : decode b_Law_law 879 = .ok (.goto 662, 3) := by decide +kernel
theorem d_Law_law_882 : decode b_Law_law 882 = .ok (.aload_n 1, 1) := by decide +kernel
theorem d_Law_law_883 : decode b_Law_law 883 = .ok (.aload_n 0, 1) := by decide +kernel
theorem d_Law_law_884 : decode b_Law_law 884 = .ok (.iload 4, 2) := by decide +kernel
theorem d_Law_law_886 : decode b_Law_law 886 = .ok (.iconst 1, 1) := by decide +kernel
theorem d_Law_law_887 : decode b_Law_law 887 = .ok (.iadd, 1) := by decide +kernel
theorem d_Law_law_888 : decode b_Law_law 888 = .ok (.iaload, 1) := by decide +kernel
theorem d_Law_law_889 : decode b_Law_law 889 = .ok (.aload_n 0, 1) := by decide +kernel
theorem d_Law_law_890 : decode b_Law_law 890 = .ok (.iload 4, 2) := by decide +kernel
theorem d_Law_law_892 : decode b_Law_law 892 = .ok (.iconst 2, 1) := by decide +kernel
theorem d_Law_law_893 : decode b_Law_law 893 = .ok (.iadd, 1) := by decide +kernel
theorem d_Law_law_894 : decode b_Law_law 894 = .ok (.iaload, 1) := by decide +kernel
theorem d_Law_law_895 : decode b_Law_law 895 = .ok (.invokevirtual 102, 3) := by decide +kernel
theorem d_Law_law_898 : decode b_Law_law 898 = .ok (.pop, 1) := by decide +kernel
theorem d_Law_law_899 : decode b_Law_law 899 = .ok (.aload_n 2, 1) := by decide +kernel
theorem d_Law_law_900 : decode b_Law_law 900 = .ok (.aload_n 0, 1) := by decide +kernel
theorem d_Law_law_901 : decode b_Law_law 901 = .ok (.iload 4, 2) := by decide +kernel
theorem d_Law_law_903 : decode b_Law_law 903 = .ok (.iconst 1, 1) := by decide +kernel
theorem d_Law_law_904 : decode b_Law_law 904 = .ok (.iadd, 1) := by decide +kernel
theorem d_Law_law_905 : decode b_Law_law 905 = .ok (.iaload, 1) := by decide +kernel
theorem d_Law_law_906 : decode b_Law_law 906 = .ok (.aload_n 0, 1) := by decide +kernel
theorem d_Law_law_907 : decode b_Law_law 907 = .ok (.iload 4, 2) := by decide +kernel
theorem d_Law_law_909 : decode b_Law_law 909 = .ok (.iconst 2, 1) := by decide +kernel
theorem d_Law_law_910 : decode b_Law_law 910 = .ok (.iadd, 1) := by decide +kernel
theorem d_Law_law_911 : decode b_Law_law 911 = .ok (.iaload, 1) := by decide +kernel
theorem d_Law_law_912 : decode b_Law_law 912 = .ok (.invokevirtual 105, 3) := by decide +kernel
theorem d_Law_law_915 : decode b_Law_law 915 = .ok (.pop, 1) := by decide +kernel
theorem d_Law_law_916 : decode b_Law_law 916 = .ok (.goto 625, 3) := by decide +kernel
theorem d_Law_law_919 : decode b_Law_law 919 = .ok (.aload_n 1, 1) := by decide +kernel
theorem d_Law_law_920 : decode b_Law_law 920 = .ok (.aload_n 0, 1) := by decide +kernel
theorem d_Law_law_921 : decode b_Law_law 921 = .ok (.iload 4, 2) := by decide +kernel
theorem d_Law_law_923 : decode b_Law_law 923 = .ok (.iconst 1, 1) := by decide +kernel
theorem d_Law_law_924 : decode b_Law_law 924 = .ok (.iadd, 1) := by decide +kernel
theorem d_Law_law_925 : decode b_Law_law 925 = .ok (.iaload, 1) := by decide +kernel
theorem d_Law_law_926 : decode b_Law_law 926 = .ok (.aload_n 0, 1) := by decide +kernel
theorem d_Law_law_927 : decode b_Law_law 927 = .ok (.iload 4, 2) := by decide +kernel
theorem d_Law_law_929 : decode b_Law_law 929 = .ok (.iconst 2, 1) := by decide +kernel
theorem d_Law_law_930 : decode b_Law_law 930 = .ok (.iadd, 1) := by decide +kernel
theorem d_Law_law_931 : decode b_Law_law 931 = .ok (.iaload, 1) := by decide +kernel
theorem d_Law_law_932 : decode b_Law_law 932 = .ok (.aload_n 0, 1) := by decide +kernel
theorem d_Law_law_933 : decode b_Law_law 933 = .ok (.iload 4, 2) := by decide +kernel
theorem d_Law_law_935 : decode b_Law_law 935 = .ok (.iconst 3, 1) := by decide +kernel
theorem d_Law_law_936 : decode b_Law_law 936 = .ok (.iadd, 1) := by decide +kernel
theorem d_Law_law_937 : decode b_Law_law 937 = .ok (.iaload, 1) := by decide +kernel
theorem d_Law_law_938 : decode b_Law_law 938 = .ok (.invokevirtual 106, 3) := by decide +kernel
theorem d_Law_law_941 : decode b_Law_law 941 = .ok (.pop, 1) := by decide +kernel
theorem d_Law_law_942 : decode b_Law_law 942 = .ok (.aload_n 2, 1) := by decide +kernel
theorem d_Law_law_943 : decode b_Law_law 943 = .ok (.aload_n 0, 1) := by decide +kernel
theorem d_Law_law_944 : decode b_Law_law 944 = .ok (.iload 4, 2) := by decide +kernel
theorem d_Law_law_946 : decode b_Law_law 946 = .ok (.iconst 1, 1) := by decide +kernel
theorem d_Law_law_947 : decode b_Law_law 947 = .ok (.iadd, 1) := by decide +kernel
theorem d_Law_law_948 : decode b_Law_law 948 = .ok (.iaload, 1) := by decide +kernel
theorem d_Law_law_949 : decode b_Law_law 949 = .ok (.aload_n 0, 1) := by decide +kernel
theorem d_Law_law_950 : decode b_Law_law 950 = .ok (.iload 4, 2) := by decide +kernel
theorem d_Law_law_952 : decode b_Law_law 952 = .ok (.iconst 2, 1) := by decide +kernel
theorem d_Law_law_953 : decode b_Law_law 953 = .ok (.iadd, 1) := by decide +kernel
theorem d_Law_law_954 : decode b_Law_law 954 = .ok (.iaload, 1) := by decide +kernel
theorem d_Law_law_955 : decode b_Law_law 955 = .ok (.aload_n 0, 1) := by decide +kernel
theorem d_Law_law_956 : decode b_Law_law 956 = .ok (.iload 4, 2) := by decide +kernel
theorem d_Law_law_958 : decode b_Law_law 958 = .ok (.iconst 3, 1) := by decide +kernel
theorem d_Law_law_959 : decode b_Law_law 959 = .ok (.iadd, 1) := by decide +kernel
theorem d_Law_law_960 : decode b_Law_law 960 = .ok (.iaload, 1) := by decide +kernel
theorem d_Law_law_961 : decode b_Law_law 961 = .ok (.invokevirtual 110, 3) := by decide +kernel
theorem d_Law_law_964 : decode b_Law_law 964 = .ok (.pop, 1) := by decide +kernel
theorem d_Law_law_965 : decode b_Law_law 965 = .ok (.goto 576, 3) := by decide +kernel
theorem d_Law_law_968 : decode b_Law_law 968 = .ok (.aload_n 1, 1) := by decide +kernel
theorem d_Law_law_969 : decode b_Law_law 969 = .ok (.aload_n 0, 1) := by decide +kernel
theorem d_Law_law_970 : decode b_Law_law 970 = .ok (.iload 4, 2) := by decide +kernel
theorem d_Law_law_972 : decode b_Law_law 972 = .ok (.iconst 1, 1) := by decide +kernel
theorem d_Law_law_973 : decode b_Law_law 973 = .ok (.iadd, 1) := by decide +kernel
theorem d_Law_law_974 : decode b_Law_law 974 = .ok (.iaload, 1) := by decide +kernel
theorem d_Law_law_975 : decode b_Law_law 975 = .ok (.aload_n 0, 1) := by decide +kernel
theorem d_Law_law_976 : decode b_Law_law 976 = .ok (.iload 4, 2) := by decide +kernel
theorem d_Law_law_978 : decode b_Law_law 978 = .ok (.iconst 2, 1) := by decide +kernel
theorem d_Law_law_979 : decode b_Law_law 979 = .ok (.iadd, 1) := by decide +kernel
theorem d_Law_law_980 : decode b_Law_law 980 = .ok (.iaload, 1) := by decide +kernel
theorem d_Law_law_981 : decode b_Law_law 981 = .ok (.aload_n 0, 1) := by decide +kernel
theorem d_Law_law_982 : decode b_Law_law 982 = .ok (.iload 4, 2) := by decide +kernel
theorem d_Law_law_984 : decode b_Law_law 984 = .ok (.iconst 3, 1) := by decide +kernel
theorem d_Law_law_985 : decode b_Law_law 985 = .ok (.iadd, 1) := by decide +kernel
theorem d_Law_law_986 : decode b_Law_law 986 = .ok (.iaload, 1) := by decide +kernel
theorem d_Law_law_987 : decode b_Law_law 987 = .ok (.invokevirtual 111, 3) := by decide +kernel
theorem d_Law_law_990 : decode b_Law_law 990 = .ok (.pop, 1) := by decide +kernel
theorem d_Law_law_991 : decode b_Law_law 991 = .ok (.aload_n 2, 1) := by decide +kernel
theorem d_Law_law_992 : decode b_Law_law 992 = .ok (.aload_n 0, 1) := by decide +kernel
theorem d_Law_law_993 : decode b_Law_law 993 = .ok (.iload 4, 2) := by decide +kernel
theorem d_Law_law_995 : decode b_Law_law 995 = .ok (.iconst 1, 1) := by decide +kernel
theorem d_Law_law_996 : decode b_Law_law 996 = .ok (.iadd, 1) := by decide +kernel
theorem d_Law_law_997 : decode b_Law_law 997 = .ok (.iaload, 1) := by decide +kernel
theorem d_Law_law_998 : decode b_Law_law 998 = .ok (.aload_n 0, 1) := by decide +kernel
theorem d_Law_law_999 : decode b_Law_law 999 = .ok (.iload 4, 2) := by decide +kernel
theorem d_Law_law_1001 : decode b_Law_law 1001 = .ok (.iconst 2, 1) := by decide +kernel
theorem d_Law_law_1002 : decode b_Law_law 1002 = .ok (.iadd, 1) := by decide +kernel
theorem d_Law_law_1003 : decode b_Law_law 1003 = .ok (.iaload, 1) := by decide +kernel
theorem d_Law_law_1004 : decode b_Law_law 1004 = .ok (.aload_n 0, 1) := by decide +kernel
theorem d_Law_law_1005 : decode b_Law_law 1005 = .ok (.iload 4, 2) := by decide +kernel
theorem d_Law_law_1007 : decode b_Law_law 1007 = .ok (.iconst 3, 1) := by decide +kernel
theorem d_Law_law_1008 : decode b_Law_law 1008 = .ok (.iadd, 1) := by decide +kernel
theorem d_Law_law_1009 : decode b_Law_law 1009 = .ok (.iaload, 1) := by decide +kernel
theorem d_Law_law_1010 : decode b_Law_law 1010 = .ok (.invokevirtual 114, 3) := by decide +kernel
theorem d_Law_law_1013 : decode b_Law_law 1013 = .ok (.pop, 1) := by decide +kernel
theorem d_Law_law_1014 : decode b_Law_law 1014 = .ok (.goto 527, 3) := by decide +kernel
theorem d_Law_law_1017 : decode b_Law_law 1017 = .ok (.aload_n 1, 1) := by decide +kernel
theorem d_Law_law_1018 : decode b_Law_law 1018 = .ok (.aload_n 0, 1) := by decide +kernel
theorem d_Law_law_1019 : decode b_Law_law 1019 = .ok (.iload 4, 2) := by decide +kernel
theorem d_Law_law_1021 : decode b_Law_law 1021 = .ok (.iconst 1, 1) := by decide +kernel
theorem d_Law_law_1022 : decode b_Law_law 1022 = .ok (.iadd, 1) := by decide +kernel
theorem d_Law_law_1023 : decode b_Law_law 1023 = .ok (.iaload, 1) := by decide +kernel
theorem d_Law_law_1024 : decode b_Law_law 1024 = .ok (.aload_n 0, 1) := by decide +kernel
theorem d_Law_law_1025 : decode b_Law_law 1025 = .ok (.iload 4, 2) := by decide +kernel
theorem d_Law_law_1027 : decode b_Law_law 1027 = .ok (.iconst 2, 1) := by decide +kernel
theorem d_Law_law_1028 : decode b_Law_law 1028 = .ok (.iadd, 1) := by decide +kernel
theorem d_Law_law_1029 : decode b_Law_law 1029 = .ok (.iaload, 1) := by decide +kernel
theorem d_Law_law_1030 : decode b_Law_law 1030 = .ok (.aload_n 0, 1) := by decide +kernel
theorem d_Law_law_1031 : decode b_Law_law 1031 = .ok (.iload 4, 2) := by decide +kernel
theorem d_Law_law_1033 : decode b_Law_law 1033 = .ok (.iconst 3, 1) := by decide +kernel
theorem d_Law_law_1034 : decode b_Law_law 1034 = .ok (.iadd, 1) := by decide +kernel
theorem d_Law_law_1035 : decode b_Law_law 1035 = .ok (.iaload, 1) := by decide +kernel
theorem d_Law_law_1036 : decode b_Law_law 1036 = .ok (.invokevirtual 115, 3) := by decide +kernel
theorem d_Law_law_1039 : decode b_Law_law 1039 = .ok (.pop, 1) := by decide +kernel
theorem d_Law_law_1040 : decode b_Law_law 1040 = .ok (.aload_n 2, 1) := by decide +kernel
theorem d_Law_law_1041 : decode b_Law_law 1041 = .ok (.aload_n 0, 1) := by decide +kernel
theorem d_Law_law_1042 : decode b_Law_law 1042 = .ok (.iload 4, 2) := by decide +kernel
theorem d_Law_law_1044 : decode b_Law_law 1044 = .ok (.iconst 1, 1) := by decide +kernel
theorem d_Law_law_1045 : decode b_Law_law 1045 = .ok (.iadd, 1) := by decide +kernel
theorem d_Law_law_1046 : decode b_Law_law 1046 = .ok (.iaload, 1) := by decide +kernel
theorem d_Law_law_1047 : decode b_Law_law 1047 = .ok (.aload_n 0, 1) := by decide +kernel
theorem d_Law_law_1048 : decode b_Law_law 1048 = .ok (.iload 4, 2) := by decide +kernel
theorem d_Law_law_1050 : decode b_Law_law 1050 = .ok (.iconst 2, 1) := by decide +kernel
theorem d_Law_law_1051 : decode b_Law_law 1051 = .ok (.iadd, 1) := by decide +kernel
theorem d_Law_law_1052 : decode b_Law_law 1052 = .ok (.iaload, 1) := by decide +kernel
theorem d_Law_law_1053 : decode b_Law_law 1053 = .ok (.aload_n 0, 1) := by decide +kernel
theorem d_Law_law_1054 : decode b_Law_law 1054 = .ok (.iload 4, 2) := by decide +kernel
theorem d_Law_law_1056 : decode b_Law_law 1056 = .ok (.iconst 3, 1) := by decide +kernel
theorem d_Law_law_1057 : decode b_Law_law 1057 = .ok (.iadd, 1) := by decide +kernel
theorem d_Law_law_1058 : decode b_Law_law 1058 = .ok (.iaload, 1) := by decide +kernel
theorem d_Law_law_1059 : decode b_Law_law 1059 = .ok (.invokevirtual 118, 3) := by decide +kernel
theorem d_Law_law_1062 : decode b_Law_law 1062 = .ok (.pop, 1) := by decide +kernel
theorem d_Law_law_1063 : decode b_Law_law 1063 = .ok (.goto 478, 3) := by decide +kernel
theorem d_Law_law_1066 : decode b_Law_law 1066 = .ok (.aload_n 1, 1) := by decide +kernel
theorem d_Law_law_1067 : decode b_Law_law 1067 = .ok (.aload_n 0, 1) := by decide +kernel
theorem d_Law_law_1068 : decode b_Law_law 1068 = .ok (.iload 4, 2) := by decide +kernel
theorem d_Law_law_1070 : decode b_Law_law 1070 = .ok (.iconst 1, 1) := by decide +kernel
theorem d_Law_law_1071 : decode b_Law_law 1071 = .ok (.iadd, 1) := by decide +kernel
theorem d_Law_law_1072 : decode b_Law_law 1072 = .ok (.iaload, 1) := by decide +kernel
theorem d_Law_law_1073 : decode b_Law_law 1073 = .ok (.aload_n 0, 1) := by decide +kernel
theorem d_Law_law_1074 : decode b_Law_law 1074 = .ok (.iload 4, 2) := by decide +kernel
theorem d_Law_law_1076 : decode b_Law_law 1076 = .ok (.iconst 2, 1) := by decide +kernel
theorem d_Law_law_1077 : decode b_Law_law 1077 = .ok (.iadd, 1) := by decide +kernel
theorem d_Law_law_1078 : decode b_Law_law 1078 = .ok (.iaload, 1) := by decide +kernel
theorem d_Law_law_1079 : decode b_Law_law 1079 = .ok (.invokevirtual 119, 3) := by decide +kernel
theorem d_Law_law_1082 : decode b_Law_law 1082 = .ok (.pop, 1) := by decide +kernel
theorem d_Law_law_1083 : decode b_Law_law 1083 = .ok (.aload_n 2, 1) := by decide +kernel
theorem d_Law_law_1084 : decode b_Law_law 1084 = .ok (.aload_n 0, 1) := by decide +kernel
theorem d_Law_law_1085 : decode b_Law_law 1085 = .ok (.iload 4, 2) := by decide +kernel
theorem d_Law_law_1087 : decode b_Law_law 1087 = .ok (.iconst 1, 1) := by decide +kernel
theorem d_Law_law_1088 : decode b_Law_law 1088 = .ok (.iadd, 1) := by decide +kernel
theorem d_Law_law_1089 : decode b_Law_law 1089 = .ok (.iaload, 1) := by decide +kernel
theorem d_Law_law_1090 : decode b_Law_law 1090 = .ok (.aload_n 0, 1) := by decide +kernel
theorem d_Law_law_1091 : decode b_Law_law 1091 = .ok (.iload 4, 2) := by decide +kernel
theorem d_Law_law_1093 : decode b_Law_law 1093 = .ok (.iconst 2, 1) := by decide +kernel
theorem d_Law_law_1094 : decode b_Law_law 1094 = .ok (.iadd, 1) := by decide +kernel
theorem d_Law_law_1095 : decode b_Law_law 1095 = .ok (.iaload, 1) := by decide +kernel
theorem d_Law_law_1096 : decode b_Law_law 1096 = .ok (.invokevirtual 122, 3) := by decide +kernel
theorem d_Law_law_1099 : decode b_Law_law 1099 = .ok (.pop, 1) := by decide +kernel
theorem d_Law_law_1100 : decode b_Law_law 1100 = .ok (.goto 441, 3) := by decide +kernel
theorem d_Law_law_1103 : decode b_Law_law 1103 = .ok (.aload_n 1, 1) := by decide +kernel
theorem d_Law_law_1104 : decode b_Law_law 1104 = .ok (.invokevirtual 123, 3) := by decide +kernel
theorem d_Law_law_1107 : decode b_Law_law 1107 = .ok (.pop2, 1) := by decide +kernel
theorem d_Law_law_1108 : decode b_Law_law 1108 = .ok (.aload_n 2, 1) := by decide +kernel
theorem d_Law_law_1109 : decode b_Law_law 1109 = .ok (.invokevirtual 127, 3) := by decide +kernel
theorem d_Law_law_1112 : decode b_Law_law 1112 = .ok (.pop2, 1) := by decide +kernel
theorem d_Law_law_1113 : decode b_Law_law 1113 = .ok (.goto 428, 3) := by decide +kernel
theorem d_Law_law_1116 : decode b_Law_law 1116 = .ok (.aload_n 1, 1) := by decide +kernel
theorem d_Law_law_1117 : decode b_Law_law 1117 = .ok (.aload_n 0, 1) := by decide +kernel
theorem d_Law_law_1118 : decode b_Law_law 1118 = .ok (.iload 4, 2) := by decide +kernel
theorem d_Law_law_1120 : decode b_Law_law 1120 = .ok (.iconst 1, 1) := by decide +kernel
theorem d_Law_law_1121 : decode b_Law_law 1121 = .ok (.iadd, 1) := by decide +kernel
theorem d_Law_law_1122 : decode b_Law_law 1122 = .ok (.iaload, 1) := by decide +kernel
theorem d_Law_law_1123 : decode b_Law_law 1123 = .ok (.invokevirtual 128, 3) := by decide +kernel
theorem d_Law_law_1126 : decode b_Law_law 1126 = .ok (.pop, 1) := by decide +kernel
theorem d_Law_law_1127 : decode b_Law_law 1127 = .ok (.aload_n 2, 1) := by decide +kernel
theorem d_Law_law_1128 : decode b_Law_law 1128 = .ok (.aload_n 0, 1) := by decide +kernel
theorem d_Law_law_1129 : decode b_Law_law 1129 = .ok (.iload 4, 2) := by decide +kernel
theorem d_Law_law_1131 : decode b_Law_law 1131 = .ok (.iconst 1, 1) := by decide +kernel
theorem d_Law_law_1132 : decode b_Law_law 1132 = .ok (.iadd, 1) := by decide +kernel
theorem d_Law_law_1133 : decode b_Law_law 1133 = .ok (.iaload, 1) := by decide +kernel
theorem d_Law_law_1134 : decode b_Law_law 1134 = .ok (.invokevirtual 131, 3) := by decide +kernel
theorem d_Law_law_1137 : decode b_Law_law 1137 = .ok (.pop, 1) := by decide +kernel
theorem d_Law_law_1138 : decode b_Law_law 1138 = .ok (.goto 403, 3) := by decide +kernel
theorem d_Law_law_1141 : decode b_Law_law 1141 = .ok (.aload_n 1, 1) := by decide +kernel
theorem d_Law_law_1142 : decode b_Law_law 1142 = .ok (.invokevirtual 132, 3) := by decide +kernel
theorem d_Law_law_1145 : decode b_Law_law 1145 = .ok (.pop, 1) := by decide +kernel
theorem d_Law_law_1146 : decode b_Law_law 1146 = .ok (.aload_n 2, 1) := by decide +kernel
theorem d_Law_law_1147 : decode b_Law_law 1147 = .ok (.invokevirtual 135, 3) := by decide +kernel
theorem d_Law_law_1150 : decode b_Law_law 1150 = .ok (.pop, 1) := by decide +kernel
theorem d_Law_law_1151 : decode b_Law_law 1151 = .ok (.goto 390, 3) := by decide +kernel
theorem d_Law_law_1154 : decode b_Law_law 1154 = .ok (.aload_n 1, 1) := by decide +kernel
theorem d_Law_law_1155 : decode b_Law_law 1155 = .ok (.aload_n 0, 1) := by decide +kernel
theorem d_Law_law_1156 : decode b_Law_law 1156 = .ok (.iload 4, 2) := by decide +kernel
theorem d_Law_law_1158 : decode b_Law_law 1158 = .ok (.iconst 1, 1) := by decide +kernel
theorem d_Law_law_1159 : decode b_Law_law 1159 = .ok (.iadd, 1) := by decide +kernel
theorem d_Law_law_1160 : decode b_Law_law 1160 = .ok (.iaload, 1) := by decide +kernel
theorem d_Law_law_1161 : decode b_Law_law 1161 = .ok (.invokevirtual 136, 3) := by decide +kernel
theorem d_Law_law_1164 : decode b_Law_law 1164 = .ok (.pop, 1) := by decide +kernel
theorem d_Law_law_1165 : decode b_Law_law 1165 = .ok (.aload_n 2, 1) := by decide +kernel
theorem d_Law_law_1166 : decode b_Law_law 1166 = .ok (.aload_n 0, 1) := by decide +kernel
theorem d_Law_law_1167 : decode b_Law_law 1167 = .ok (.iload 4, 2) := by decide +kernel
theorem d_Law_law_1169 : decode b_Law_law 1169 = .ok (.iconst 1, 1) := by decide +kernel
theorem d_Law_law_1170 : decode b_Law_law 1170 = .ok (.iadd, 1) := by decide +kernel
theorem d_Law_law_1171 : decode b_Law_law 1171 = .ok (.iaload, 1) := by decide +kernel
theorem d_Law_law_1172 : decode b_Law_law 1172 = .ok (.invokevirtual 139, 3) := by decide +kernel
theorem d_Law_law_1175 : decode b_Law_law 1175 = .ok (.pop, 1) := by decide +kernel
theorem d_Law_law_1176 : decode b_Law_law 1176 = .ok (.goto 365, 3) := by decide +kernel
theorem d_Law_law_1179 : decode b_Law_law 1179 = .ok (.aload_n 1, 1) := by decide +kernel
theorem d_Law_law_1180 : decode b_Law_law 1180 = .ok (.aload_n 0, 1) := by decide +kernel
theorem d_Law_law_1181 : decode b_Law_law 1181 = .ok (.iload 4, 2) := by decide +kernel
theorem d_Law_law_1183 : decode b_Law_law 1183 = .ok (.iconst 1, 1) := by decide +kernel
theorem d_Law_law_1184 : decode b_Law_law 1184 = .ok (.iadd, 1) := by decide +kernel
theorem d_Law_law_1185 : decode b_Law_law 1185 = .ok (.iaload, 1) := by decide +kernel
theorem d_Law_law_1186 : decode b_Law_law 1186 = .ok (.invokevirtual 140, 3) := by decide +kernel
theorem d_Law_law_1189 : decode b_Law_law 1189 = .ok (.pop, 1) := by decide +kernel
theorem d_Law_law_1190 : decode b_Law_law 1190 = .ok (.aload_n 2, 1) := by decide +kernel
theorem d_Law_law_1191 : decode b_Law_law 1191 = .ok (.aload_n 0, 1) := by decide +kernel
theorem d_Law_law_1192 : decode b_Law_law 1192 = .ok (.iload 4, 2) := by decide +kernel
theorem d_Law_law_1194 : decode b_Law_law 1194 = .ok (.iconst 1, 1) := by decide +kernel
theorem d_Law_law_1195 : decode b_Law_law 1195 = .ok (.iadd, 1) := by decide +kernel
theorem d_Law_law_1196 : decode b_Law_law 1196 = .ok (.iaload, 1) := by decide +kernel
theorem d_Law_law_1197 : decode b_Law_law 1197 = .ok (.invokevirtual 143, 3) := by decide +kernel
theorem d_Law_law_1200 : decode b_Law_law 1200 = .ok (.pop, 1) := by decide +kernel
theorem d_Law_law_1201 : decode b_Law_law 1201 = .ok (.goto 340, 3) := by decide +kernel
theorem d_Law_law_1204 : decode b_Law_law 1204 = .ok (.aload_n 1, 1) := by decide +kernel
theorem d_Law_law_1205 : decode b_Law_law 1205 = .ok (.aload_n 0, 1) := by decide +kernel
theorem d_Law_law_1206 : decode b_Law_law 1206 = .ok (.iload 4, 2) := by decide +kernel
theorem d_Law_law_1208 : decode b_Law_law 1208 = .ok (.iconst 1, 1) := by decide +kernel
theorem d_Law_law_1209 : decode b_Law_law 1209 = .ok (.iadd, 1) := by decide +kernel
theorem d_Law_law_1210 : decode b_Law_law 1210 = .ok (.iaload, 1) := by decide +kernel
theorem d_Law_law_1211 : decode b_Law_law 1211 = .ok (.aload_n 0, 1) := by decide +kernel
theorem d_Law_law_1212 : decode b_Law_law 1212 = .ok (.iload 4, 2) := by decide +kernel
theorem d_Law_law_1214 : decode b_Law_law 1214 = .ok (.iconst 2, 1) := by decide +kernel
theorem d_Law_law_1215 : decode b_Law_law 1215 = .ok (.iadd, 1) := by decide +kernel
theorem d_Law_law_1216 : decode b_Law_law 1216 = .ok (.iaload, 1) := by decide +kernel
theorem d_Law_law_1217 : decode b_Law_law 1217 = .ok (.invokevirtual 144, 3) := by decide +kernel
theorem d_Law_law_1220 : decode b_Law_law 1220 = .ok (.pop, 1) := by decide +kernel
theorem d_Law_law_1221 : decode b_Law_law 1221 = .ok (.aload_n 2, 1) := by decide +kernel
theorem d_Law_law_1222 : decode b_Law_law 1222 = .ok (.aload_n 0, 1) := by decide +kernel
theorem d_Law_law_1223 : decode b_Law_law 1223 = .ok (.iload 4, 2) := by decide +kernel
theorem d_Law_law_1225 : decode b_Law_law 1225 = .ok (.iconst 1, 1) := by decide +kernel
theorem d_Law_law_1226 : decode b_Law_law 1226 = .ok (.iadd, 1) := by decide +kernel
theorem d_Law_law_1227 : decode b_Law_law 1227 = .ok (.iaload, 1) := by decide +kernel
theorem d_Law_law_1228 : decode b_Law_law 1228 = .ok (.aload_n 0, 1) := by decide +kernel
theorem d_Law_law_1229 : decode b_Law_law 1229 = .ok (.iload 4, 2) := by decide +kernel
theorem d_Law_law_1231 : decode b_Law_law 1231 = .ok (.iconst 2, 1) := by decide +kernel
theorem d_Law_law_1232 : decode b_Law_law 1232 = .ok (.iadd, 1) := by decide +kernel
theorem d_Law_law_1233 : decode b_Law_law 1233 = .ok (.iaload, 1) := by decide +kernel
theorem d_Law_law_1234 : decode b_Law_law 1234 = .ok (.invokevirtual 147, 3) := by decide +kernel
theorem d_Law_law_1237 : decode b_Law_law 1237 = .ok (.pop, 1) := by decide +kernel
theorem d_Law_law_1238 : decode b_Law_law 1238 = .ok (.goto 303, 3) := by decide +kernel
theorem d_Law_law_1241 : decode b_Law_law 1241 = .ok (.aload_n 1, 1) := by decide +kernel
theorem d_Law_law_1242 : decode b_Law_law 1242 = .ok (.aload_n 0, 1) := by decide +kernel
theorem d_Law_law_1243 : decode b_Law_law 1243 = .ok (.iload 4, 2) := by decide +kernel
theorem d_Law_law_1245 : decode b_Law_law 1245 = .ok (.iconst 1, 1) := by decide +kernel
theorem d_Law_law_1246 : decode b_Law_law 1246 = .ok (.iadd, 1) := by decide +kernel
theorem d_Law_law_1247 : decode b_Law_law 1247 = .ok (.iaload, 1) := by decide +kernel
theorem d_Law_law_1248 : decode b_Law_law 1248 = .ok (.aload_n 0, 1) := by decide +kernel
theorem d_Law_law_1249 : decode b_Law_law 1249 = .ok (.iload 4, 2) := by decide +kernel
theorem d_Law_law_1251 : decode b_Law_law 1251 = .ok (.iconst 2, 1) := by decide +kernel
theorem d_Law_law_1252 : decode b_Law_law 1252 = .ok (.iadd, 1) := by decide +kernel
theorem d_Law_law_1253 : decode b_Law_law 1253 = .ok (.iaload, 1) := by decide +kernel
theorem d_Law_law_1254 : decode b_Law_law 1254 = .ok (.invokevirtual 148, 3) := by decide +kernel
theorem d_Law_law_1257 : decode b_Law_law 1257 = .ok (.pop, 1) := by decide +kernel
theorem d_Law_law_1258 : decode b_Law_law 1258 = .ok (.aload_n 2, 1) := by decide +kernel
theorem d_Law_law_1259 : decode b_Law_law 1259 = .ok (.aload_n 0, 1) := by decide +kernel
theorem d_Law_law_1260 : decode b_Law_law 1260 = .ok (.iload 4, 2) := by decide +kernel
theorem d_Law_law_1262 : decode b_Law_law 1262 = .ok (.iconst 1, 1) := by decide +kernel
theorem d_Law_law_1263 : decode b_Law_law 1263 = .ok (.iadd, 1) := by decide +kernel
theorem d_Law_law_1264 : decode b_Law_law 1264 = .ok (.iaload, 1) := by decide +kernel
theorem d_Law_law_1265 : decode b_Law_law 1265 = .ok (.aload_n 0, 1) := by decide +kernel
theorem d_Law_law_1266 : decode b_Law_law 1266 = .ok (.iload 4, 2) := by decide +kernel
theorem d_Law_law_1268 : decode b_Law_law 1268 = .ok (.iconst 2, 1) := by decide +kernel
theorem d_Law_law_1269 : decode b_Law_law 1269 = .ok (.iadd, 1) := by decide +kernel
theorem d_Law_law_1270 : decode b_Law_law 1270 = .ok (.iaload, 1) := by decide +kernel
theorem d_Law_law_1271 : decode b_Law_law 1271 = .ok (.invokevirtual 151, 3) := by decide +kernel
theorem d_Law_law_1274 : decode b_Law_law 1274 = .ok (.pop, 1) := by decide +kernel
theorem d_Law_law_1275 : decode b_Law_law 1275 = .ok (.goto 266, 3) := by decide +kernel
theorem d_Law_law_1278 : decode b_Law_law 1278 = .ok (.aload_n 1, 1) := by decide +kernel
theorem d_Law_law_1279 : decode b_Law_law 1279 = .ok (.aload_n 0, 1) := by decide +kernel
theorem d_Law_law_1280 : decode b_Law_law 1280 = .ok (.iload 4, 2) := by decide +kernel
theorem d_Law_law_1282 : decode b_Law_law 1282 = .ok (.iconst 1, 1) := by decide +kernel
theorem d_Law_law_1283 : decode b_Law_law 1283 = .ok (.iadd, 1) := by decide +kernel
theorem d_Law_law_1284 : decode b_Law_law 1284 = .ok (.iaload, 1) := by decide +kernel
theorem d_Law_law_1285 : decode b_Law_law 1285 = .ok (.invokevirtual 152, 3) := by decide +kernel
theorem d_Law_law_1288 : decode b_Law_law 1288 = .ok (.pop, 1) := by decide +kernel
theorem d_Law_law_1289 : decode b_Law_law 1289 = .ok (.aload_n 2, 1) := by decide +kernel
theorem d_Law_law_1290 : decode b_Law_law 1290 = .ok (.aload_n 0, 1) := by decide +kernel
theorem d_Law_law_1291 : decode b_Law_law 1291 = .ok (.iload 4, 2) := by decide +kernel
theorem d_Law_law_1293 : decode b_Law_law 1293 = .ok (.iconst 1, 1) := by decide +kernel
theorem d_Law_law_1294 : decode b_Law_law 1294 = .ok (.iadd, 1) := by decide +kernel
theorem d_Law_law_1295 : decode b_Law_law 1295 = .ok (.iaload, 1) := by decide +kernel
theorem d_Law_law_1296 : decode b_Law_law 1296 = .ok (.invokevirtual 155, 3) := by decide +kernel
theorem d_Law_law_1299 : decode b_Law_law 1299 = .ok (.pop, 1) := by decide +kernel
theorem d_Law_law_1300 : decode b_Law_law 1300 = .ok (.goto 241, 3) := by decide +kernel
theorem d_Law_law_1303 : decode b_Law_law 1303 = .ok (.aload_n 1, 1) := by decide +kernel
theorem d_Law_law_1304 : decode b_Law_law 1304 = .ok (.aload_n 0, 1) := by decide +kernel
theorem d_Law_law_1305 : decode b_Law_law 1305 = .ok (.iload 4, 2) := by decide +kernel
theorem d_Law_law_1307 : decode b_Law_law 1307 = .ok (.iconst 1, 1) := by decide +kernel
theorem d_Law_law_1308 : decode b_Law_law 1308 = .ok (.iadd, 1) := by decide +kernel
theorem d_Law_law_1309 : decode b_Law_law 1309 = .ok (.iaload, 1) := by decide +kernel
theorem d_Law_law_1310 : decode b_Law_law 1310 = .ok (.invokevirtual 156, 3) := by decide +kernel
theorem d_Law_law_1313 : decode b_Law_law 1313 = .ok (.pop, 1) := by decide +kernel
theorem d_Law_law_1314 : decode b_Law_law 1314 = .ok (.aload_n 2, 1) := by decide +kernel
theorem d_Law_law_1315 : decode b_Law_law 1315 = .ok (.aload_n 0, 1) := by decide +kernel
theorem d_Law_law_1316 : decode b_Law_law 1316 = .ok (.iload 4, 2) := by decide +kernel
theorem d_Law_law_1318 : decode b_Law_law 1318 = .ok (.iconst 1, 1) := by decide +kernel
theorem d_Law_law_1319 : decode b_Law_law 1319 = .ok (.iadd, 1) := by decide +kernel
theorem d_Law_law_1320 : decode b_Law_law 1320 = .ok (.iaload, 1) := by decide +kernel
theorem d_Law_law_1321 : decode b_Law_law 1321 = .ok (.invokevirtual 160, 3) := by decide +kernel
theorem d_Law_law_1324 : decode b_Law_law 1324 = .ok (.pop, 1) := by decide +kernel
theorem d_Law_law_1325 : decode b_Law_law 1325 = .ok (.goto 216, 3) := by decide +kernel
theorem d_Law_law_1328 : decode b_Law_law 1328 = .ok (.aload_n 1, 1) := by decide +kernel
theorem d_Law_law_1329 : decode b_Law_law 1329 = .ok (.invokevirtual 161, 3) := by decide +kernel
theorem d_Law_law_1332 : decode b_Law_law 1332 = .ok (.pop, 1) := by decide +kernel
theorem d_Law_law_1333 : decode b_Law_law 1333 = .ok (.aload_n 2, 1) := by decide +kernel
theorem d_Law_law_1334 : decode b_Law_law 1334 = .ok (.invokevirtual 164, 3) := by decide +kernel
theorem d_Law_law_1337 : decode b_Law_law 1337 = .ok (.pop, 1) := by decide +kernel
theorem d_Law_law_1338 : decode b_Law_law 1338 = .ok (.goto 203, 3) := by decide +kernel
theorem d_Law_law_1341 : decode b_Law_law 1341 = .ok (.aload_n 1, 1) := by decide +kernel
theorem d_Law_law_1342 : decode b_Law_law 1342 = .ok (.aload_n 0, 1) := by decide +kernel
theorem d_Law_law_1343 : decode b_Law_law 1343 = .ok (.iload 4, 2) := by decide +kernel
theorem d_Law_law_1345 : decode b_Law_law 1345 = .ok (.iconst 1, 1) := by decide +kernel
theorem d_Law_law_1346 : decode b_Law_law 1346 = .ok (.iadd, 1) := by decide +kernel
theorem d_Law_law_1347 : decode b_Law_law 1347 = .ok (.iaload, 1) := by decide +kernel
theorem d_Law_law_1348 : decode b_Law_law 1348 = .ok (.invokevirtual 165, 3) := by decide +kernel
theorem d_Law_law_1351 : decode b_Law_law 1351 = .ok (.pop, 1) := by decide +kernel
theorem d_Law_law_1352 : decode b_Law_law 1352 = .ok (.aload_n 2, 1) := by decide +kernel
theorem d_Law_law_1353 : decode b_Law_law 1353 = .ok (.aload_n 0, 1) := by decide +kernel
theorem d_Law_law_1354 : decode b_Law_law 1354 = .ok (.iload 4, 2) := by decide +kernel
theorem d_Law_law_1356 : decode b_Law_law 1356 = .ok (.iconst 1, 1) := by decide +kernel
theorem d_Law_law_1357 : decode b_Law_law 1357 = .ok (.iadd, 1) := by decide +kernel
theorem d_Law_law_1358 : decode b_Law_law 1358 = .ok (.iaload, 1) := by decide +kernel
theorem d_Law_law_1359 : decode b_Law_law 1359 = .ok (.invokevirtual 168, 3) := by decide +kernel
theorem d_Law_law_1362 : decode b_Law_law 1362 = .ok (.pop, 1) := by decide +kernel
theorem d_Law_law_1363 : decode b_Law_law 1363 = .ok (.goto 178, 3) := by decide +kernel
theorem d_Law_law_1366 : decode b_Law_law 1366 = .ok (.aload_n 1, 1) := by decide +kernel
theorem d_Law_law_1367 : decode b_Law_law 1367 = .ok (.aload_n 0, 1) := by decide +kernel
theorem d_Law_law_1368 : decode b_Law_law 1368 = .ok (.iload 4, 2) := by decide +kernel
theorem d_Law_law_1370 : decode b_Law_law 1370 = .ok (.iconst 1, 1) := by decide +kernel
theorem d_Law_law_1371 : decode b_Law_law 1371 = .ok (.iadd, 1) := by decide +kernel
theorem d_Law_law_1372 : decode b_Law_law 1372 = .ok (.iaload, 1) := by decide +kernel
theorem d_Law_law_1373 : decode b_Law_law 1373 = .ok (.invokevirtual 169, 3) := by decide +kernel
theorem d_Law_law_1376 : decode b_Law_law 1376 = .ok (.pop, 1) := by decide +kernel
theorem d_Law_law_1377 : decode b_Law_law 1377 = .ok (.aload_n 2, 1) := by decide +kernel
theorem d_Law_law_1378 : decode b_Law_law 1378 = .ok (.aload_n 0, 1) := by decide +kernel
theorem d_Law_law_1379 : decode b_Law_law 1379 = .ok (.iload 4, 2) := by decide +kernel
theorem d_Law_law_1381 : decode b_Law_law 1381 = .ok (.iconst 1, 1) := by decide +kernel
theorem d_Law_law_1382 : decode b_Law_law 1382 = .ok (.iadd, 1) := by decide +kernel
theorem d_Law_law_1383 : decode b_Law_law 1383 = .ok (.iaload, 1) := by decide +kernel
theorem d_Law_law_1384 : decode b_Law_law 1384 = .ok (.invokevirtual 172, 3) := by decide +kernel
theorem d_Law_law_1387 : decode b_Law_law 1387 = .ok (.pop, 1) := by decide +kernel
theorem d_Law_law_1388 : decode b_Law_law 1388 = .ok (.goto 153, 3) := by decide +kernel
theorem d_Law_law_1391 : decode b_Law_law 1391 = .ok (.aload_n 1, 1) := by decide +kernel
theorem d_Law_law_1392 : decode b_Law_law 1392 = .ok (.aload_n 0, 1) := by decide +kernel
theorem d_Law_law_1393 : decode b_Law_law 1393 = .ok (.iload 4, 2) := by decide +kernel
theorem d_Law_law_1395 : decode b_Law_law 1395 = .ok (.iconst 1, 1) := by decide +kernel
theorem d_Law_law_1396 : decode b_Law_law 1396 = .ok (.iadd, 1) := by decide +kernel
theorem d_Law_law_1397 : decode b_Law_law 1397 = .ok (.iaload, 1) := by decide +kernel
theorem d_Law_law_1398 : decode b_Law_law 1398 = .ok (.aload_n 0, 1) := by decide +kernel
theorem d_Law_law_1399 : decode b_Law_law 1399 = .ok (.iload 4, 2) := by decide +kernel
theorem d_Law_law_1401 : decode b_Law_law 1401 = .ok (.iconst 2, 1) := by decide +kernel
theorem d_Law_law_1402 : decode b_Law_law 1402 = .ok (.iadd, 1) := by decide +kernel
theorem d_Law_law_1403 : decode b_Law_law 1403 = .ok (.iaload, 1) := by decide +kernel
theorem d_Law_law_1404 : decode b_Law_law 1404 = .ok (.invokevirtual 173, 3) := by decide +kernel
theorem d_Law_law_1407 : decode b_Law_law 1407 = .ok (.pop, 1) := by decide +kernel
theorem d_Law_law_1408 : decode b_Law_law 1408 = .ok (.aload_n 2, 1) := by decide +kernel
theorem d_Law_law_1409 : decode b_Law_law 1409 = .ok (.aload_n 0, 1) := by decide +kernel
theorem d_Law_law_1410 : decode b_Law_law 1410 = .ok (.iload 4, 2) := by decide +kernel
theorem d_Law_law_1412 : decode b_Law_law 1412 = .ok (.iconst 1, 1) := by decide +kernel
theorem d_Law_law_1413 : decode b_Law_law 1413 = .ok (.iadd, 1) := by decide +kernel
theorem d_Law_law_1414 : decode b_Law_law 1414 = .ok (.iaload, 1) := by decide +kernel
theorem d_Law_law_1415 : decode b_Law_law 1415 = .ok (.aload_n 0, 1) := by decide +kernel
theorem d_Law_law_1416 : decode b_Law_law 1416 = .ok (.iload 4, 2) := by decide +kernel
theorem d_Law_law_1418 : decode b_Law_law 1418 = .ok (.iconst 2, 1) := by decide +kernel
theorem d_Law_law_1419 : decode b_Law_law 1419 = .ok (.iadd, 1) := by decide +kernel
theorem d_Law_law_1420 : decode b_Law_law 1420 = .ok (.iaload, 1) := by decide +kernel
theorem d_Law_law_1421 : decode b_Law_law 1421 = .ok (.invokevirtual 176, 3) := by decide +kernel
theorem d_Law_law_1424 : decode b_Law_law 1424 = .ok (.pop, 1) := by decide +kernel
theorem d_Law_law_1425 : decode b_Law_law 1425 = .ok (.goto 116, 3) := by decide +kernel
theorem d_Law_law_1428 : decode b_Law_law 1428 = .ok (.aload_n 1, 1) := by decide +kernel
theorem d_Law_law_1429 : decode b_Law_law 1429 = .ok (.aload_n 0, 1) := by decide +kernel
theorem d_Law_law_1430 : decode b_Law_law 1430 = .ok (.iload 4, 2) := by decide +kernel
theorem d_Law_law_1432 : decode b_Law_law 1432 = .ok (.iconst 1, 1) := by decide +kernel
theorem d_Law_law_1433 : decode b_Law_law 1433 = .ok (.iadd, 1) := by decide +kernel
theorem d_Law_law_1434 : decode b_Law_law 1434 = .ok (.iaload, 1) := by decide +kernel
theorem d_Law_law_1435 : decode b_Law_law 1435 = .ok (.aload_n 0, 1) := by decide +kernel
theorem d_Law_law_1436 : decode b_Law_law 1436 = .ok (.iload 4, 2) := by decide +kernel
theorem d_Law_law_1438 : decode b_Law_law 1438 = .ok (.iconst 2, 1) := by decide +kernel
theorem d_Law_law_1439 : decode b_Law_law 1439 = .ok (.iadd, 1) := by decide +kernel
theorem d_Law_law_1440 : decode b_Law_law 1440 = .ok (.iaload, 1) := by decide +kernel
theorem d_Law_law_1441 : decode b_Law_law 1441 = .ok (.aload_n 0, 1) := by decide +kernel
theorem d_Law_law_1442 : decode b_Law_law 1442 = .ok (.iload 4, 2) := by decide +kernel
theorem d_Law_law_1444 : decode b_Law_law 1444 = .ok (.iconst 3, 1) := by decide +kernel
theorem d_Law_law_1445 : decode b_Law_law 1445 = .ok (.iadd, 1) := by decide +kernel
theorem d_Law_law_1446 : decode b_Law_law 1446 = .ok (.iaload, 1) := by decide +kernel
theorem d_Law_law_1447 : decode b_Law_law 1447 = .ok (.invokevirtual 177, 3) := by decide +kernel
theorem d_Law_law_1450 : decode b_Law_law 1450 = .ok (.pop, 1) := by decide +kernel
theorem d_Law_law_1451 : decode b_Law_law 1451 = .ok (.aload_n 2, 1) := by decide +kernel
theorem d_Law_law_1452 : decode b_Law_law 1452 = .ok (.aload_n 0, 1) := by decide +kernel
theorem d_Law_law_1453 : decode b_Law_law 1453 = .ok (.iload 4, 2) := by decide +kernel
theorem d_Law_law_1455 : decode b_Law_law 1455 = .ok (.iconst 1, 1) := by decide +kernel
theorem d_Law_law_1456 : decode b_Law_law 1456 = .ok (.iadd, 1) := by decide +kernel
theorem d_Law_law_1457 : decode b_Law_law 1457 = .ok (.iaload, 1) := by decide +kernel
theorem d_Law_law_1458 : decode b_Law_law 1458 = .ok (.aload_n 0, 1) := by decide +kernel
theorem d_Law_law_1459 : decode b_Law_law 1459 = .ok (.iload 4, 2) := by decide +kernel
theorem d_Law_law_1461 : decode b_Law_law 1461 = .ok (.iconst 2, 1) := by decide +kernel
theorem d_Law_law_1462 : decode b_Law_law 1462 = .ok (.iadd, 1) := by decide +kernel
theorem d_Law_law_1463 : decode b_Law_law 1463 = .ok (.iaload, 1) := by decide +kernel
theorem d_Law_law_1464 : decode b_Law_law 1464 = .ok (.aload_n 0, 1) := by decide +kernel
theorem d_Law_law_1465 : decode b_Law_law 1465 = .ok (.iload 4, 2) := by decide +kernel
theorem d_Law_law_1467 : decode b_Law_law 1467 = .ok (.iconst 3, 1) := by decide +kernel
theorem d_Law_law_1468 : decode b_Law_law 1468 = .ok (.iadd, 1) := by decide +kernel
theorem d_Law_law_1469 : decode b_Law_law 1469 = .ok (.iaload, 1) := by decide +kernel
theorem d_Law_law_1470 : decode b_Law_law 1470 = .ok (.invokevirtual 180, 3) := by decide +kernel
theorem d_Law_law_1473 : decode b_Law_law 1473 = .ok (.pop, 1) := by decide +kernel
theorem d_Law_law_1474 : decode b_Law_law 1474 = .ok (.goto 67, 3) := by decide +kernel
theorem d_Law_law_1477 : decode b_Law_law 1477 = .ok (.aload_n 1, 1) := by decide +kernel
theorem d_Law_law_1478 : decode b_Law_law 1478 = .ok (.invokevirtual 181, 3) := by decide +kernel
theorem d_Law_law_1481 : decode b_Law_law 1481 = .ok (.pop, 1) := by decide +kernel
theorem d_Law_law_1482 : decode b_Law_law 1482 = .ok (.aload_n 2, 1) := by decide +kernel
theorem d_Law_law_1483 : decode b_Law_law 1483 = .ok (.invokevirtual 184, 3) := by decide +kernel
theorem d_Law_law_1486 : decode b_Law_law 1486 = .ok (.pop, 1) := by decide +kernel
theorem d_Law_law_1487 : decode b_Law_law 1487 = .ok (.goto 54, 3) := by decide +kernel
theorem d_Law_law_1490 : decode b_Law_law 1490 = .ok (.aload_n 1, 1) := by decide +kernel
theorem d_Law_law_1491 : decode b_Law_law 1491 = .ok (.invokevirtual 185, 3) := by decide +kernel
theorem d_Law_law_1494 : decode b_Law_law 1494 = .ok (.pop, 1) := by decide +kernel
theorem d_Law_law_1495 : decode b_Law_law 1495 = .ok (.aload_n 2, 1) := by decide +kernel
theorem d_Law_law_1496 : decode b_Law_law 1496 = .ok (.invokevirtual 188, 3) := by decide +kernel
theorem d_Law_law_1499 : decode b_Law_law 1499 = .ok (.pop, 1) := by decide +kernel
theorem d_Law_law_1500 : decode b_Law_law 1500 = .ok (.goto 41, 3) := by decide +kernel
theorem d_Law_law_1503 : decode b_Law_law 1503 = .ok (.aload_n 1, 1) := by decide +kernel
theorem d_Law_law_1504 : decode b_Law_law 1504 = .ok (.invokevirtual 189, 3) := by decide +kernel
theorem d_Law_law_1507 : decode b_Law_law 1507 = .ok (.pop, 1) := by decide +kernel
theorem d_Law_law_1508 : decode b_Law_law 1508 = .ok (.aload_n 2, 1) := by decide +kernel
theorem d_Law_law_1509 : decode b_Law_law 1509 = .ok (.invokevirtual 192, 3) := by decide +kernel
theorem d_Law_law_1512 : decode b_Law_law 1512 = .ok (.pop, 1) := by decide +kernel
theorem d_Law_law_1513 : decode b_Law_law 1513 = .ok (.goto 28, 3) := by decide +kernel
theorem d_Law_law_1516 : decode b_Law_law 1516 = .ok (.aload_n 1, 1) := by decide +kernel
theorem d_Law_law_1517 : decode b_Law_law 1517 = .ok (.aload_n 0, 1) := by decide +kernel
theorem d_Law_law_1518 : decode b_Law_law 1518 = .ok (.iload 4, 2) := by decide +kernel
theorem d_Law_law_1520 : decode b_Law_law 1520 = .ok (.iconst 1, 1) := by decide +kernel
theorem d_Law_law_1521 : decode b_Law_law 1521 = .ok (.iadd, 1) := by decide +kernel
theorem d_Law_law_1522 : decode b_Law_law 1522 = .ok (.iaload, 1) := by decide +kernel
theorem d_Law_law_1523 : decode b_Law_law 1523 = .ok (.invokevirtual 193, 3) := by decide +kernel
theorem d_Law_law_1526 : decode b_Law_law 1526 = .ok (.pop, 1) := by decide +kernel
theorem d_Law_law_1527 : decode b_Law_law 1527 = .ok (.aload_n 2, 1) := by decide +kernel
theorem d_Law_law_1528 : decode b_Law_law 1528 = .ok (.aload_n 0, 1) := by decide +kernel
theorem d_Law_law_1529 : decode b_Law_law 1529 = .ok (.iload 4, 2) := by decide +kernel
theorem d_Law_law_1531 : decode b_Law_law 1531 = .ok (.iconst 1, 1) := by decide +kernel
theorem d_Law_law_1532 : decode b_Law_law 1532 = .ok (.iadd, 1) := by decide +kernel
theorem d_Law_law_1533 : decode b_Law_law 1533 = .ok (.iaload, 1) := by decide +kernel
theorem d_Law_law_1534 : decode b_Law_law 1534 = .ok (.invokevirtual 196, 3) := by decide +kernel
theorem d_Law_law_1537 : decode b_Law_law 1537 = .ok (.pop, 1) := by decide +kernel
theorem d_Law_law_1538 : decode b_Law_law 1538 = .ok (.goto 3, 3) := by decide +kernel
theorem d_Law_law_1541 : decode b_Law_law 1541 = .ok (.iinc 4 6, 3) := by decide +kernel
theorem d_Law_law_1544 : decode b_Law_law 1544 = .ok (.goto (-1521), 3) := by decide +kernel
theorem d_Law_law_1547 : decode b_Law_law 1547 = .ok (.iconst 1, 1) := by decide +kernel
theorem d_Law_law_1548 : decode b_Law_law 1548 = .ok (.ireturn, 1) := by decide +kernel
