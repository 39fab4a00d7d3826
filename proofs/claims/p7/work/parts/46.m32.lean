abbrev b_Law_law : ByteArray := code
def y_Law_law : MethodName := ⟨"WardFallsLaw", "law", "([I)Z"⟩
theorem d_Law_law_0 : decode b_Law_law 0 = .ok (.new 8, 3) := by decide +kernel
theorem d_Law_law_3 : decode b_Law_law 3 = .ok (.dup, 1) := by decide +kernel
theorem d_Law_law_4 : decode b_Law_law 4 = .ok (.invokespecial 17, 3) := by decide +kernel
theorem d_Law_law_7 : decode b_Law_law 7 = .ok (.astore_n 1, 1) := by decide +kernel
theorem d_Law_law_8 : decode b_Law_law 8 = .ok (.new 18, 3) := by decide +kernel
theorem d_Law_law_11 : decode b_Law_law 11 = .ok (.dup, 1) := by decide +kernel
theorem d_Law_law_12 : decode b_Law_law 12 = .ok (.invokespecial 20, 3) := by decide +kernel
theorem d_Law_law_15 : decode b_Law_law 15 = .ok (.astore_n 2, 1) := by decide +kernel
theorem d_Law_law_16 : decode b_Law_law 16 = .ok (.iconst 1, 1) := by decide +kernel
theorem d_Law_law_17 : decode b_Law_law 17 = .ok (.newarray .long, 2) := by decide +kernel
theorem d_Law_law_19 : decode b_Law_law 19 = .ok (.astore_n 3, 1) := by decide +kernel
theorem d_Law_law_20 : decode b_Law_law 20 = .ok (.iconst 0, 1) := by decide +kernel
theorem d_Law_law_21 : decode b_Law_law 21 = .ok (.istore 4, 2) := by decide +kernel
theorem d_Law_law_23 : decode b_Law_law 23 = .ok (.iload 4, 2) := by decide +kernel
theorem d_Law_law_25 : decode b_Law_law 25 = .ok (.aload_n 0, 1) := by decide +kernel
theorem d_Law_law_26 : decode b_Law_law 26 = .ok (.arraylength, 1) := by decide +kernel
theorem d_Law_law_27 : decode b_Law_law 27 = .ok (.bipush 6, 2) := by decide +kernel
theorem d_Law_law_29 : decode b_Law_law 29 = .ok (.isub, 1) := by decide +kernel
theorem d_Law_law_30 : decode b_Law_law 30 = .ok (.if_icmp .gt 1516, 3) := by decide +kernel
theorem d_Law_law_33 : decode b_Law_law 33 = .ok (.aload_n 0, 1) := by decide +kernel
theorem d_Law_law_34 : decode b_Law_law 34 = .ok (.iload 4, 2) := by decide +kernel
theorem d_Law_law_36 : decode b_Law_law 36 = .ok (.iaload, 1) := by decide +kernel
theorem d_Law_law_37 : decode b_Law_law 37 = .ok (.bipush 63, 2) := by decide +kernel
theorem d_Law_law_39 : decode b_Law_law 39 = .ok (.iand, 1) := by decide +kernel
theorem d_Law_law_40 : decode b_Law_law 40 = .ok (.tableswitch 1500 0 40 #[180, 253, 278, 303, 340, 380, 417, 454, 503, 528, 565, 602, 627, 664, 717, 754, 791, 804, 841, 878, 927, 976, 1025, 1062, 1075, 1100, 1113, 1138, 1163, 1200, 1237, 1262, 1287, 1300, 1325, 1350, 1387, 1436, 1449, 1462, 1475], 180) := by decide +kernel
theorem d_Law_law_220 : decode b_Law_law 220 = .ok (.aload_n 1, 1) := by decide +kernel
theorem d_Law_law_221 : decode b_Law_law 221 = .ok (.aload_n 0, 1) := by decide +kernel
theorem d_Law_law_222 : decode b_Law_law 222 = .ok (.iload 4, 2) := by decide +kernel
theorem d_Law_law_224 : decode b_Law_law 224 = .ok (.iconst 1, 1) := by decide +kernel
theorem d_Law_law_225 : decode b_Law_law 225 = .ok (.iadd, 1) := by decide +kernel
theorem d_Law_law_226 : decode b_Law_law 226 = .ok (.iaload, 1) := by decide +kernel
theorem d_Law_law_227 : decode b_Law_law 227 = .ok (.aload_n 0, 1) := by decide +kernel
theorem d_Law_law_228 : decode b_Law_law 228 = .ok (.iload 4, 2) := by decide +kernel
theorem d_Law_law_230 : decode b_Law_law 230 = .ok (.iconst 2, 1) := by decide +kernel
theorem d_Law_law_231 : decode b_Law_law 231 = .ok (.iadd, 1) := by decide +kernel
theorem d_Law_law_232 : decode b_Law_law 232 = .ok (.iaload, 1) := by decide +kernel
theorem d_Law_law_233 : decode b_Law_law 233 = .ok (.aload_n 0, 1) := by decide +kernel
theorem d_Law_law_234 : decode b_Law_law 234 = .ok (.iload 4, 2) := by decide +kernel
theorem d_Law_law_236 : decode b_Law_law 236 = .ok (.iconst 3, 1) := by decide +kernel
theorem d_Law_law_237 : decode b_Law_law 237 = .ok (.iadd, 1) := by decide +kernel
theorem d_Law_law_238 : decode b_Law_law 238 = .ok (.iaload, 1) := by decide +kernel
theorem d_Law_law_239 : decode b_Law_law 239 = .ok (.aload_n 0, 1) := by decide +kernel
theorem d_Law_law_240 : decode b_Law_law 240 = .ok (.iload 4, 2) := by decide +kernel
theorem d_Law_law_242 : decode b_Law_law 242 = .ok (.iconst 4, 1) := by decide +kernel
theorem d_Law_law_243 : decode b_Law_law 243 = .ok (.iadd, 1) := by decide +kernel
theorem d_Law_law_244 : decode b_Law_law 244 = .ok (.iaload, 1) := by decide +kernel
theorem d_Law_law_245 : decode b_Law_law 245 = .ok (.aload_n 0, 1) := by decide +kernel
theorem d_Law_law_246 : decode b_Law_law 246 = .ok (.iload 4, 2) := by decide +kernel
theorem d_Law_law_248 : decode b_Law_law 248 = .ok (.iconst 5, 1) := by decide +kernel
theorem d_Law_law_249 : decode b_Law_law 249 = .ok (.iadd, 1) := by decide +kernel
theorem d_Law_law_250 : decode b_Law_law 250 = .ok (.iaload, 1) := by decide +kernel
theorem d_Law_law_251 : decode b_Law_law 251 = .ok (.invokevirtual 21, 3) := by decide +kernel
theorem d_Law_law_254 : decode b_Law_law 254 = .ok (.pop, 1) := by decide +kernel
theorem d_Law_law_255 : decode b_Law_law 255 = .ok (.aload_n 2, 1) := by decide +kernel
theorem d_Law_law_256 : decode b_Law_law 256 = .ok (.aload_n 0, 1) := by decide +kernel
theorem d_Law_law_257 : decode b_Law_law 257 = .ok (.iload 4, 2) := by decide +kernel
theorem d_Law_law_259 : decode b_Law_law 259 = .ok (.iconst 1, 1) := by decide +kernel
theorem d_Law_law_260 : decode b_Law_law 260 = .ok (.iadd, 1) := by decide +kernel
theorem d_Law_law_261 : decode b_Law_law 261 = .ok (.iaload, 1) := by decide +kernel
theorem d_Law_law_262 : decode b_Law_law 262 = .ok (.aload_n 0, 1) := by decide +kernel
theorem d_Law_law_263 : decode b_Law_law 263 = .ok (.iload 4, 2) := by decide +kernel
theorem d_Law_law_265 : decode b_Law_law 265 = .ok (.iconst 2, 1) := by decide +kernel
theorem d_Law_law_266 : decode b_Law_law 266 = .ok (.iadd, 1) := by decide +kernel
theorem d_Law_law_267 : decode b_Law_law 267 = .ok (.iaload, 1) := by decide +kernel
theorem d_Law_law_268 : decode b_Law_law 268 = .ok (.aload_n 0, 1) := by decide +kernel
theorem d_Law_law_269 : decode b_Law_law 269 = .ok (.iload 4, 2) := by decide +kernel
theorem d_Law_law_271 : decode b_Law_law 271 = .ok (.iconst 3, 1) := by decide +kernel
theorem d_Law_law_272 : decode b_Law_law 272 = .ok (.iadd, 1) := by decide +kernel
theorem d_Law_law_273 : decode b_Law_law 273 = .ok (.iaload, 1) := by decide +kernel
theorem d_Law_law_274 : decode b_Law_law 274 = .ok (.aload_n 0, 1) := by decide +kernel
theorem d_Law_law_275 : decode b_Law_law 275 = .ok (.iload 4, 2) := by decide +kernel
theorem d_Law_law_277 : decode b_Law_law 277 = .ok (.iconst 4, 1) := by decide +kernel
theorem d_Law_law_278 : decode b_Law_law 278 = .ok (.iadd, 1) := by decide +kernel
theorem d_Law_law_279 : decode b_Law_law 279 = .ok (.iaload, 1) := by decide +kernel
theorem d_Law_law_280 : decode b_Law_law 280 = .ok (.aload_n 0, 1) := by decide +kernel
theorem d_Law_law_281 : decode b_Law_law 281 = .ok (.iload 4, 2) := by decide +kernel
theorem d_Law_law_283 : decode b_Law_law 283 = .ok (.iconst 5, 1) := by decide +kernel
theorem d_Law_law_284 : decode b_Law_law 284 = .ok (.iadd, 1) := by decide +kernel
theorem d_Law_law_285 : decode b_Law_law 285 = .ok (.iaload, 1) := by decide +kernel
theorem d_Law_law_286 : decode b_Law_law 286 = .ok (.invokevirtual 25, 3) := by decide +kernel
theorem d_Law_law_289 : decode b_Law_law 289 = .ok (.pop, 1) := by decide +kernel
theorem d_Law_law_290 : decode b_Law_law 290 = .ok (.goto 1250, 3) := by decide +kernel
theorem d_Law_law_293 : decode b_Law_law 293 = .ok (.aload_n 1, 1) := by decide +kernel
theorem d_Law_law_294 : decode b_Law_law 294 = .ok (.aload_n 0, 1) := by decide +kernel
theorem d_Law_law_295 : decode b_Law_law 295 = .ok (.iload 4, 2) := by decide +kernel
theorem d_Law_law_297 : decode b_Law_law 297 = .ok (.iconst 1, 1) := by decide +kernel
theorem d_Law_law_298 : decode b_Law_law 298 = .ok (.iadd, 1) := by decide +kernel
theorem d_Law_law_299 : decode b_Law_law 299 = .ok (.iaload, 1) := by decide +kernel
theorem d_Law_law_300 : decode b_Law_law 300 = .ok (.invokevirtual 26, 3) := by decide +kernel
theorem d_Law_law_303 : decode b_Law_law 303 = .ok (.pop, 1) := by decide +kernel
theorem d_Law_law_304 : decode b_Law_law 304 = .ok (.aload_n 2, 1) := by decide +kernel
theorem d_Law_law_305 : decode b_Law_law 305 = .ok (.aload_n 0, 1) := by decide +kernel
theorem d_Law_law_306 : decode b_Law_law 306 = .ok (.iload 4, 2) := by decide +kernel
theorem d_Law_law_308 : decode b_Law_law 308 = .ok (.iconst 1, 1) := by decide +kernel
theorem d_Law_law_309 : decode b_Law_law 309 = .ok (.iadd, 1) := by decide +kernel
theorem d_Law_law_310 : decode b_Law_law 310 = .ok (.iaload, 1) := by decide +kernel
theorem d_Law_law_311 : decode b_Law_law 311 = .ok (.invokevirtual 30, 3) := by decide +kernel
theorem d_Law_law_314 : decode b_Law_law 314 = .ok (.pop, 1) := by decide +kernel
theorem d_Law_law_315 : decode b_Law_law 315 = .ok (.goto 1225, 3) := by decide +kernel
theorem d_Law_law_318 : decode b_Law_law 318 = .ok (.aload_n 1, 1) := by decide +kernel
theorem d_Law_law_319 : decode b_Law_law 319 = .ok (.aload_n 0, 1) := by decide +kernel
theorem d_Law_law_320 : decode b_Law_law 320 = .ok (.iload 4, 2) := by decide +kernel
theorem d_Law_law_322 : decode b_Law_law 322 = .ok (.iconst 1, 1) := by decide +kernel
theorem d_Law_law_323 : decode b_Law_law 323 = .ok (.iadd, 1) := by decide +kernel
theorem d_Law_law_324 : decode b_Law_law 324 = .ok (.iaload, 1) := by decide +kernel
theorem d_Law_law_325 : decode b_Law_law 325 = .ok (.invokevirtual 31, 3) := by decide +kernel
theorem d_Law_law_328 : decode b_Law_law 328 = .ok (.pop, 1) := by decide +kernel
theorem d_Law_law_329 : decode b_Law_law 329 = .ok (.aload_n 2, 1) := by decide +kernel
theorem d_Law_law_330 : decode b_Law_law 330 = .ok (.aload_n 0, 1) := by decide +kernel
theorem d_Law_law_331 : decode b_Law_law 331 = .ok (.iload 4, 2) := by decide +kernel
theorem d_Law_law_333 : decode b_Law_law 333 = .ok (.iconst 1, 1) := by decide +kernel
theorem d_Law_law_334 : decode b_Law_law 334 = .ok (.iadd, 1) := by decide +kernel
theorem d_Law_law_335 : decode b_Law_law 335 = .ok (.iaload, 1) := by decide +kernel
theorem d_Law_law_336 : decode b_Law_law 336 = .ok (.invokevirtual 34, 3) := by decide +kernel
theorem d_Law_law_339 : decode b_Law_law 339 = .ok (.pop, 1) := by decide +kernel
theorem d_Law_law_340 : decode b_Law_law 340 = .ok (.goto 1200, 3) := by decide +kernel
theorem d_Law_law_343 : decode b_Law_law 343 = .ok (.aload_n 1, 1) := by decide +kernel
theorem d_Law_law_344 : decode b_Law_law 344 = .ok (.aload_n 0, 1) := by decide +kernel
theorem d_Law_law_345 : decode b_Law_law 345 = .ok (.iload 4, 2) := by decide +kernel
theorem d_Law_law_347 : decode b_Law_law 347 = .ok (.iconst 1, 1) := by decide +kernel
theorem d_Law_law_348 : decode b_Law_law 348 = .ok (.iadd, 1) := by decide +kernel
theorem d_Law_law_349 : decode b_Law_law 349 = .ok (.iaload, 1) := by decide +kernel
theorem d_Law_law_350 : decode b_Law_law 350 = .ok (.aload_n 0, 1) := by decide +kernel
theorem d_Law_law_351 : decode b_Law_law 351 = .ok (.iload 4, 2) := by decide +kernel
theorem d_Law_law_353 : decode b_Law_law 353 = .ok (.iconst 2, 1) := by decide +kernel
theorem d_Law_law_354 : decode b_Law_law 354 = .ok (.iadd, 1) := by decide +kernel
theorem d_Law_law_355 : decode b_Law_law 355 = .ok (.iaload, 1) := by decide +kernel
theorem d_Law_law_356 : decode b_Law_law 356 = .ok (.invokevirtual 35, 3) := by decide +kernel
theorem d_Law_law_359 : decode b_Law_law 359 = .ok (.pop, 1) := by decide +kernel
theorem d_Law_law_360 : decode b_Law_law 360 = .ok (.aload_n 2, 1) := by decide +kernel
theorem d_Law_law_361 : decode b_Law_law 361 = .ok (.aload_n 0, 1) := by decide +kernel
theorem d_Law_law_362 : decode b_Law_law 362 = .ok (.iload 4, 2) := by decide +kernel
theorem d_Law_law_364 : decode b_Law_law 364 = .ok (.iconst 1, 1) := by decide +kernel
theorem d_Law_law_365 : decode b_Law_law 365 = .ok (.iadd, 1) := by decide +kernel
theorem d_Law_law_366 : decode b_Law_law 366 = .ok (.iaload, 1) := by decide +kernel
theorem d_Law_law_367 : decode b_Law_law 367 = .ok (.aload_n 0, 1) := by decide +kernel
theorem d_Law_law_368 : decode b_Law_law 368 = .ok (.iload 4, 2) := by decide +kernel
theorem d_Law_law_370 : decode b_Law_law 370 = .ok (.iconst 2, 1) := by decide +kernel
theorem d_Law_law_371 : decode b_Law_law 371 = .ok (.iadd, 1) := by decide +kernel
theorem d_Law_law_372 : decode b_Law_law 372 = .ok (.iaload, 1) := by decide +kernel
theorem d_Law_law_373 : decode b_Law_law 373 = .ok (.invokevirtual 38, 3) := by decide +kernel
theorem d_Law_law_376 : decode b_Law_law 376 = .ok (.pop, 1) := by decide +kernel
theorem d_Law_law_377 : decode b_Law_law 377 = .ok (.goto 1163, 3) := by decide +kernel
theorem d_Law_law_380 : decode b_Law_law 380 = .ok (.aload_n 1, 1) := by decide +kernel
theorem d_Law_law_381 : decode b_Law_law 381 = .ok (.aload_n 0, 1) := by decide +kernel
theorem d_Law_law_382 : decode b_Law_law 382 = .ok (.iload 4, 2) := by decide +kernel
theorem d_Law_law_384 : decode b_Law_law 384 = .ok (.iconst 1, 1) := by decide +kernel
theorem d_Law_law_385 : decode b_Law_law 385 = .ok (.iadd, 1) := by decide +kernel
theorem d_Law_law_386 : decode b_Law_law 386 = .ok (.iaload, 1) := by decide +kernel
theorem d_Law_law_387 : decode b_Law_law 387 = .ok (.aload_n 0, 1) := by decide +kernel
theorem d_Law_law_388 : decode b_Law_law 388 = .ok (.iload 4, 2) := by decide +kernel
theorem d_Law_law_390 : decode b_Law_law 390 = .ok (.iconst 2, 1) := by decide +kernel
theorem d_Law_law_391 : decode b_Law_law 391 = .ok (.iadd, 1) := by decide +kernel
theorem d_Law_law_392 : decode b_Law_law 392 = .ok (.iaload, 1) := by decide +kernel
theorem d_Law_law_393 : decode b_Law_law 393 = .ok (.aload_n 3, 1) := by decide +kernel
theorem d_Law_law_394 : decode b_Law_law 394 = .ok (.invokestatic 39, 3) := by decide +kernel
theorem d_Law_law_397 : decode b_Law_law 397 = .ok (.istore 5, 2) := by decide +kernel
theorem d_Law_law_399 : decode b_Law_law 399 = .ok (.aload_n 2, 1) := by decide +kernel
theorem d_Law_law_400 : decode b_Law_law 400 = .ok (.aload_n 0, 1) := by decide +kernel
theorem d_Law_law_401 : decode b_Law_law 401 = .ok (.iload 4, 2) := by decide +kernel
theorem d_Law_law_403 : decode b_Law_law 403 = .ok (.iconst 1, 1) := by decide +kernel
theorem d_Law_law_404 : decode b_Law_law 404 = .ok (.iadd, 1) := by decide +kernel
theorem d_Law_law_405 : decode b_Law_law 405 = .ok (.iaload, 1) := by decide +kernel
theorem d_Law_law_406 : decode b_Law_law 406 = .ok (.aload_n 0, 1) := by decide +kernel
theorem d_Law_law_407 : decode b_Law_law 407 = .ok (.iload 4, 2) := by decide +kernel
theorem d_Law_law_409 : decode b_Law_law 409 = .ok (.iconst 2, 1) := by decide +kernel
theorem d_Law_law_410 : decode b_Law_law 410 = .ok (.iadd, 1) := by decide +kernel
theorem d_Law_law_411 : decode b_Law_law 411 = .ok (.iaload, 1) := by decide +kernel
theorem d_Law_law_412 : decode b_Law_law 412 = .ok (.invokevirtual 44, 3) := by decide +kernel
theorem d_Law_law_415 : decode b_Law_law 415 = .ok (.istore 6, 2) := by decide +kernel
theorem d_Law_law_417 : decode b_Law_law 417 = .ok (.goto 1123, 3) := by decide +kernel
theorem d_Law_law_420 : decode b_Law_law 420 = .ok (.aload_n 1, 1) := by decide +kernel
theorem d_Law_law_421 : decode b_Law_law 421 = .ok (.aload_n 0, 1) := by decide +kernel
theorem d_Law_law_422 : decode b_Law_law 422 = .ok (.iload 4, 2) := by decide +kernel
theorem d_Law_law_424 : decode b_Law_law 424 = .ok (.iconst 1, 1) := by decide +kernel
theorem d_Law_law_425 : decode b_Law_law 425 = .ok (.iadd, 1) := by decide +kernel
theorem d_Law_law_426 : decode b_Law_law 426 = .ok (.iaload, 1) := by decide +kernel
theorem d_Law_law_427 : decode b_Law_law 427 = .ok (.aload_n 0, 1) := by decide +kernel
theorem d_Law_law_428 : decode b_Law_law 428 = .ok (.iload 4, 2) := by decide +kernel
theorem d_Law_law_430 : decode b_Law_law 430 = .ok (.iconst 2, 1) := by decide +kernel
theorem d_Law_law_431 : decode b_Law_law 431 = .ok (.iadd, 1) := by decide +kernel
theorem d_Law_law_432 : decode b_Law_law 432 = .ok (.iaload, 1) := by decide +kernel
theorem d_Law_law_433 : decode b_Law_law 433 = .ok (.invokevirtual 45, 3) := by decide +kernel
theorem d_Law_law_436 : decode b_Law_law 436 = .ok (.aload_n 2, 1) := by decide +kernel
theorem d_Law_law_437 : decode b_Law_law 437 = .ok (.aload_n 0, 1) := by decide +kernel
theorem d_Law_law_438 : decode b_Law_law 438 = .ok (.iload 4, 2) := by decide +kernel
theorem d_Law_law_440 : decode b_Law_law 440 = .ok (.iconst 1, 1) := by decide +kernel
theorem d_Law_law_441 : decode b_Law_law 441 = .ok (.iadd, 1) := by decide +kernel
theorem d_Law_law_442 : decode b_Law_law 442 = .ok (.iaload, 1) := by decide +kernel
theorem d_Law_law_443 : decode b_Law_law 443 = .ok (.aload_n 0, 1) := by decide +kernel
theorem d_Law_law_444 : decode b_Law_law 444 = .ok (.iload 4, 2) := by decide +kernel
theorem d_Law_law_446 : decode b_Law_law 446 = .ok (.iconst 2, 1) := by decide +kernel
theorem d_Law_law_447 : decode b_Law_law 447 = .ok (.iadd, 1) := by decide +kernel
theorem d_Law_law_448 : decode b_Law_law 448 = .ok (.iaload, 1) := by decide +kernel
theorem d_Law_law_449 : decode b_Law_law 449 = .ok (.invokevirtual 48, 3) := by decide +kernel
theorem d_Law_law_452 : decode b_Law_law 452 = .ok (.if_icmp .eq 1088, 3) := by decide +kernel
theorem d_Law_law_455 : decode b_Law_law 455 = .ok (.iconst 0, 1) := by decide +kernel
theorem d_Law_law_456 : decode b_Law_law 456 = .ok (.ireturn, 1) := by decide +kernel
theorem d_Law_law_457 : decode b_Law_law 457 = .ok (.aload_n 1, 1) := by decide +kernel
theorem d_Law_law_458 : decode b_Law_law 458 = .ok (.aload_n 0, 1) := by decide +kernel
theorem d_Law_law_459 : decode b_Law_law 459 = .ok (.iload 4, 2) := by decide +kernel
theorem d_Law_law_461 : decode b_Law_law 461 = .ok (.iconst 1, 1) := by decide +kernel
theorem d_Law_law_462 : decode b_Law_law 462 = .ok (.iadd, 1) := by decide +kernel
theorem d_Law_law_463 : decode b_Law_law 463 = .ok (.iaload, 1) := by decide +kernel
theorem d_Law_law_464 : decode b_Law_law 464 = .ok (.aload_n 0, 1) := by decide +kernel
theorem d_Law_law_465 : decode b_Law_law 465 = .ok (.iload 4, 2) := by decide +kernel
theorem d_Law_law_467 : decode b_Law_law 467 = .ok (.iconst 2, 1) := by decide +kernel
theorem d_Law_law_468 : decode b_Law_law 468 = .ok (.iadd, 1) := by decide +kernel
theorem d_Law_law_469 : decode b_Law_law 469 = .ok (.iaload, 1) := by decide +kernel
theorem d_Law_law_470 : decode b_Law_law 470 = .ok (.invokevirtual 49, 3) := by decide +kernel
theorem d_Law_law_473 : decode b_Law_law 473 = .ok (.pop, 1) := by decide +kernel
theorem d_Law_law_474 : decode b_Law_law 474 = .ok (.aload_n 2, 1) := by decide +kernel
theorem d_Law_law_475 : decode b_Law_law 475 = .ok (.aload_n 0, 1) := by decide +kernel
theorem d_Law_law_476 : decode b_Law_law 476 = .ok (.iload 4, 2) := by decide +kernel
theorem d_Law_law_478 : decode b_Law_law 478 = .ok (.iconst 1, 1) := by decide +kernel
theorem d_Law_law_479 : decode b_Law_law 479 = .ok (.iadd, 1) := by decide +kernel
theorem d_Law_law_480 : decode b_Law_law 480 = .ok (.iaload, 1) := by decide +kernel
theorem d_Law_law_481 : decode b_Law_law 481 = .ok (.aload_n 0, 1) := by decide +kernel
theorem d_Law_law_482 : decode b_Law_law 482 = .ok (.iload 4, 2) := by decide +kernel
theorem d_Law_law_484 : decode b_Law_law 484 = .ok (.iconst 2, 1) := by decide +kernel
theorem d_Law_law_485 : decode b_Law_law 485 = .ok (.iadd, 1) := by decide +kernel
theorem d_Law_law_486 : decode b_Law_law 486 = .ok (.iaload, 1) := by decide +kernel
theorem d_Law_law_487 : decode b_Law_law 487 = .ok (.invokevirtual 52, 3) := by decide +kernel
theorem d_Law_law_490 : decode b_Law_law 490 = .ok (.pop, 1) := by decide +kernel
theorem d_Law_law_491 : decode b_Law_law 491 = .ok (.goto 1049, 3) := by decide +kernel
theorem d_Law_law_494 : decode b_Law_law 494 = .ok (.aload_n 1, 1) := by decide +kernel
theorem d_Law_law_495 : decode b_Law_law 495 = .ok (.aload_n 0, 1) := by decide +kernel
theorem d_Law_law_496 : decode b_Law_law 496 = .ok (.iload 4, 2) := by decide +kernel
theorem d_Law_law_498 : decode b_Law_law 498 = .ok (.iconst 1, 1) := by decide +kernel
theorem d_Law_law_499 : decode b_Law_law 499 = .ok (.iadd, 1) := by decide +kernel
theorem d_Law_law_500 : decode b_Law_law 500 = .ok (.iaload, 1) := by decide +kernel
theorem d_Law_law_501 : decode b_Law_law 501 = .ok (.aload_n 0, 1) := by decide +kernel
theorem d_Law_law_502 : decode b_Law_law 502 = .ok (.iload 4, 2) := by decide +kernel
theorem d_Law_law_504 : decode b_Law_law 504 = .ok (.iconst 2, 1) := by decide +kernel
theorem d_Law_law_505 : decode b_Law_law 505 = .ok (.iadd, 1) := by decide +kernel
theorem d_Law_law_506 : decode b_Law_law 506 = .ok (.iaload, 1) := by decide +kernel
theorem d_Law_law_507 : decode b_Law_law 507 = .ok (.aload_n 0, 1) := by decide +kernel
theorem d_Law_law_508 : decode b_Law_law 508 = .ok (.iload 4, 2) := by decide +kernel
theorem d_Law_law_510 : decode b_Law_law 510 = .ok (.iconst 3, 1) := by decide +kernel
theorem d_Law_law_511 : decode b_Law_law 511 = .ok (.iadd, 1) := by decide +kernel
theorem d_Law_law_512 : decode b_Law_law 512 = .ok (.iaload, 1) := by decide +kernel
theorem d_Law_law_513 : decode b_Law_law 513 = .ok (.invokevirtual 53, 3) := by decide +kernel
theorem d_Law_law_516 : decode b_Law_law 516 = .ok (.pop2, 1) := by decide +kernel
theorem d_Law_law_517 : decode b_Law_law 517 = .ok (.aload_n 2, 1) := by decide +kernel
theorem d_Law_law_518 : decode b_Law_law 518 = .ok (.aload_n 0, 1) := by decide +kernel
theorem d_Law_law_519 : decode b_Law_law 519 = .ok (.iload 4, 2) := by decide +kernel
theorem d_Law_law_521 : decode b_Law_law 521 = .ok (.iconst 1, 1) := by decide +kernel
theorem d_Law_law_522 : decode b_Law_law 522 = .ok (.iadd, 1) := by decide +kernel
theorem d_Law_law_523 : decode b_Law_law 523 = .ok (.iaload, 1) := by decide +kernel
theorem d_Law_law_524 : decode b_Law_law 524 = .ok (.aload_n 0, 1) := by decide +kernel
theorem d_Law_law_525 : decode b_Law_law 525 = .ok (.iload 4, 2) := by decide +kernel
theorem d_Law_law_527 : decode b_Law_law 527 = .ok (.iconst 2, 1) := by decide +kernel
theorem d_Law_law_528 : decode b_Law_law 528 = .ok (.iadd, 1) := by decide +kernel
theorem d_Law_law_529 : decode b_Law_law 529 = .ok (.iaload, 1) := by decide +kernel
theorem d_Law_law_530 : decode b_Law_law 530 = .ok (.aload_n 0, 1) := by decide +kernel
theorem d_Law_law_531 : decode b_Law_law 531 = .ok (.iload 4, 2) := by decide +kernel
theorem d_Law_law_533 : decode b_Law_law 533 = .ok (.iconst 3, 1) := by decide +kernel
theorem d_Law_law_534 : decode b_Law_law 534 = .ok (.iadd, 1) := by decide +kernel
theorem d_Law_law_535 : decode b_Law_law 535 = .ok (.iaload, 1) := by decide +kernel
theorem d_Law_law_536 : decode b_Law_law 536 = .ok (.invokevirtual 57, 3) := by decide +kernel
theorem d_Law_law_539 : decode b_Law_law 539 = .ok (.pop2, 1) := by decide +kernel
theorem d_Law_law_540 : decode b_Law_law 540 = .ok (.goto 1000, 3) := by decide +kernel
theorem d_Law_law_543 : decode b_Law_law 543 = .ok (.aload_n 1, 1) := by decide +kernel
theorem d_Law_law_544 : decode b_Law_law 544 = .ok (.aload_n 0, 1) := by decide +kernel
theorem d_Law_law_545 : decode b_Law_law 545 = .ok (.iload 4, 2) := by decide +kernel
theorem d_Law_law_547 : decode b_Law_law 547 = .ok (.iconst 1, 1) := by decide +kernel
theorem d_Law_law_548 : decode b_Law_law 548 = .ok (.iadd, 1) := by decide +kernel
theorem d_Law_law_549 : decode b_Law_law 549 = .ok (.iaload, 1) := by decide +kernel
theorem d_Law_law_550 : decode b_Law_law 550 = .ok (.invokevirtual 58, 3) := by decide +kernel
theorem d_Law_law_553 : decode b_Law_law 553 = .ok (.pop, 1) := by decide +kernel
theorem d_Law_law_554 : decode b_Law_law 554 = .ok (.aload_n 2, 1) := by decide +kernel
theorem d_Law_law_555 : decode b_Law_law 555 = .ok (.aload_n 0, 1) := by decide +kernel
theorem d_Law_law_556 : decode b_Law_law 556 = .ok (.iload 4, 2) := by decide +kernel
theorem d_Law_law_558 : decode b_Law_law 558 = .ok (.iconst 1, 1) := by decide +kernel
theorem d_Law_law_559 : decode b_Law_law 559 = .ok (.iadd, 1) := by decide +kernel
theorem d_Law_law_560 : decode b_Law_law 560 = .ok (.iaload, 1) := by decide +kernel
theorem d_Law_law_561 : decode b_Law_law 561 = .ok (.invokevirtual 61, 3) := by decide +kernel
theorem d_Law_law_564 : decode b_Law_law 564 = .ok (.pop, 1) := by decide +kernel
theorem d_Law_law_565 : decode b_Law_law 565 = .ok (.goto 975, 3) := by decide +kernel
theorem d_Law_law_568 : decode b_Law_law 568 = .ok (.aload_n 1, 1) := by decide +kernel
theorem d_Law_law_569 : decode b_Law_law 569 = .ok (.aload_n 0, 1) := by decide +kernel
theorem d_Law_law_570 : decode b_Law_law 570 = .ok (.iload 4, 2) := by decide +kernel
theorem d_Law_law_572 : decode b_Law_law 572 = .ok (.iconst 1, 1) := by decide +kernel
theorem d_Law_law_573 : decode b_Law_law 573 = .ok (.iadd, 1) := by decide +kernel
theorem d_Law_law_574 : decode b_Law_law 574 = .ok (.iaload, 1) := by decide +kernel
theorem d_Law_law_575 : decode b_Law_law 575 = .ok (.aload_n 0, 1) := by decide +kernel
theorem d_Law_law_576 : decode b_Law_law 576 = .ok (.iload 4, 2) := by decide +kernel
theorem d_Law_law_578 : decode b_Law_law 578 = .ok (.iconst 2, 1) := by decide +kernel
theorem d_Law_law_579 : decode b_Law_law 579 = .ok (.iadd, 1) := by decide +kernel
theorem d_Law_law_580 : decode b_Law_law 580 = .ok (.iaload, 1) := by decide +kernel
theorem d_Law_law_581 : decode b_Law_law 581 = .ok (.invokevirtual 62, 3) := by decide +kernel
theorem d_Law_law_584 : decode b_Law_law 584 = .ok (.pop, 1) := by decide +kernel
theorem d_Law_law_585 : decode b_Law_law 585 = .ok (.aload_n 2, 1) := by decide +kernel
theorem d_Law_law_586 : decode b_Law_law 586 = .ok (.aload_n 0, 1) := by decide +kernel
theorem d_Law_law_587 : decode b_Law_law 587 = .ok (.iload 4, 2) := by decide +kernel
theorem d_Law_law_589 : decode b_Law_law 589 = .ok (.iconst 1, 1) := by decide +kernel
theorem d_Law_law_590 : decode b_Law_law 590 = .ok (.iadd, 1) := by decide +kernel
theorem d_Law_law_591 : decode b_Law_law 591 = .ok (.iaload, 1) := by decide +kernel
theorem d_Law_law_592 : decode b_Law_law 592 = .ok (.aload_n 0, 1) := by decide +kernel
theorem d_Law_law_593 : decode b_Law_law 593 = .ok (.iload 4, 2) := by decide +kernel
theorem d_Law_law_595 : decode b_Law_law 595 = .ok (.iconst 2, 1) := by decide +kernel
theorem d_Law_law_596 : decode b_Law_law 596 = .ok (.iadd, 1) := by decide +kernel
theorem d_Law_law_597 : decode b_Law_law 597 = .ok (.iaload, 1) := by decide +kernel
theorem d_Law_law_598 : decode b_Law_law 598 = .ok (.invokevirtual 65, 3) := by decide +kernel
theorem d_Law_law_601 : decode b_Law_law 601 = .ok (.pop, 1) := by decide +kernel
theorem d_Law_law_602 : decode b_Law_law 602 = .ok (.goto 938, 3) := by decide +kernel
theorem d_Law_law_605 : decode b_Law_law 605 = .ok (.aload_n 1, 1) := by decide +kernel
theorem d_Law_law_606 : decode b_Law_law 606 = .ok (.aload_n 0, 1) := by decide +kernel
theorem d_Law_law_607 : decode b_Law_law 607 = .ok (.iload 4, 2) := by decide +kernel
theorem d_Law_law_609 : decode b_Law_law 609 = .ok (.iconst 1, 1) := by decide +kernel
theorem d_Law_law_610 : decode b_Law_law 610 = .ok (.iadd, 1) := by decide +kernel
theorem d_Law_law_611 : decode b_Law_law 611 = .ok (.iaload, 1) := by decide +kernel
theorem d_Law_law_612 : decode b_Law_law 612 = .ok (.aload_n 0, 1) := by decide +kernel
theorem d_Law_law_613 : decode b_Law_law 613 = .ok (.iload 4, 2) := by decide +kernel
theorem d_Law_law_615 : decode b_Law_law 615 = .ok (.iconst 2, 1) := by decide +kernel
theorem d_Law_law_616 : decode b_Law_law 616 = .ok (.iadd, 1) := by decide +kernel
theorem d_Law_law_617 : decode b_Law_law 617 = .ok (.iaload, 1) := by decide +kernel
theorem d_Law_law_618 : decode b_Law_law 618 = .ok (.invokevirtual 66, 3) := by decide +kernel
theorem d_Law_law_621 : decode b_Law_law 621 = .ok (.pop, 1) := by decide +kernel
theorem d_Law_law_622 : decode b_Law_law 622 = .ok (.aload_n 2, 1) := by decide +kernel
theorem d_Law_law_623 : decode b_Law_law 623 = .ok (.aload_n 0, 1) := by decide +kernel
theorem d_Law_law_624 : decode b_Law_law 624 = .ok (.iload 4, 2) := by decide +kernel
theorem d_Law_law_626 : decode b_Law_law 626 = .ok (.iconst 1, 1) := by decide +kernel
theorem d_Law_law_627 : decode b_Law_law 627 = .ok (.iadd, 1) := by decide +kernel
theorem d_Law_law_628 : decode b_Law_law 628 = .ok (.iaload, 1) := by decide +kernel
theorem d_Law_law_629 : decode b_Law_law 629 = .ok (.aload_n 0, 1) := by decide +kernel
theorem d_Law_law_630 : decode b_Law_law 630 = .ok (.iload 4, 2) := by decide +kernel
theorem d_Law_law_632 : decode b_Law_law 632 = .ok (.iconst 2, 1) := by decide +kernel
theorem d_Law_law_633 : decode b_Law_law 633 = .ok (.iadd, 1) := by decide +kernel
theorem d_Law_law_634 : decode b_Law_law 634 = .ok (.iaload, 1) := by decide +kernel
theorem d_Law_law_635 : decode b_Law_law 635 = .ok (.invokevirtual 69, 3) := by decide +kernel
theorem d_Law_law_638 : decode b_Law_law 638 = .ok (.pop, 1) := by decide +kernel
theorem d_Law_law_639 : decode b_Law_law 639 = .ok (.goto 901, 3) := by decide +kernel
theorem d_Law_law_642 : decode b_Law_law 642 = .ok (.aload_n 1, 1) := by decide +kernel
theorem d_Law_law_643 : decode b_Law_law 643 = .ok (.aload_n 0, 1) := by decide +kernel
theorem d_Law_law_644 : decode b_Law_law 644 = .ok (.iload 4, 2) := by decide +kernel
theorem d_Law_law_646 : decode b_Law_law 646 = .ok (.iconst 1, 1) := by decide +kernel
theorem d_Law_law_647 : decode b_Law_law 647 = .ok (.iadd, 1) := by decide +kernel
theorem d_Law_law_648 : decode b_Law_law 648 = .ok (.iaload, 1) := by decide +kernel
theorem d_Law_law_649 : decode b_Law_law 649 = .ok (.invokevirtual 70, 3) := by decide +kernel
theorem d_Law_law_652 : decode b_Law_law 652 = .ok (.pop, 1) := by decide +kernel
theorem d_Law_law_653 : decode b_Law_law 653 = .ok (.aload_n 2, 1) := by decide +kernel
theorem d_Law_law_654 : decode b_Law_law 654 = .ok (.aload_n 0, 1) := by decide +kernel
theorem d_Law_law_655 : decode b_Law_law 655 = .ok (.iload 4, 2) := by decide +kernel
theorem d_Law_law_657 : decode b_Law_law 657 = .ok (.iconst 1, 1) := by decide +kernel
theorem d_Law_law_658 : decode b_Law_law 658 = .ok (.iadd, 1) := by decide +kernel
theorem d_Law_law_659 : decode b_Law_law 659 = .ok (.iaload, 1) := by decide +kernel
theorem d_Law_law_660 : decode b_Law_law 660 = .ok (.invokevirtual 73, 3) := by decide +kernel
theorem d_Law_law_663 : decode b_Law_law 663 = .ok (.pop, 1) := by decide +kernel
theorem d_Law_law_664 : decode b_Law_law 664 = .ok (.goto 876, 3) := by decide +kernel
theorem d_Law_law_667 : decode b_Law_law 667 = .ok (.aload_n 1, 1) := by decide +kernel
theorem d_Law_law_668 : decode b_Law_law 668 = .ok (.aload_n 0, 1) := by decide +kernel
theorem d_Law_law_669 : decode b_Law_law 669 = .ok (.iload 4, 2) := by decide +kernel
theorem d_Law_law_671 : decode b_Law_law 671 = .ok (.iconst 1, 1) := by decide +kernel
theorem d_Law_law_672 : decode b_Law_law 672 = .ok (.iadd, 1) := by decide +kernel
theorem d_Law_law_673 : decode b_Law_law 673 = .ok (.iaload, 1) := by decide +kernel
theorem d_Law_law_674 : decode b_Law_law 674 = .ok (.aload_n 0, 1) := by decide +kernel
theorem d_Law_law_675 : decode b_Law_law 675 = .ok (.iload 4, 2) := by decide +kernel
theorem d_Law_law_677 : decode b_Law_law 677 = .ok (.iconst 2, 1) := by decide +kernel
theorem d_Law_law_678 : decode b_Law_law 678 = .ok (.iadd, 1) := by decide +kernel
theorem d_Law_law_679 : decode b_Law_law 679 = .ok (.iaload, 1) := by decide +kernel
theorem d_Law_law_680 : decode b_Law_law 680 = .ok (.invokevirtual 74, 3) := by decide +kernel
theorem d_Law_law_683 : decode b_Law_law 683 = .ok (.pop, 1) := by decide +kernel
theorem d_Law_law_684 : decode b_Law_law 684 = .ok (.aload_n 2, 1) := by decide +kernel
theorem d_Law_law_685 : decode b_Law_law 685 = .ok (.aload_n 0, 1) := by decide +kernel
theorem d_Law_law_686 : decode b_Law_law 686 = .ok (.iload 4, 2) := by decide +kernel
theorem d_Law_law_688 : decode b_Law_law 688 = .ok (.iconst 1, 1) := by decide +kernel
theorem d_Law_law_689 : decode b_Law_law 689 = .ok (.iadd, 1) := by decide +kernel
theorem d_Law_law_690 : decode b_Law_law 690 = .ok (.iaload, 1) := by decide +kernel
theorem d_Law_law_691 : decode b_Law_law 691 = .ok (.aload_n 0, 1) := by decide +kernel
theorem d_Law_law_692 : decode b_Law_law 692 = .ok (.iload 4, 2) := by decide +kernel
theorem d_Law_law_694 : decode b_Law_law 694 = .ok (.iconst 2, 1) := by decide +kernel
theorem d_Law_law_695 : decode b_Law_law 695 = .ok (.iadd, 1) := by decide +kernel
theorem d_Law_law_696 : decode b_Law_law 696 = .ok (.iaload, 1) := by decide +kernel
theorem d_Law_law_697 : decode b_Law_law 697 = .ok (.invokevirtual 78, 3) := by decide +kernel
theorem d_Law_law_700 : decode b_Law_law 700 = .ok (.pop, 1) := by decide +kernel
theorem d_Law_law_701 : decode b_Law_law 701 = .ok (.goto 839, 3) := by decide +kernel
theorem d_Law_law_704 : decode b_Law_law 704 = .ok (.aload_n 1, 1) := by decide +kernel
theorem d_Law_law_705 : decode b_Law_law 705 = .ok (.aload_n 0, 1) := by decide +kernel
theorem d_Law_law_706 : decode b_Law_law 706 = .ok (.iload 4, 2) := by decide +kernel
theorem d_Law_law_708 : decode b_Law_law 708 = .ok (.iconst 1, 1) := by decide +kernel
theorem d_Law_law_709 : decode b_Law_law 709 = .ok (.iadd, 1) := by decide +kernel
theorem d_Law_law_710 : decode b_Law_law 710 = .ok (.iaload, 1) := by decide +kernel
theorem d_Law_law_711 : decode b_Law_law 711 = .ok (.aload_n 0, 1) := by decide +kernel
theorem d_Law_law_712 : decode b_Law_law 712 = .ok (.iload 4, 2) := by decide +kernel
theorem d_Law_law_714 : decode b_Law_law 714 = .ok (.iconst 2, 1) := by decide +kernel
theorem d_Law_law_715 : decode b_Law_law 715 = .ok (.iadd, 1) := by decide +kernel
theorem d_Law_law_716 : decode b_Law_law 716 = .ok (.iaload, 1) := by decide +kernel
theorem d_Law_law_717 : decode b_Law_law 717 = .ok (.ifCond .eq 7, 3) := by decide +kernel
theorem d_Law_law_720 : decode b_Law_law 720 = .ok (.iconst 1, 1) := by decide +kernel
theorem d_Law_law_721 : decode b_Law_law 721 = .ok (.goto 4, 3) := by decide +kernel
theorem d_Law_law_724 : decode b_Law_law 724 = .ok (.iconst 0, 1) := by decide +kernel
theorem d_Law_law_725 : decode b_Law_law 725 = .ok (.invokevirtual 79, 3) := by decide +kernel
theorem d_Law_law_728 : decode b_Law_law 728 = .ok (.pop, 1) := by decide +kernel
theorem d_Law_law_729 : decode b_Law_law 729 = .ok (.aload_n 2, 1) := by decide +kernel
theorem d_Law_law_730 : decode b_Law_law 730 = .ok (.aload_n 0, 1) := by decide +kernel
theorem d_Law_law_731 : decode b_Law_law 731 = .ok (.iload 4, 2) := by decide +kernel
theorem d_Law_law_733 : decode b_Law_law 733 = .ok (.iconst 1, 1) := by decide +kernel
theorem d_Law_law_734 : decode b_Law_law 734 = .ok (.iadd, 1) := by decide +kernel
theorem d_Law_law_735 : decode b_Law_law 735 = .ok (.iaload, 1) := by decide +kernel
theorem d_Law_law_736 : decode b_Law_law 736 = .ok (.aload_n 0, 1) := by decide +kernel
theorem d_Law_law_737 : decode b_Law_law 737 = .ok (.iload 4, 2) := by decide +kernel
theorem d_Law_law_739 : decode b_Law_law 739 = .ok (.iconst 2, 1) := by decide +kernel
theorem d_Law_law_740 : decode b_Law_law 740 = .ok (.iadd, 1) := by decide +kernel
theorem d_Law_law_741 : decode b_Law_law 741 = .ok (.iaload, 1) := by decide +kernel
theorem d_Law_law_742 : decode b_Law_law 742 = .ok (.ifCond .eq 7, 3) := by decide +kernel
theorem d_Law_law_745 : decode b_Law_law 745 = .ok (.iconst 1, 1) := by decide +kernel
theorem d_Law_law_746 : decode b_Law_law 746 = .ok (.goto 4, 3) := by decide +kernel
theorem d_Law_law_749 : decode b_Law_law 749 = .ok (.iconst 0, 1) := by decide +kernel
theorem d_Law_law_750 : decode b_Law_law 750 = .ok (.invokevirtual 83, 3) := by decide +kernel
theorem d_Law_law_753 : decode b_Law_law 753 = .ok (.pop, 1) := by decide +kernel
theorem d_Law_law_754 : decode b_Law_law 754 = .ok (.goto 786, 3) := by decide +kernel
theorem d_Law_law_757 : decode b_Law_law 757 = .ok (.aload_n 1, 1) := by decide +kernel
theorem d_Law_law_758 : decode b_Law_law 758 = .ok (.aload_n 0, 1) := by decide +kernel
theorem d_Law_law_759 : decode b_Law_law 759 = .ok (.iload 4, 2) := by decide +kernel
theorem d_Law_law_761 : decode b_Law_law 761 = .ok (.iconst 1, 1) := by decide +kernel
theorem d_Law_law_762 : decode b_Law_law 762 = .ok (.iadd, 1) := by decide +kernel
theorem d_Law_law_763 : decode b_Law_law 763 = .ok (.iaload, 1) := by decide +kernel
theorem d_Law_law_764 : decode b_Law_law 764 = .ok (.aload_n 0, 1) := by decide +kernel
theorem d_Law_law_765 : decode b_Law_law 765 = .ok (.iload 4, 2) := by decide +kernel
theorem d_Law_law_767 : decode b_Law_law 767 = .ok (.iconst 2, 1) := by decide +kernel
theorem d_Law_law_768 : decode b_Law_law 768 = .ok (.iadd, 1) := by decide +kernel
theorem d_Law_law_769 : decode b_Law_law 769 = .ok (.iaload, 1) := by decide +kernel
theorem d_Law_law_770 : decode b_Law_law 770 = .ok (.invokevirtual 84, 3) := by decide +kernel
theorem d_Law_law_773 : decode b_Law_law 773 = .ok (.pop, 1) := by decide +kernel
theorem d_Law_law_774 : decode b_Law_law 774 = .ok (.aload_n 2, 1) := by decide +kernel
theorem d_Law_law_775 : decode b_Law_law 775 = .ok (.aload_n 0, 1) := by decide +kernel
theorem d_Law_law_776 : decode b_Law_law 776 = .ok (.iload 4, 2) := by decide +kernel
theorem d_Law_law_778 : decode b_Law_law 778 = .ok (.iconst 1, 1) := by decide +kernel
theorem d_Law_law_779 : decode b_Law_law 779 = .ok (.iadd, 1) := by decide +kernel
theorem d_Law_law_780 : decode b_Law_law 780 = .ok (.iaload, 1) := by decide +kernel
theorem d_Law_law_781 : decode b_Law_law 781 = .ok (.aload_n 0, 1) := by decide +kernel
theorem d_Law_law_782 : decode b_Law_law 782 = .ok (.iload 4, 2) := by decide +kernel
theorem d_Law_law_784 : decode b_Law_law 784 = .ok (.iconst 2, 1) := by decide +kernel
theorem d_Law_law_785 : decode b_Law_law 785 = .ok (.iadd, 1) := by decide +kernel
theorem d_Law_law_786 : decode b_Law_law 786 = .ok (.iaload, 1) := by decide +kernel
theorem d_Law_law_787 : decode b_Law_law 787 = .ok (.invokevirtual 87, 3) := by decide +kernel
theorem d_Law_law_790 : decode b_Law_law 790 = .ok (.pop, 1) := by decide +kernel
theorem d_Law_law_791 : decode b_Law_law 791 = .ok (.goto 749, 3) := by decide +kernel
theorem d_Law_law_794 : decode b_Law_law 794 = .ok (.aload_n 1, 1) := by decide +kernel
theorem d_Law_law_795 : decode b_Law_law 795 = .ok (.aload_n 0, 1) := by decide +kernel
theorem d_Law_law_796 : decode b_Law_law 796 = .ok (.iload 4, 2) := by decide +kernel
theorem d_Law_law_798 : decode b_Law_law 798 = .ok (.iconst 1, 1) := by decide +kernel
theorem d_Law_law_799 : decode b_Law_law 799 = .ok (.iadd, 1) := by decide +kernel
theorem d_Law_law_800 : decode b_Law_law 800 = .ok (.iaload, 1) := by decide +kernel
theorem d_Law_law_801 : decode b_Law_law 801 = .ok (.aload_n 0, 1) := by decide +kernel
theorem d_Law_law_802 : decode b_Law_law 802 = .ok (.iload 4, 2) := by decide +kernel
theorem d_Law_law_804 : decode b_Law_law 804 = .ok (.iconst 2, 1) := by decide +kernel
theorem d_Law_law_805 : decode b_Law_law 805 = .ok (.iadd, 1) := by decide +kernel
theorem d_Law_law_806 : decode b_Law_law 806 = .ok (.iaload, 1) := by decide +kernel
theorem d_Law_law_807 : decode b_Law_law 807 = .ok (.invokevirtual 88, 3) := by decide +kernel
theorem d_Law_law_810 : decode b_Law_law 810 = .ok (.pop, 1) := by decide +kernel
theorem d_Law_law_811 : decode b_Law_law 811 = .ok (.aload_n 2, 1) := by decide +kernel
theorem d_Law_law_812 : decode b_Law_law 812 = .ok (.aload_n 0, 1) := by decide +kernel
theorem d_Law_law_813 : decode b_Law_law 813 = .ok (.iload 4, 2) := by decide +kernel
theorem d_Law_law_815 : decode b_Law_law 815 = .ok (.iconst 1, 1) := by decide +kernel
theorem d_Law_law_816 : decode b_Law_law 816 = .ok (.iadd, 1) := by decide +kernel
theorem d_Law_law_817 : decode b_Law_law 817 = .ok (.iaload, 1) := by decide +kernel
theorem d_Law_law_818 : decode b_Law_law 818 = .ok (.aload_n 0, 1) := by decide +kernel
theorem d_Law_law_819 : decode b_Law_law 819 = .ok (.iload 4, 2) := by decide +kernel
theorem d_Law_law_821 : decode b_Law_law 821 = .ok (.iconst 2, 1) := by decide +kernel
theorem d_Law_law_822 : decode b_Law_law 822 = .ok (.iadd, 1) := by decide +kernel
theorem d_Law_law_823 : decode b_Law_law 823 = .ok (.iaload, 1) := by decide +kernel
theorem d_Law_law_824 : decode b_Law_law 824 = .ok (.invokevirtual 91, 3) := by decide +kernel
theorem d_Law_law_827 : decode b_Law_law 827 = .ok (.pop, 1) := by decide +kernel
theorem d_Law_law_828 : decode b_Law_law 828 = .ok (.goto 712, 3) := by decide +kernel
theorem d_Law_law_831 : decode b_Law_law 831 = .ok (.aload_n 1, 1) := by decide +kernel
theorem d_Law_law_832 : decode b_Law_law 832 = .ok (.invokevirtual 92, 3) := by decide +kernel
theorem d_Law_law_835 : decode b_Law_law 835 = .ok (.pop, 1) := by decide +kernel
theorem d_Law_law_836 : decode b_Law_law 836 = .ok (.aload_n 2, 1) := by decide +kernel
theorem d_Law_law_837 : decode b_Law_law 837 = .ok (.invokevirtual 96, 3) := by decide +kernel
theorem d_Law_law_840 : decode b_Law_law 840 = .ok (.pop, 1) := by decide +kernel
theorem d_Law_law_841 : decode b_Law_law 841 = .ok (.goto 699, 3) := by decide +kernel
theorem d_Law_law_844 : decode b_Law_law 844 = .ok (.aload_n 1, 1) := by decide +kernel
theorem d_Law_law_845 : decode b_Law_law 845 = .ok (.aload_n 0, 1) := by decide +kernel
theorem d_Law_law_846 : decode b_Law_law 846 = .ok (.iload 4, 2) := by decide +kernel
theorem d_Law_law_848 : decode b_Law_law 848 = .ok (.iconst 1, 1) := by decide +kernel
theorem d_Law_law_849 : decode b_Law_law 849 = .ok (.iadd, 1) := by decide +kernel
theorem d_Law_law_850 : decode b_Law_law 850 = .ok (.iaload, 1) := by decide +kernel
theorem d_Law_law_851 : decode b_Law_law 851 = .ok (.aload_n 0, 1) := by decide +kernel
theorem d_Law_law_852 : decode b_Law_law 852 = .ok (.iload 4, 2) := by decide +kernel
theorem d_Law_law_854 : decode b_Law_law 854 = .ok (.iconst 2, 1) := by decide +kernel
theorem d_Law_law_855 : decode b_Law_law 855 = .ok (.iadd, 1) := by decide +kernel
theorem d_Law_law_856 : decode b_Law_law 856 = .ok (.iaload, 1) := by decide +kernel
theorem d_Law_law_857 : decode b_Law_law 857 = .ok (.invokevirtual 97, 3) := by decide +kernel
theorem d_Law_law_860 : decode b_Law_law 860 = .ok (.pop2, 1) := by decide +kernel
theorem d_Law_law_861 : decode b_Law_law 861 = .ok (.aload_n 2, 1) := by decide +kernel
theorem d_Law_law_862 : decode b_Law_law 862 = .ok (.aload_n 0, 1) := by decide +kernel
theorem d_Law_law_863 : decode b_Law_law 863 = .ok (.iload 4, 2) := by decide +kernel
theorem d_Law_law_865 : decode b_Law_law 865 = .ok (.iconst 1, 1) := by decide +kernel
theorem d_Law_law_866 : decode b_Law_law 866 = .ok (.iadd, 1) := by decide +kernel
theorem d_Law_law_867 : decode b_Law_law 867 = .ok (.iaload, 1) := by decide +kernel
theorem d_Law_law_868 : decode b_Law_law 868 = .ok (.aload_n 0, 1) := by decide +kernel
theorem d_Law_law_869 : decode b_Law_law 869 = .ok (.iload 4, 2) := by decide +kernel
theorem d_Law_law_871 : decode b_Law_law 871 = .ok (.iconst 2, 1) := by decide +kernel
theorem d_Law_law_872 : decode b_Law_law 872 = .ok (.iadd, 1) := by decide +kernel
theorem d_Law_law_873 : decode b_Law_law 873 = .ok (.iaload, 1) := by decide +kernel
theorem d_Law_law_874 : decode b_Law_law 874 = .ok (.invokevirtual 101, 3) := by decide +kernel
theorem d_Law_law_877 : decode b_Law_law 877 = .ok (.pop2, 1) := by decide +kernel
theorem d_Law_law_878 : decode b_Law_law 878 = .ok (.goto 662, 3) := by decide +kernel
theorem d_Law_law_881 : decode b_Law_law 881 = .ok (.aload_n 1, 1) := by decide +kernel
theorem d_Law_law_882 : decode b_Law_law 882 = .ok (.aload_n 0, 1) := by decide +kernel
theorem d_Law_law_883 : decode b_Law_law 883 = .ok (.iload 4, 2) := by decide +kernel
theorem d_Law_law_885 : decode b_Law_law 885 = .ok (.iconst 1, 1) := by decide +kernel
theorem d_Law_law_886 : decode b_Law_law 886 = .ok (.iadd, 1) := by decide +kernel
theorem d_Law_law_887 : decode b_Law_law 887 = .ok (.iaload, 1) := by decide +kernel
theorem d_Law_law_888 : decode b_Law_law 888 = .ok (.aload_n 0, 1) := by decide +kernel
theorem d_Law_law_889 : decode b_Law_law 889 = .ok (.iload 4, 2) := by decide +kernel
theorem d_Law_law_891 : decode b_Law_law 891 = .ok (.iconst 2, 1) := by decide +kernel
theorem d_Law_law_892 : decode b_Law_law 892 = .ok (.iadd, 1) := by decide +kernel
theorem d_Law_law_893 : decode b_Law_law 893 = .ok (.iaload, 1) := by decide +kernel
theorem d_Law_law_894 : decode b_Law_law 894 = .ok (.invokevirtual 102, 3) := by decide +kernel
theorem d_Law_law_897 : decode b_Law_law 897 = .ok (.pop, 1) := by decide +kernel
theorem d_Law_law_898 : decode b_Law_law 898 = .ok (.aload_n 2, 1) := by decide +kernel
theorem d_Law_law_899 : decode b_Law_law 899 = .ok (.aload_n 0, 1) := by decide +kernel
theorem d_Law_law_900 : decode b_Law_law 900 = .ok (.iload 4, 2) := by decide +kernel
theorem d_Law_law_902 : decode b_Law_law 902 = .ok (.iconst 1, 1) := by decide +kernel
theorem d_Law_law_903 : decode b_Law_law 903 = .ok (.iadd, 1) := by decide +kernel
theorem d_Law_law_904 : decode b_Law_law 904 = .ok (.iaload, 1) := by decide +kernel
theorem d_Law_law_905 : decode b_Law_law 905 = .ok (.aload_n 0, 1) := by decide +kernel
theorem d_Law_law_906 : decode b_Law_law 906 = .ok (.iload 4, 2) := by decide +kernel
theorem d_Law_law_908 : decode b_Law_law 908 = .ok (.iconst 2, 1) := by decide +kernel
theorem d_Law_law_909 : decode b_Law_law 909 = .ok (.iadd, 1) := by decide +kernel
theorem d_Law_law_910 : decode b_Law_law 910 = .ok (.iaload, 1) := by decide +kernel
theorem d_Law_law_911 : decode b_Law_law 911 = .ok (.invokevirtual 105, 3) := by decide +kernel
theorem d_Law_law_914 : decode b_Law_law 914 = .ok (.pop, 1) := by decide +kernel
theorem d_Law_law_915 : decode b_Law_law 915 = .ok (.goto 625, 3) := by decide +kernel
theorem d_Law_law_918 : decode b_Law_law 918 = .ok (.aload_n 1, 1) := by decide +kernel
theorem d_Law_law_919 : decode b_Law_law 919 = .ok (.aload_n 0, 1) := by decide +kernel
theorem d_Law_law_920 : decode b_Law_law 920 = .ok (.iload 4, 2) := by decide +kernel
theorem d_Law_law_922 : decode b_Law_law 922 = .ok (.iconst 1, 1) := by decide +kernel
theorem d_Law_law_923 : decode b_Law_law 923 = .ok (.iadd, 1) := by decide +kernel
theorem d_Law_law_924 : decode b_Law_law 924 = .ok (.iaload, 1) := by decide +kernel
theorem d_Law_law_925 : decode b_Law_law 925 = .ok (.aload_n 0, 1) := by decide +kernel
theorem d_Law_law_926 : decode b_Law_law 926 = .ok (.iload 4, 2) := by decide +kernel
theorem d_Law_law_928 : decode b_Law_law 928 = .ok (.iconst 2, 1) := by decide +kernel
theorem d_Law_law_929 : decode b_Law_law 929 = .ok (.iadd, 1) := by decide +kernel
theorem d_Law_law_930 : decode b_Law_law 930 = .ok (.iaload, 1) := by decide +kernel
theorem d_Law_law_931 : decode b_Law_law 931 = .ok (.aload_n 0, 1) := by decide +kernel
theorem d_Law_law_932 : decode b_Law_law 932 = .ok (.iload 4, 2) := by decide +kernel
theorem d_Law_law_934 : decode b_Law_law 934 = .ok (.iconst 3, 1) := by decide +kernel
theorem d_Law_law_935 : decode b_Law_law 935 = .ok (.iadd, 1) := by decide +kernel
theorem d_Law_law_936 : decode b_Law_law 936 = .ok (.iaload, 1) := by decide +kernel
theorem d_Law_law_937 : decode b_Law_law 937 = .ok (.invokevirtual 106, 3) := by decide +kernel
theorem d_Law_law_940 : decode b_Law_law 940 = .ok (.pop, 1) := by decide +kernel
theorem d_Law_law_941 : decode b_Law_law 941 = .ok (.aload_n 2, 1) := by decide +kernel
theorem d_Law_law_942 : decode b_Law_law 942 = .ok (.aload_n 0, 1) := by decide +kernel
theorem d_Law_law_943 : decode b_Law_law 943 = .ok (.iload 4, 2) := by decide +kernel
theorem d_Law_law_945 : decode b_Law_law 945 = .ok (.iconst 1, 1) := by decide +kernel
theorem d_Law_law_946 : decode b_Law_law 946 = .ok (.iadd, 1) := by decide +kernel
theorem d_Law_law_947 : decode b_Law_law 947 = .ok (.iaload, 1) := by decide +kernel
theorem d_Law_law_948 : decode b_Law_law 948 = .ok (.aload_n 0, 1) := by decide +kernel
theorem d_Law_law_949 : decode b_Law_law 949 = .ok (.iload 4, 2) := by decide +kernel
theorem d_Law_law_951 : decode b_Law_law 951 = .ok (.iconst 2, 1) := by decide +kernel
theorem d_Law_law_952 : decode b_Law_law 952 = .ok (.iadd, 1) := by decide +kernel
theorem d_Law_law_953 : decode b_Law_law 953 = .ok (.iaload, 1) := by decide +kernel
theorem d_Law_law_954 : decode b_Law_law 954 = .ok (.aload_n 0, 1) := by decide +kernel
theorem d_Law_law_955 : decode b_Law_law 955 = .ok (.iload 4, 2) := by decide +kernel
theorem d_Law_law_957 : decode b_Law_law 957 = .ok (.iconst 3, 1) := by decide +kernel
theorem d_Law_law_958 : decode b_Law_law 958 = .ok (.iadd, 1) := by decide +kernel
theorem d_Law_law_959 : decode b_Law_law 959 = .ok (.iaload, 1) := by decide +kernel
theorem d_Law_law_960 : decode b_Law_law 960 = .ok (.invokevirtual 110, 3) := by decide +kernel
theorem d_Law_law_963 : decode b_Law_law 963 = .ok (.pop, 1) := by decide +kernel
theorem d_Law_law_964 : decode b_Law_law 964 = .ok (.goto 576, 3) := by decide +kernel
theorem d_Law_law_967 : decode b_Law_law 967 = .ok (.aload_n 1, 1) := by decide +kernel
theorem d_Law_law_968 : decode b_Law_law 968 = .ok (.aload_n 0, 1) := by decide +kernel
theorem d_Law_law_969 : decode b_Law_law 969 = .ok (.iload 4, 2) := by decide +kernel
theorem d_Law_law_971 : decode b_Law_law 971 = .ok (.iconst 1, 1) := by decide +kernel
theorem d_Law_law_972 : decode b_Law_law 972 = .ok (.iadd, 1) := by decide +kernel
theorem d_Law_law_973 : decode b_Law_law 973 = .ok (.iaload, 1) := by decide +kernel
theorem d_Law_law_974 : decode b_Law_law 974 = .ok (.aload_n 0, 1) := by decide +kernel
theorem d_Law_law_975 : decode b_Law_law 975 = .ok (.iload 4, 2) := by decide +kernel
theorem d_Law_law_977 : decode b_Law_law 977 = .ok (.iconst 2, 1) := by decide +kernel
theorem d_Law_law_978 : decode b_Law_law 978 = .ok (.iadd, 1) := by decide +kernel
theorem d_Law_law_979 : decode b_Law_law 979 = .ok (.iaload, 1) := by decide +kernel
theorem d_Law_law_980 : decode b_Law_law 980 = .ok (.aload_n 0, 1) := by decide +kernel
theorem d_Law_law_981 : decode b_Law_law 981 = .ok (.iload 4, 2) := by decide +kernel
theorem d_Law_law_983 : decode b_Law_law 983 = .ok (.iconst 3, 1) := by decide +kernel
theorem d_Law_law_984 : decode b_Law_law 984 = .ok (.iadd, 1) := by decide +kernel
theorem d_Law_law_985 : decode b_Law_law 985 = .ok (.iaload, 1) := by decide +kernel
theorem d_Law_law_986 : decode b_Law_law 986 = .ok (.invokevirtual 111, 3) := by decide +kernel
theorem d_Law_law_989 : decode b_Law_law 989 = .ok (.pop, 1) := by decide +kernel
theorem d_Law_law_990 : decode b_Law_law 990 = .ok (.aload_n 2, 1) := by decide +kernel
theorem d_Law_law_991 : decode b_Law_law 991 = .ok (.aload_n 0, 1) := by decide +kernel
theorem d_Law_law_992 : decode b_Law_law 992 = .ok (.iload 4, 2) := by decide +kernel
theorem d_Law_law_994 : decode b_Law_law 994 = .ok (.iconst 1, 1) := by decide +kernel
theorem d_Law_law_995 : decode b_Law_law 995 = .ok (.iadd, 1) := by decide +kernel
theorem d_Law_law_996 : decode b_Law_law 996 = .ok (.iaload, 1) := by decide +kernel
theorem d_Law_law_997 : decode b_Law_law 997 = .ok (.aload_n 0, 1) := by decide +kernel
theorem d_Law_law_998 : decode b_Law_law 998 = .ok (.iload 4, 2) := by decide +kernel
theorem d_Law_law_1000 : decode b_Law_law 1000 = .ok (.iconst 2, 1) := by decide +kernel
theorem d_Law_law_1001 : decode b_Law_law 1001 = .ok (.iadd, 1) := by decide +kernel
theorem d_Law_law_1002 : decode b_Law_law 1002 = .ok (.iaload, 1) := by decide +kernel
theorem d_Law_law_1003 : decode b_Law_law 1003 = .ok (.aload_n 0, 1) := by decide +kernel
theorem d_Law_law_1004 : decode b_Law_law 1004 = .ok (.iload 4, 2) := by decide +kernel
theorem d_Law_law_1006 : decode b_Law_law 1006 = .ok (.iconst 3, 1) := by decide +kernel
theorem d_Law_law_1007 : decode b_Law_law 1007 = .ok (.iadd, 1) := by decide +kernel
theorem d_Law_law_1008 : decode b_Law_law 1008 = .ok (.iaload, 1) := by decide +kernel
theorem d_Law_law_1009 : decode b_Law_law 1009 = .ok (.invokevirtual 114, 3) := by decide +kernel
theorem d_Law_law_1012 : decode b_Law_law 1012 = .ok (.pop, 1) := by decide +kernel
theorem d_Law_law_1013 : decode b_Law_law 1013 = .ok (.goto 527, 3) := by decide +kernel
theorem d_Law_law_1016 : decode b_Law_law 1016 = .ok (.aload_n 1, 1) := by decide +kernel
theorem d_Law_law_1017 : decode b_Law_law 1017 = .ok (.aload_n 0, 1) := by decide +kernel
theorem d_Law_law_1018 : decode b_Law_law 1018 = .ok (.iload 4, 2) := by decide +kernel
theorem d_Law_law_1020 : decode b_Law_law 1020 = .ok (.iconst 1, 1) := by decide +kernel
theorem d_Law_law_1021 : decode b_Law_law 1021 = .ok (.iadd, 1) := by decide +kernel
theorem d_Law_law_1022 : decode b_Law_law 1022 = .ok (.iaload, 1) := by decide +kernel
theorem d_Law_law_1023 : decode b_Law_law 1023 = .ok (.aload_n 0, 1) := by decide +kernel
theorem d_Law_law_1024 : decode b_Law_law 1024 = .ok (.iload 4, 2) := by decide +kernel
theorem d_Law_law_1026 : decode b_Law_law 1026 = .ok (.iconst 2, 1) := by decide +kernel
theorem d_Law_law_1027 : decode b_Law_law 1027 = .ok (.iadd, 1) := by decide +kernel
theorem d_Law_law_1028 : decode b_Law_law 1028 = .ok (.iaload, 1) := by decide +kernel
theorem d_Law_law_1029 : decode b_Law_law 1029 = .ok (.aload_n 0, 1) := by decide +kernel
theorem d_Law_law_1030 : decode b_Law_law 1030 = .ok (.iload 4, 2) := by decide +kernel
theorem d_Law_law_1032 : decode b_Law_law 1032 = .ok (.iconst 3, 1) := by decide +kernel
theorem d_Law_law_1033 : decode b_Law_law 1033 = .ok (.iadd, 1) := by decide +kernel
theorem d_Law_law_1034 : decode b_Law_law 1034 = .ok (.iaload, 1) := by decide +kernel
theorem d_Law_law_1035 : decode b_Law_law 1035 = .ok (.invokevirtual 115, 3) := by decide +kernel
theorem d_Law_law_1038 : decode b_Law_law 1038 = .ok (.pop, 1) := by decide +kernel
theorem d_Law_law_1039 : decode b_Law_law 1039 = .ok (.aload_n 2, 1) := by decide +kernel
theorem d_Law_law_1040 : decode b_Law_law 1040 = .ok (.aload_n 0, 1) := by decide +kernel
theorem d_Law_law_1041 : decode b_Law_law 1041 = .ok (.iload 4, 2) := by decide +kernel
theorem d_Law_law_1043 : decode b_Law_law 1043 = .ok (.iconst 1, 1) := by decide +kernel
theorem d_Law_law_1044 : decode b_Law_law 1044 = .ok (.iadd, 1) := by decide +kernel
theorem d_Law_law_1045 : decode b_Law_law 1045 = .ok (.iaload, 1) := by decide +kernel
theorem d_Law_law_1046 : decode b_Law_law 1046 = .ok (.aload_n 0, 1) := by decide +kernel
theorem d_Law_law_1047 : decode b_Law_law 1047 = .ok (.iload 4, 2) := by decide +kernel
theorem d_Law_law_1049 : decode b_Law_law 1049 = .ok (.iconst 2, 1) := by decide +kernel
theorem d_Law_law_1050 : decode b_Law_law 1050 = .ok (.iadd, 1) := by decide +kernel
theorem d_Law_law_1051 : decode b_Law_law 1051 = .ok (.iaload, 1) := by decide +kernel
theorem d_Law_law_1052 : decode b_Law_law 1052 = .ok (.aload_n 0, 1) := by decide +kernel
theorem d_Law_law_1053 : decode b_Law_law 1053 = .ok (.iload 4, 2) := by decide +kernel
theorem d_Law_law_1055 : decode b_Law_law 1055 = .ok (.iconst 3, 1) := by decide +kernel
theorem d_Law_law_1056 : decode b_Law_law 1056 = .ok (.iadd, 1) := by decide +kernel
theorem d_Law_law_1057 : decode b_Law_law 1057 = .ok (.iaload, 1) := by decide +kernel
theorem d_Law_law_1058 : decode b_Law_law 1058 = .ok (.invokevirtual 118, 3) := by decide +kernel
theorem d_Law_law_1061 : decode b_Law_law 1061 = .ok (.pop, 1) := by decide +kernel
theorem d_Law_law_1062 : decode b_Law_law 1062 = .ok (.goto 478, 3) := by decide +kernel
theorem d_Law_law_1065 : decode b_Law_law 1065 = .ok (.aload_n 1, 1) := by decide +kernel
theorem d_Law_law_1066 : decode b_Law_law 1066 = .ok (.aload_n 0, 1) := by decide +kernel
theorem d_Law_law_1067 : decode b_Law_law 1067 = .ok (.iload 4, 2) := by decide +kernel
theorem d_Law_law_1069 : decode b_Law_law 1069 = .ok (.iconst 1, 1) := by decide +kernel
theorem d_Law_law_1070 : decode b_Law_law 1070 = .ok (.iadd, 1) := by decide +kernel
theorem d_Law_law_1071 : decode b_Law_law 1071 = .ok (.iaload, 1) := by decide +kernel
theorem d_Law_law_1072 : decode b_Law_law 1072 = .ok (.aload_n 0, 1) := by decide +kernel
theorem d_Law_law_1073 : decode b_Law_law 1073 = .ok (.iload 4, 2) := by decide +kernel
theorem d_Law_law_1075 : decode b_Law_law 1075 = .ok (.iconst 2, 1) := by decide +kernel
theorem d_Law_law_1076 : decode b_Law_law 1076 = .ok (.iadd, 1) := by decide +kernel
theorem d_Law_law_1077 : decode b_Law_law 1077 = .ok (.iaload, 1) := by decide +kernel
theorem d_Law_law_1078 : decode b_Law_law 1078 = .ok (.invokevirtual 119, 3) := by decide +kernel
theorem d_Law_law_1081 : decode b_Law_law 1081 = .ok (.pop, 1) := by decide +kernel
theorem d_Law_law_1082 : decode b_Law_law 1082 = .ok (.aload_n 2, 1) := by decide +kernel
theorem d_Law_law_1083 : decode b_Law_law 1083 = .ok (.aload_n 0, 1) := by decide +kernel
theorem d_Law_law_1084 : decode b_Law_law 1084 = .ok (.iload 4, 2) := by decide +kernel
theorem d_Law_law_1086 : decode b_Law_law 1086 = .ok (.iconst 1, 1) := by decide +kernel
theorem d_Law_law_1087 : decode b_Law_law 1087 = .ok (.iadd, 1) := by decide +kernel
theorem d_Law_law_1088 : decode b_Law_law 1088 = .ok (.iaload, 1) := by decide +kernel
theorem d_Law_law_1089 : decode b_Law_law 1089 = .ok (.aload_n 0, 1) := by decide +kernel
theorem d_Law_law_1090 : decode b_Law_law 1090 = .ok (.iload 4, 2) := by decide +kernel
theorem d_Law_law_1092 : decode b_Law_law 1092 = .ok (.iconst 2, 1) := by decide +kernel
theorem d_Law_law_1093 : decode b_Law_law 1093 = .ok (.iadd, 1) := by decide +kernel
theorem d_Law_law_1094 : decode b_Law_law 1094 = .ok (.iaload, 1) := by decide +kernel
theorem d_Law_law_1095 : decode b_Law_law 1095 = .ok (.invokevirtual 122, 3) := by decide +kernel
theorem d_Law_law_1098 : decode b_Law_law 1098 = .ok (.pop, 1) := by decide +kernel
theorem d_Law_law_1099 : decode b_Law_law 1099 = .ok (.goto 441, 3) := by decide +kernel
theorem d_Law_law_1102 : decode b_Law_law 1102 = .ok (.aload_n 1, 1) := by decide +kernel
theorem d_Law_law_1103 : decode b_Law_law 1103 = .ok (.invokevirtual 123, 3) := by decide +kernel
theorem d_Law_law_1106 : decode b_Law_law 1106 = .ok (.pop2, 1) := by decide +kernel
theorem d_Law_law_1107 : decode b_Law_law 1107 = .ok (.aload_n 2, 1) := by decide +kernel
theorem d_Law_law_1108 : decode b_Law_law 1108 = .ok (.invokevirtual 127, 3) := by decide +kernel
theorem d_Law_law_1111 : decode b_Law_law 1111 = .ok (.pop2, 1) := by decide +kernel
theorem d_Law_law_1112 : decode b_Law_law 1112 = .ok (.goto 428, 3) := by decide +kernel
theorem d_Law_law_1115 : decode b_Law_law 1115 = .ok (.aload_n 1, 1) := by decide +kernel
theorem d_Law_law_1116 : decode b_Law_law 1116 = .ok (.aload_n 0, 1) := by decide +kernel
theorem d_Law_law_1117 : decode b_Law_law 1117 = .ok (.iload 4, 2) := by decide +kernel
theorem d_Law_law_1119 : decode b_Law_law 1119 = .ok (.iconst 1, 1) := by decide +kernel
theorem d_Law_law_1120 : decode b_Law_law 1120 = .ok (.iadd, 1) := by decide +kernel
theorem d_Law_law_1121 : decode b_Law_law 1121 = .ok (.iaload, 1) := by decide +kernel
theorem d_Law_law_1122 : decode b_Law_law 1122 = .ok (.invokevirtual 128, 3) := by decide +kernel
theorem d_Law_law_1125 : decode b_Law_law 1125 = .ok (.pop, 1) := by decide +kernel
theorem d_Law_law_1126 : decode b_Law_law 1126 = .ok (.aload_n 2, 1) := by decide +kernel
theorem d_Law_law_1127 : decode b_Law_law 1127 = .ok (.aload_n 0, 1) := by decide +kernel
theorem d_Law_law_1128 : decode b_Law_law 1128 = .ok (.iload 4, 2) := by decide +kernel
theorem d_Law_law_1130 : decode b_Law_law 1130 = .ok (.iconst 1, 1) := by decide +kernel
theorem d_Law_law_1131 : decode b_Law_law 1131 = .ok (.iadd, 1) := by decide +kernel
theorem d_Law_law_1132 : decode b_Law_law 1132 = .ok (.iaload, 1) := by decide +kernel
theorem d_Law_law_1133 : decode b_Law_law 1133 = .ok (.invokevirtual 131, 3) := by decide +kernel
theorem d_Law_law_1136 : decode b_Law_law 1136 = .ok (.pop, 1) := by decide +kernel
theorem d_Law_law_1137 : decode b_Law_law 1137 = .ok (.goto 403, 3) := by decide +kernel
theorem d_Law_law_1140 : decode b_Law_law 1140 = .ok (.aload_n 1, 1) := by decide +kernel
theorem d_Law_law_1141 : decode b_Law_law 1141 = .ok (.invokevirtual 132, 3) := by decide +kernel
theorem d_Law_law_1144 : decode b_Law_law 1144 = .ok (.pop, 1) := by decide +kernel
theorem d_Law_law_1145 : decode b_Law_law 1145 = .ok (.aload_n 2, 1) := by decide +kernel
theorem d_Law_law_1146 : decode b_Law_law 1146 = .ok (.invokevirtual 135, 3) := by decide +kernel
theorem d_Law_law_1149 : decode b_Law_law 1149 = .ok (.pop, 1) := by decide +kernel
theorem d_Law_law_1150 : decode b_Law_law 1150 = .ok (.goto 390, 3) := by decide +kernel
theorem d_Law_law_1153 : decode b_Law_law 1153 = .ok (.aload_n 1, 1) := by decide +kernel
theorem d_Law_law_1154 : decode b_Law_law 1154 = .ok (.aload_n 0, 1) := by decide +kernel
theorem d_Law_law_1155 : decode b_Law_law 1155 = .ok (.iload 4, 2) := by decide +kernel
theorem d_Law_law_1157 : decode b_Law_law 1157 = .ok (.iconst 1, 1) := by decide +kernel
theorem d_Law_law_1158 : decode b_Law_law 1158 = .ok (.iadd, 1) := by decide +kernel
theorem d_Law_law_1159 : decode b_Law_law 1159 = .ok (.iaload, 1) := by decide +kernel
theorem d_Law_law_1160 : decode b_Law_law 1160 = .ok (.invokevirtual 136, 3) := by decide +kernel
theorem d_Law_law_1163 : decode b_Law_law 1163 = .ok (.pop, 1) := by decide +kernel
theorem d_Law_law_1164 : decode b_Law_law 1164 = .ok (.aload_n 2, 1) := by decide +kernel
theorem d_Law_law_1165 : decode b_Law_law 1165 = .ok (.aload_n 0, 1) := by decide +kernel
theorem d_Law_law_1166 : decode b_Law_law 1166 = .ok (.iload 4, 2) := by decide +kernel
theorem d_Law_law_1168 : decode b_Law_law 1168 = .ok (.iconst 1, 1) := by decide +kernel
theorem d_Law_law_1169 : decode b_Law_law 1169 = .ok (.iadd, 1) := by decide +kernel
theorem d_Law_law_1170 : decode b_Law_law 1170 = .ok (.iaload, 1) := by decide +kernel
theorem d_Law_law_1171 : decode b_Law_law 1171 = .ok (.invokevirtual 139, 3) := by decide +kernel
theorem d_Law_law_1174 : decode b_Law_law 1174 = .ok (.pop, 1) := by decide +kernel
theorem d_Law_law_1175 : decode b_Law_law 1175 = .ok (.goto 365, 3) := by decide +kernel
theorem d_Law_law_1178 : decode b_Law_law 1178 = .ok (.aload_n 1, 1) := by decide +kernel
theorem d_Law_law_1179 : decode b_Law_law 1179 = .ok (.aload_n 0, 1) := by decide +kernel
theorem d_Law_law_1180 : decode b_Law_law 1180 = .ok (.iload 4, 2) := by decide +kernel
theorem d_Law_law_1182 : decode b_Law_law 1182 = .ok (.iconst 1, 1) := by decide +kernel
theorem d_Law_law_1183 : decode b_Law_law 1183 = .ok (.iadd, 1) := by decide +kernel
theorem d_Law_law_1184 : decode b_Law_law 1184 = .ok (.iaload, 1) := by decide +kernel
theorem d_Law_law_1185 : decode b_Law_law 1185 = .ok (.invokevirtual 140, 3) := by decide +kernel
theorem d_Law_law_1188 : decode b_Law_law 1188 = .ok (.pop, 1) := by decide +kernel
theorem d_Law_law_1189 : decode b_Law_law 1189 = .ok (.aload_n 2, 1) := by decide +kernel
theorem d_Law_law_1190 : decode b_Law_law 1190 = .ok (.aload_n 0, 1) := by decide +kernel
theorem d_Law_law_1191 : decode b_Law_law 1191 = .ok (.iload 4, 2) := by decide +kernel
theorem d_Law_law_1193 : decode b_Law_law 1193 = .ok (.iconst 1, 1) := by decide +kernel
theorem d_Law_law_1194 : decode b_Law_law 1194 = .ok (.iadd, 1) := by decide +kernel
theorem d_Law_law_1195 : decode b_Law_law 1195 = .ok (.iaload, 1) := by decide +kernel
theorem d_Law_law_1196 : decode b_Law_law 1196 = .ok (.invokevirtual 143, 3) := by decide +kernel
theorem d_Law_law_1199 : decode b_Law_law 1199 = .ok (.pop, 1) := by decide +kernel
theorem d_Law_law_1200 : decode b_Law_law 1200 = .ok (.goto 340, 3) := by decide +kernel
theorem d_Law_law_1203 : decode b_Law_law 1203 = .ok (.aload_n 1, 1) := by decide +kernel
theorem d_Law_law_1204 : decode b_Law_law 1204 = .ok (.aload_n 0, 1) := by decide +kernel
theorem d_Law_law_1205 : decode b_Law_law 1205 = .ok (.iload 4, 2) := by decide +kernel
theorem d_Law_law_1207 : decode b_Law_law 1207 = .ok (.iconst 1, 1) := by decide +kernel
theorem d_Law_law_1208 : decode b_Law_law 1208 = .ok (.iadd, 1) := by decide +kernel
theorem d_Law_law_1209 : decode b_Law_law 1209 = .ok (.iaload, 1) := by decide +kernel
theorem d_Law_law_1210 : decode b_Law_law 1210 = .ok (.aload_n 0, 1) := by decide +kernel
theorem d_Law_law_1211 : decode b_Law_law 1211 = .ok (.iload 4, 2) := by decide +kernel
theorem d_Law_law_1213 : decode b_Law_law 1213 = .ok (.iconst 2, 1) := by decide +kernel
theorem d_Law_law_1214 : decode b_Law_law 1214 = .ok (.iadd, 1) := by decide +kernel
theorem d_Law_law_1215 : decode b_Law_law 1215 = .ok (.iaload, 1) := by decide +kernel
theorem d_Law_law_1216 : decode b_Law_law 1216 = .ok (.invokevirtual 144, 3) := by decide +kernel
theorem d_Law_law_1219 : decode b_Law_law 1219 = .ok (.pop, 1) := by decide +kernel
theorem d_Law_law_1220 : decode b_Law_law 1220 = .ok (.aload_n 2, 1) := by decide +kernel
theorem d_Law_law_1221 : decode b_Law_law 1221 = .ok (.aload_n 0, 1) := by decide +kernel
theorem d_Law_law_1222 : decode b_Law_law 1222 = .ok (.iload 4, 2) := by decide +kernel
theorem d_Law_law_1224 : decode b_Law_law 1224 = .ok (.iconst 1, 1) := by decide +kernel
theorem d_Law_law_1225 : decode b_Law_law 1225 = .ok (.iadd, 1) := by decide +kernel
theorem d_Law_law_1226 : decode b_Law_law 1226 = .ok (.iaload, 1) := by decide +kernel
theorem d_Law_law_1227 : decode b_Law_law 1227 = .ok (.aload_n 0, 1) := by decide +kernel
theorem d_Law_law_1228 : decode b_Law_law 1228 = .ok (.iload 4, 2) := by decide +kernel
theorem d_Law_law_1230 : decode b_Law_law 1230 = .ok (.iconst 2, 1) := by decide +kernel
theorem d_Law_law_1231 : decode b_Law_law 1231 = .ok (.iadd, 1) := by decide +kernel
theorem d_Law_law_1232 : decode b_Law_law 1232 = .ok (.iaload, 1) := by decide +kernel
theorem d_Law_law_1233 : decode b_Law_law 1233 = .ok (.invokevirtual 147, 3) := by decide +kernel
theorem d_Law_law_1236 : decode b_Law_law 1236 = .ok (.pop, 1) := by decide +kernel
theorem d_Law_law_1237 : decode b_Law_law 1237 = .ok (.goto 303, 3) := by decide +kernel
theorem d_Law_law_1240 : decode b_Law_law 1240 = .ok (.aload_n 1, 1) := by decide +kernel
theorem d_Law_law_1241 : decode b_Law_law 1241 = .ok (.aload_n 0, 1) := by decide +kernel
theorem d_Law_law_1242 : decode b_Law_law 1242 = .ok (.iload 4, 2) := by decide +kernel
theorem d_Law_law_1244 : decode b_Law_law 1244 = .ok (.iconst 1, 1) := by decide +kernel
theorem d_Law_law_1245 : decode b_Law_law 1245 = .ok (.iadd, 1) := by decide +kernel
theorem d_Law_law_1246 : decode b_Law_law 1246 = .ok (.iaload, 1) := by decide +kernel
theorem d_Law_law_1247 : decode b_Law_law 1247 = .ok (.aload_n 0, 1) := by decide +kernel
theorem d_Law_law_1248 : decode b_Law_law 1248 = .ok (.iload 4, 2) := by decide +kernel
theorem d_Law_law_1250 : decode b_Law_law 1250 = .ok (.iconst 2, 1) := by decide +kernel
theorem d_Law_law_1251 : decode b_Law_law 1251 = .ok (.iadd, 1) := by decide +kernel
theorem d_Law_law_1252 : decode b_Law_law 1252 = .ok (.iaload, 1) := by decide +kernel
theorem d_Law_law_1253 : decode b_Law_law 1253 = .ok (.invokevirtual 148, 3) := by decide +kernel
theorem d_Law_law_1256 : decode b_Law_law 1256 = .ok (.pop, 1) := by decide +kernel
theorem d_Law_law_1257 : decode b_Law_law 1257 = .ok (.aload_n 2, 1) := by decide +kernel
theorem d_Law_law_1258 : decode b_Law_law 1258 = .ok (.aload_n 0, 1) := by decide +kernel
theorem d_Law_law_1259 : decode b_Law_law 1259 = .ok (.iload 4, 2) := by decide +kernel
theorem d_Law_law_1261 : decode b_Law_law 1261 = .ok (.iconst 1, 1) := by decide +kernel
theorem d_Law_law_1262 : decode b_Law_law 1262 = .ok (.iadd, 1) := by decide +kernel
theorem d_Law_law_1263 : decode b_Law_law 1263 = .ok (.iaload, 1) := by decide +kernel
theorem d_Law_law_1264 : decode b_Law_law 1264 = .ok (.aload_n 0, 1) := by decide +kernel
theorem d_Law_law_1265 : decode b_Law_law 1265 = .ok (.iload 4, 2) := by decide +kernel
theorem d_Law_law_1267 : decode b_Law_law 1267 = .ok (.iconst 2, 1) := by decide +kernel
theorem d_Law_law_1268 : decode b_Law_law 1268 = .ok (.iadd, 1) := by decide +kernel
theorem d_Law_law_1269 : decode b_Law_law 1269 = .ok (.iaload, 1) := by decide +kernel
theorem d_Law_law_1270 : decode b_Law_law 1270 = .ok (.invokevirtual 151, 3) := by decide +kernel
theorem d_Law_law_1273 : decode b_Law_law 1273 = .ok (.pop, 1) := by decide +kernel
theorem d_Law_law_1274 : decode b_Law_law 1274 = .ok (.goto 266, 3) := by decide +kernel
theorem d_Law_law_1277 : decode b_Law_law 1277 = .ok (.aload_n 1, 1) := by decide +kernel
theorem d_Law_law_1278 : decode b_Law_law 1278 = .ok (.aload_n 0, 1) := by decide +kernel
theorem d_Law_law_1279 : decode b_Law_law 1279 = .ok (.iload 4, 2) := by decide +kernel
theorem d_Law_law_1281 : decode b_Law_law 1281 = .ok (.iconst 1, 1) := by decide +kernel
theorem d_Law_law_1282 : decode b_Law_law 1282 = .ok (.iadd, 1) := by decide +kernel
theorem d_Law_law_1283 : decode b_Law_law 1283 = .ok (.iaload, 1) := by decide +kernel
theorem d_Law_law_1284 : decode b_Law_law 1284 = .ok (.invokevirtual 152, 3) := by decide +kernel
theorem d_Law_law_1287 : decode b_Law_law 1287 = .ok (.pop, 1) := by decide +kernel
theorem d_Law_law_1288 : decode b_Law_law 1288 = .ok (.aload_n 2, 1) := by decide +kernel
theorem d_Law_law_1289 : decode b_Law_law 1289 = .ok (.aload_n 0, 1) := by decide +kernel
theorem d_Law_law_1290 : decode b_Law_law 1290 = .ok (.iload 4, 2) := by decide +kernel
theorem d_Law_law_1292 : decode b_Law_law 1292 = .ok (.iconst 1, 1) := by decide +kernel
theorem d_Law_law_1293 : decode b_Law_law 1293 = .ok (.iadd, 1) := by decide +kernel
theorem d_Law_law_1294 : decode b_Law_law 1294 = .ok (.iaload, 1) := by decide +kernel
theorem d_Law_law_1295 : decode b_Law_law 1295 = .ok (.invokevirtual 155, 3) := by decide +kernel
theorem d_Law_law_1298 : decode b_Law_law 1298 = .ok (.pop, 1) := by decide +kernel
theorem d_Law_law_1299 : decode b_Law_law 1299 = .ok (.goto 241, 3) := by decide +kernel
theorem d_Law_law_1302 : decode b_Law_law 1302 = .ok (.aload_n 1, 1) := by decide +kernel
theorem d_Law_law_1303 : decode b_Law_law 1303 = .ok (.aload_n 0, 1) := by decide +kernel
theorem d_Law_law_1304 : decode b_Law_law 1304 = .ok (.iload 4, 2) := by decide +kernel
theorem d_Law_law_1306 : decode b_Law_law 1306 = .ok (.iconst 1, 1) := by decide +kernel
theorem d_Law_law_1307 : decode b_Law_law 1307 = .ok (.iadd, 1) := by decide +kernel
theorem d_Law_law_1308 : decode b_Law_law 1308 = .ok (.iaload, 1) := by decide +kernel
theorem d_Law_law_1309 : decode b_Law_law 1309 = .ok (.invokevirtual 156, 3) := by decide +kernel
theorem d_Law_law_1312 : decode b_Law_law 1312 = .ok (.pop, 1) := by decide +kernel
theorem d_Law_law_1313 : decode b_Law_law 1313 = .ok (.aload_n 2, 1) := by decide +kernel
theorem d_Law_law_1314 : decode b_Law_law 1314 = .ok (.aload_n 0, 1) := by decide +kernel
theorem d_Law_law_1315 : decode b_Law_law 1315 = .ok (.iload 4, 2) := by decide +kernel
theorem d_Law_law_1317 : decode b_Law_law 1317 = .ok (.iconst 1, 1) := by decide +kernel
theorem d_Law_law_1318 : decode b_Law_law 1318 = .ok (.iadd, 1) := by decide +kernel
theorem d_Law_law_1319 : decode b_Law_law 1319 = .ok (.iaload, 1) := by decide +kernel
theorem d_Law_law_1320 : decode b_Law_law 1320 = .ok (.invokevirtual 160, 3) := by decide +kernel
theorem d_Law_law_1323 : decode b_Law_law 1323 = .ok (.pop, 1) := by decide +kernel
theorem d_Law_law_1324 : decode b_Law_law 1324 = .ok (.goto 216, 3) := by decide +kernel
theorem d_Law_law_1327 : decode b_Law_law 1327 = .ok (.aload_n 1, 1) := by decide +kernel
theorem d_Law_law_1328 : decode b_Law_law 1328 = .ok (.invokevirtual 161, 3) := by decide +kernel
theorem d_Law_law_1331 : decode b_Law_law 1331 = .ok (.pop, 1) := by decide +kernel
theorem d_Law_law_1332 : decode b_Law_law 1332 = .ok (.aload_n 2, 1) := by decide +kernel
theorem d_Law_law_1333 : decode b_Law_law 1333 = .ok (.invokevirtual 164, 3) := by decide +kernel
theorem d_Law_law_1336 : decode b_Law_law 1336 = .ok (.pop, 1) := by decide +kernel
theorem d_Law_law_1337 : decode b_Law_law 1337 = .ok (.goto 203, 3) := by decide +kernel
theorem d_Law_law_1340 : decode b_Law_law 1340 = .ok (.aload_n 1, 1) := by decide +kernel
theorem d_Law_law_1341 : decode b_Law_law 1341 = .ok (.aload_n 0, 1) := by decide +kernel
theorem d_Law_law_1342 : decode b_Law_law 1342 = .ok (.iload 4, 2) := by decide +kernel
theorem d_Law_law_1344 : decode b_Law_law 1344 = .ok (.iconst 1, 1) := by decide +kernel
theorem d_Law_law_1345 : decode b_Law_law 1345 = .ok (.iadd, 1) := by decide +kernel
theorem d_Law_law_1346 : decode b_Law_law 1346 = .ok (.iaload, 1) := by decide +kernel
theorem d_Law_law_1347 : decode b_Law_law 1347 = .ok (.invokevirtual 165, 3) := by decide +kernel
theorem d_Law_law_1350 : decode b_Law_law 1350 = .ok (.pop, 1) := by decide +kernel
theorem d_Law_law_1351 : decode b_Law_law 1351 = .ok (.aload_n 2, 1) := by decide +kernel
theorem d_Law_law_1352 : decode b_Law_law 1352 = .ok (.aload_n 0, 1) := by decide +kernel
theorem d_Law_law_1353 : decode b_Law_law 1353 = .ok (.iload 4, 2) := by decide +kernel
theorem d_Law_law_1355 : decode b_Law_law 1355 = .ok (.iconst 1, 1) := by decide +kernel
theorem d_Law_law_1356 : decode b_Law_law 1356 = .ok (.iadd, 1) := by decide +kernel
theorem d_Law_law_1357 : decode b_Law_law 1357 = .ok (.iaload, 1) := by decide +kernel
theorem d_Law_law_1358 : decode b_Law_law 1358 = .ok (.invokevirtual 168, 3) := by decide +kernel
theorem d_Law_law_1361 : decode b_Law_law 1361 = .ok (.pop, 1) := by decide +kernel
theorem d_Law_law_1362 : decode b_Law_law 1362 = .ok (.goto 178, 3) := by decide +kernel
theorem d_Law_law_1365 : decode b_Law_law 1365 = .ok (.aload_n 1, 1) := by decide +kernel
theorem d_Law_law_1366 : decode b_Law_law 1366 = .ok (.aload_n 0, 1) := by decide +kernel
theorem d_Law_law_1367 : decode b_Law_law 1367 = .ok (.iload 4, 2) := by decide +kernel
theorem d_Law_law_1369 : decode b_Law_law 1369 = .ok (.iconst 1, 1) := by decide +kernel
theorem d_Law_law_1370 : decode b_Law_law 1370 = .ok (.iadd, 1) := by decide +kernel
theorem d_Law_law_1371 : decode b_Law_law 1371 = .ok (.iaload, 1) := by decide +kernel
theorem d_Law_law_1372 : decode b_Law_law 1372 = .ok (.invokevirtual 169, 3) := by decide +kernel
theorem d_Law_law_1375 : decode b_Law_law 1375 = .ok (.pop, 1) := by decide +kernel
theorem d_Law_law_1376 : decode b_Law_law 1376 = .ok (.aload_n 2, 1) := by decide +kernel
theorem d_Law_law_1377 : decode b_Law_law 1377 = .ok (.aload_n 0, 1) := by decide +kernel
theorem d_Law_law_1378 : decode b_Law_law 1378 = .ok (.iload 4, 2) := by decide +kernel
theorem d_Law_law_1380 : decode b_Law_law 1380 = .ok (.iconst 1, 1) := by decide +kernel
theorem d_Law_law_1381 : decode b_Law_law 1381 = .ok (.iadd, 1) := by decide +kernel
theorem d_Law_law_1382 : decode b_Law_law 1382 = .ok (.iaload, 1) := by decide +kernel
theorem d_Law_law_1383 : decode b_Law_law 1383 = .ok (.invokevirtual 172, 3) := by decide +kernel
theorem d_Law_law_1386 : decode b_Law_law 1386 = .ok (.pop, 1) := by decide +kernel
theorem d_Law_law_1387 : decode b_Law_law 1387 = .ok (.goto 153, 3) := by decide +kernel
theorem d_Law_law_1390 : decode b_Law_law 1390 = .ok (.aload_n 1, 1) := by decide +kernel
theorem d_Law_law_1391 : decode b_Law_law 1391 = .ok (.aload_n 0, 1) := by decide +kernel
theorem d_Law_law_1392 : decode b_Law_law 1392 = .ok (.iload 4, 2) := by decide +kernel
theorem d_Law_law_1394 : decode b_Law_law 1394 = .ok (.iconst 1, 1) := by decide +kernel
theorem d_Law_law_1395 : decode b_Law_law 1395 = .ok (.iadd, 1) := by decide +kernel
theorem d_Law_law_1396 : decode b_Law_law 1396 = .ok (.iaload, 1) := by decide +kernel
theorem d_Law_law_1397 : decode b_Law_law 1397 = .ok (.aload_n 0, 1) := by decide +kernel
theorem d_Law_law_1398 : decode b_Law_law 1398 = .ok (.iload 4, 2) := by decide +kernel
theorem d_Law_law_1400 : decode b_Law_law 1400 = .ok (.iconst 2, 1) := by decide +kernel
theorem d_Law_law_1401 : decode b_Law_law 1401 = .ok (.iadd, 1) := by decide +kernel
theorem d_Law_law_1402 : decode b_Law_law 1402 = .ok (.iaload, 1) := by decide +kernel
theorem d_Law_law_1403 : decode b_Law_law 1403 = .ok (.invokevirtual 173, 3) := by decide +kernel
theorem d_Law_law_1406 : decode b_Law_law 1406 = .ok (.pop, 1) := by decide +kernel
theorem d_Law_law_1407 : decode b_Law_law 1407 = .ok (.aload_n 2, 1) := by decide +kernel
theorem d_Law_law_1408 : decode b_Law_law 1408 = .ok (.aload_n 0, 1) := by decide +kernel
theorem d_Law_law_1409 : decode b_Law_law 1409 = .ok (.iload 4, 2) := by decide +kernel
theorem d_Law_law_1411 : decode b_Law_law 1411 = .ok (.iconst 1, 1) := by decide +kernel
theorem d_Law_law_1412 : decode b_Law_law 1412 = .ok (.iadd, 1) := by decide +kernel
theorem d_Law_law_1413 : decode b_Law_law 1413 = .ok (.iaload, 1) := by decide +kernel
theorem d_Law_law_1414 : decode b_Law_law 1414 = .ok (.aload_n 0, 1) := by decide +kernel
theorem d_Law_law_1415 : decode b_Law_law 1415 = .ok (.iload 4, 2) := by decide +kernel
theorem d_Law_law_1417 : decode b_Law_law 1417 = .ok (.iconst 2, 1) := by decide +kernel
theorem d_Law_law_1418 : decode b_Law_law 1418 = .ok (.iadd, 1) := by decide +kernel
theorem d_Law_law_1419 : decode b_Law_law 1419 = .ok (.iaload, 1) := by decide +kernel
theorem d_Law_law_1420 : decode b_Law_law 1420 = .ok (.invokevirtual 176, 3) := by decide +kernel
theorem d_Law_law_1423 : decode b_Law_law 1423 = .ok (.pop, 1) := by decide +kernel
theorem d_Law_law_1424 : decode b_Law_law 1424 = .ok (.goto 116, 3) := by decide +kernel
theorem d_Law_law_1427 : decode b_Law_law 1427 = .ok (.aload_n 1, 1) := by decide +kernel
theorem d_Law_law_1428 : decode b_Law_law 1428 = .ok (.aload_n 0, 1) := by decide +kernel
theorem d_Law_law_1429 : decode b_Law_law 1429 = .ok (.iload 4, 2) := by decide +kernel
theorem d_Law_law_1431 : decode b_Law_law 1431 = .ok (.iconst 1, 1) := by decide +kernel
theorem d_Law_law_1432 : decode b_Law_law 1432 = .ok (.iadd, 1) := by decide +kernel
theorem d_Law_law_1433 : decode b_Law_law 1433 = .ok (.iaload, 1) := by decide +kernel
theorem d_Law_law_1434 : decode b_Law_law 1434 = .ok (.aload_n 0, 1) := by decide +kernel
theorem d_Law_law_1435 : decode b_Law_law 1435 = .ok (.iload 4, 2) := by decide +kernel
theorem d_Law_law_1437 : decode b_Law_law 1437 = .ok (.iconst 2, 1) := by decide +kernel
theorem d_Law_law_1438 : decode b_Law_law 1438 = .ok (.iadd, 1) := by decide +kernel
theorem d_Law_law_1439 : decode b_Law_law 1439 = .ok (.iaload, 1) := by decide +kernel
theorem d_Law_law_1440 : decode b_Law_law 1440 = .ok (.aload_n 0, 1) := by decide +kernel
theorem d_Law_law_1441 : decode b_Law_law 1441 = .ok (.iload 4, 2) := by decide +kernel
theorem d_Law_law_1443 : decode b_Law_law 1443 = .ok (.iconst 3, 1) := by decide +kernel
theorem d_Law_law_1444 : decode b_Law_law 1444 = .ok (.iadd, 1) := by decide +kernel
theorem d_Law_law_1445 : decode b_Law_law 1445 = .ok (.iaload, 1) := by decide +kernel
theorem d_Law_law_1446 : decode b_Law_law 1446 = .ok (.invokevirtual 177, 3) := by decide +kernel
theorem d_Law_law_1449 : decode b_Law_law 1449 = .ok (.pop, 1) := by decide +kernel
theorem d_Law_law_1450 : decode b_Law_law 1450 = .ok (.aload_n 2, 1) := by decide +kernel
theorem d_Law_law_1451 : decode b_Law_law 1451 = .ok (.aload_n 0, 1) := by decide +kernel
theorem d_Law_law_1452 : decode b_Law_law 1452 = .ok (.iload 4, 2) := by decide +kernel
theorem d_Law_law_1454 : decode b_Law_law 1454 = .ok (.iconst 1, 1) := by decide +kernel
theorem d_Law_law_1455 : decode b_Law_law 1455 = .ok (.iadd, 1) := by decide +kernel
theorem d_Law_law_1456 : decode b_Law_law 1456 = .ok (.iaload, 1) := by decide +kernel
theorem d_Law_law_1457 : decode b_Law_law 1457 = .ok (.aload_n 0, 1) := by decide +kernel
theorem d_Law_law_1458 : decode b_Law_law 1458 = .ok (.iload 4, 2) := by decide +kernel
theorem d_Law_law_1460 : decode b_Law_law 1460 = .ok (.iconst 2, 1) := by decide +kernel
theorem d_Law_law_1461 : decode b_Law_law 1461 = .ok (.iadd, 1) := by decide +kernel
theorem d_Law_law_1462 : decode b_Law_law 1462 = .ok (.iaload, 1) := by decide +kernel
theorem d_Law_law_1463 : decode b_Law_law 1463 = .ok (.aload_n 0, 1) := by decide +kernel
theorem d_Law_law_1464 : decode b_Law_law 1464 = .ok (.iload 4, 2) := by decide +kernel
theorem d_Law_law_1466 : decode b_Law_law 1466 = .ok (.iconst 3, 1) := by decide +kernel
theorem d_Law_law_1467 : decode b_Law_law 1467 = .ok (.iadd, 1) := by decide +kernel
theorem d_Law_law_1468 : decode b_Law_law 1468 = .ok (.iaload, 1) := by decide +kernel
theorem d_Law_law_1469 : decode b_Law_law 1469 = .ok (.invokevirtual 180, 3) := by decide +kernel
theorem d_Law_law_1472 : decode b_Law_law 1472 = .ok (.pop, 1) := by decide +kernel
theorem d_Law_law_1473 : decode b_Law_law 1473 = .ok (.goto 67, 3) := by decide +kernel
theorem d_Law_law_1476 : decode b_Law_law 1476 = .ok (.aload_n 1, 1) := by decide +kernel
theorem d_Law_law_1477 : decode b_Law_law 1477 = .ok (.invokevirtual 181, 3) := by decide +kernel
theorem d_Law_law_1480 : decode b_Law_law 1480 = .ok (.pop, 1) := by decide +kernel
theorem d_Law_law_1481 : decode b_Law_law 1481 = .ok (.aload_n 2, 1) := by decide +kernel
theorem d_Law_law_1482 : decode b_Law_law 1482 = .ok (.invokevirtual 184, 3) := by decide +kernel
theorem d_Law_law_1485 : decode b_Law_law 1485 = .ok (.pop, 1) := by decide +kernel
theorem d_Law_law_1486 : decode b_Law_law 1486 = .ok (.goto 54, 3) := by decide +kernel
theorem d_Law_law_1489 : decode b_Law_law 1489 = .ok (.aload_n 1, 1) := by decide +kernel
theorem d_Law_law_1490 : decode b_Law_law 1490 = .ok (.invokevirtual 185, 3) := by decide +kernel
theorem d_Law_law_1493 : decode b_Law_law 1493 = .ok (.pop, 1) := by decide +kernel
theorem d_Law_law_1494 : decode b_Law_law 1494 = .ok (.aload_n 2, 1) := by decide +kernel
theorem d_Law_law_1495 : decode b_Law_law 1495 = .ok (.invokevirtual 188, 3) := by decide +kernel
theorem d_Law_law_1498 : decode b_Law_law 1498 = .ok (.pop, 1) := by decide +kernel
theorem d_Law_law_1499 : decode b_Law_law 1499 = .ok (.goto 41, 3) := by decide +kernel
theorem d_Law_law_1502 : decode b_Law_law 1502 = .ok (.aload_n 1, 1) := by decide +kernel
theorem d_Law_law_1503 : decode b_Law_law 1503 = .ok (.invokevirtual 189, 3) := by decide +kernel
theorem d_Law_law_1506 : decode b_Law_law 1506 = .ok (.pop, 1) := by decide +kernel
theorem d_Law_law_1507 : decode b_Law_law 1507 = .ok (.aload_n 2, 1) := by decide +kernel
theorem d_Law_law_1508 : decode b_Law_law 1508 = .ok (.invokevirtual 192, 3) := by decide +kernel
theorem d_Law_law_1511 : decode b_Law_law 1511 = .ok (.pop, 1) := by decide +kernel
theorem d_Law_law_1512 : decode b_Law_law 1512 = .ok (.goto 28, 3) := by decide +kernel
theorem d_Law_law_1515 : decode b_Law_law 1515 = .ok (.aload_n 1, 1) := by decide +kernel
theorem d_Law_law_1516 : decode b_Law_law 1516 = .ok (.aload_n 0, 1) := by decide +kernel
theorem d_Law_law_1517 : decode b_Law_law 1517 = .ok (.iload 4, 2) := by decide +kernel
theorem d_Law_law_1519 : decode b_Law_law 1519 = .ok (.iconst 1, 1) := by decide +kernel
theorem d_Law_law_1520 : decode b_Law_law 1520 = .ok (.iadd, 1) := by decide +kernel
theorem d_Law_law_1521 : decode b_Law_law 1521 = .ok (.iaload, 1) := by decide +kernel
theorem d_Law_law_1522 : decode b_Law_law 1522 = .ok (.invokevirtual 193, 3) := by decide +kernel
theorem d_Law_law_1525 : decode b_Law_law 1525 = .ok (.pop, 1) := by decide +kernel
theorem d_Law_law_1526 : decode b_Law_law 1526 = .ok (.aload_n 2, 1) := by decide +kernel
theorem d_Law_law_1527 : decode b_Law_law 1527 = .ok (.aload_n 0, 1) := by decide +kernel
theorem d_Law_law_1528 : decode b_Law_law 1528 = .ok (.iload 4, 2) := by decide +kernel
theorem d_Law_law_1530 : decode b_Law_law 1530 = .ok (.iconst 1, 1) := by decide +kernel
theorem d_Law_law_1531 : decode b_Law_law 1531 = .ok (.iadd, 1) := by decide +kernel
theorem d_Law_law_1532 : decode b_Law_law 1532 = .ok (.iaload, 1) := by decide +kernel
theorem d_Law_law_1533 : decode b_Law_law 1533 = .ok (.invokevirtual 196, 3) := by decide +kernel
theorem d_Law_law_1536 : decode b_Law_law 1536 = .ok (.pop, 1) := by decide +kernel
theorem d_Law_law_1537 : decode b_Law_law 1537 = .ok (.goto 3, 3) := by decide +kernel
theorem d_Law_law_1540 : decode b_Law_law 1540 = .ok (.iinc 4 6, 3) := by decide +kernel
theorem d_Law_law_1543 : decode b_Law_law 1543 = .ok (.goto (-1520), 3) := by decide +kernel
theorem d_Law_law_1546 : decode b_Law_law 1546 = .ok (.iconst 1, 1) := by decide +kernel
theorem d_Law_law_1547 : decode b_Law_law 1547 = .ok (.ireturn, 1) := by decide +kernel
